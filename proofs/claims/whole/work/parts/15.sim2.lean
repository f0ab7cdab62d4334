theorem zlr_c {a b : Value} {l k : List Value} (h : zvr a b) (h2 : zlr l k) : zlr (a :: l) (b :: k) := ⟨h, h2⟩
theorem zhr_1 (x : ZC) : zhr [x] [x] := ⟨zcr_rf x, trivial⟩
def zkeep (h h1 k k1 : ZH) : Prop := ∀ i : Nat, (∃ c, h[i]? = some c ∧ c.1 = 9) → k1[i]? = k[i]? ∧ ∃ c, h1[i]? = some c ∧ c.1 = 9
theorem zkeep_rf {h k : ZH} : zkeep h h k k := fun _ hi => ⟨rfl, hi⟩
theorem zkeep_app {h k : ZH} {x y : ZC} (hr : zhr h k) : zkeep h (h ++ [x]) k (k ++ [y]) := by
  intro i hi
  obtain ⟨c, c1, c2⟩ := hi
  have hl := (List.getElem?_eq_some_iff.mp c1).1
  rw [List.getElem?_append_left (by rw [zhr_len hr]; exact hl), List.getElem?_append_left hl]
  exact ⟨rfl, c, c1, c2⟩
theorem zkeep_tr {h h1 h2 k k1 k2 : ZH} (a : zkeep h h1 k k1) (b : zkeep h1 h2 k1 k2) : zkeep h h2 k k2 := fun i hi => ⟨(b i (a i hi).2).1.trans (a i hi).1, (b i (a i hi).2).2⟩
theorem zFl_9 {m idx : Nat} {q : Nat × Nat × Nat × Nat} (h : zkl m idx zFl = some q) : ¬ q.1 = 9 := by
  have := (zFl_ok _ (zkl_ok h).2.1).2.1
  dsimp only at this
  omega
set_option maxHeartbeats 4000000 in
theorem zI_sim {m pc pc1 : Nat} {L L1 st st1 K su : List Value} {h h1 k : ZH} (hs : zI m pc L st h = some (.inl (pc1, L1, st1, h1))) (hL : zlr L K) (hS : zlr st su) (hr : zhr h k) :
    ∃ (K1 su1 : List Value) (k1 : ZH), zI m pc K su k = some (.inl (pc1, K1, su1, k1)) ∧ zlr L1 K1 ∧ zlr st1 su1 ∧ zhr h1 k1 ∧ zkeep h h1 k k1 := by
  unfold zI at hs ⊢
  cases hf : zf m pc with
  | none => rw [hf] at hs; cases hs
  | some il =>
    obtain ⟨i, len⟩ := il
    rw [hf] at hs
    have hs1 := zcnd hs
    clear hs
    obtain ⟨hln, hs⟩ := hs1
    show ∃ (K1 su1 : List Value) (k1 : ZH), cond (zln i len) _ none = _ ∧ _
    rw [hln]
    cases i
    case iconst n =>
      cases hs
      exact ⟨_, _, _, rfl, hL, zlr_c (zvr_rf _) hS, hr, zkeep_rf⟩
    case bipush n =>
      cases hs
      exact ⟨_, _, _, rfl, hL, zlr_c (zvr_rf _) hS, hr, zkeep_rf⟩
    case sipush n =>
      cases hs
      exact ⟨_, _, _, rfl, hL, zlr_c (zvr_rf _) hS, hr, zkeep_rf⟩
    case lconst n =>
      cases hs
      exact ⟨_, _, _, rfl, hL, zlr_c (zvr_rf _) hS, hr, zkeep_rf⟩
    case aconst_null =>
      cases hs
      exact ⟨_, _, _, rfl, hL, zlr_c (zvr_rf _) hS, hr, zkeep_rf⟩
    case ldc idx =>
      obtain ⟨q, hq, hs⟩ := zbind hs
      cases hs
      refine ⟨_, _, _, ?_, hL, zlr_c (zvr_rf _) hS, hr, zkeep_rf⟩
      show (zkl m idx zKl).bind _ = _
      rw [hq]
      rfl
    case ldc2_w idx =>
      obtain ⟨q, hq, hs⟩ := zbind hs
      cases hs
      refine ⟨_, _, _, ?_, hL, zlr_c (zvr_rf _) hS, hr, zkeep_rf⟩
      show (zkl m idx zLl).bind _ = _
      rw [hq]
      rfl
    case getstatic idx =>
      obtain ⟨q, hq, hs⟩ := zbind hs
      cases hs
      refine ⟨_, _, _, ?_, hL, zlr_c (zvr_rf _) hS, hr, zkeep_rf⟩
      show (zkl m idx zSl).bind _ = _
      rw [hq]
      rfl
    case iload_n x =>
      obtain ⟨v, hv, hs⟩ := zbind hs
      cases hs
      refine ⟨_, _, _, ?_, hL, zlr_c (zvr_rf v) hS, hr, zkeep_rf⟩
      show (zload K x zisI).bind _ = _
      rw [zs_load rfl hL hv]
      rfl
    case iload x =>
      obtain ⟨v, hv, hs⟩ := zbind hs
      cases hs
      refine ⟨_, _, _, ?_, hL, zlr_c (zvr_rf v) hS, hr, zkeep_rf⟩
      show (zload K x zisI).bind _ = _
      rw [zs_load rfl hL hv]
      rfl
    case lload_n x =>
      obtain ⟨v, hv, hs⟩ := zbind hs
      cases hs
      refine ⟨_, _, _, ?_, hL, zlr_c (zvr_rf v) hS, hr, zkeep_rf⟩
      show (zload K x zisL).bind _ = _
      rw [zs_load rfl hL hv]
      rfl
    case lload x =>
      obtain ⟨v, hv, hs⟩ := zbind hs
      cases hs
      refine ⟨_, _, _, ?_, hL, zlr_c (zvr_rf v) hS, hr, zkeep_rf⟩
      show (zload K x zisL).bind _ = _
      rw [zs_load rfl hL hv]
      rfl
    case aload_n x =>
      obtain ⟨v, hv, hs⟩ := zbind hs
      cases hs
      refine ⟨_, _, _, ?_, hL, zlr_c (zvr_rf v) hS, hr, zkeep_rf⟩
      show (zload K x zisR).bind _ = _
      rw [zs_load rfl hL hv]
      rfl
    case aload x =>
      obtain ⟨v, hv, hs⟩ := zbind hs
      cases hs
      refine ⟨_, _, _, ?_, hL, zlr_c (zvr_rf v) hS, hr, zkeep_rf⟩
      show (zload K x zisR).bind _ = _
      rw [zs_load rfl hL hv]
      rfl
    case istore_n x =>
      dsimp only at hs
      split at hs
      · obtain ⟨L9, h9, hs⟩ := zbind hs
        cases hs
        obtain ⟨b, s1, rfl, hb, hT0⟩ := zlr_cons hS
        obtain rfl := zvr_int hb
        obtain ⟨K1, k1, k2⟩ := zs_st hL (zvr_rf _) h9
        refine ⟨K1, _, _, ?_, k2, hT0, hr, zkeep_rf⟩
        show (zst _ _ K).bind _ = _
        rw [k1]
        rfl
      · cases hs
    case istore x =>
      dsimp only at hs
      split at hs
      · obtain ⟨L9, h9, hs⟩ := zbind hs
        cases hs
        obtain ⟨b, s1, rfl, hb, hT0⟩ := zlr_cons hS
        obtain rfl := zvr_int hb
        obtain ⟨K1, k1, k2⟩ := zs_st hL (zvr_rf _) h9
        refine ⟨K1, _, _, ?_, k2, hT0, hr, zkeep_rf⟩
        show (zst _ _ K).bind _ = _
        rw [k1]
        rfl
      · cases hs
    case lstore_n x =>
      dsimp only at hs
      split at hs
      · obtain ⟨L9, h9, hs⟩ := zbind hs
        cases hs
        obtain ⟨b, s1, rfl, hb, hT0⟩ := zlr_cons hS
        obtain rfl := zvr_long hb
        obtain ⟨K1, k1, k2⟩ := zs_st hL (zvr_rf _) h9
        refine ⟨K1, _, _, ?_, k2, hT0, hr, zkeep_rf⟩
        show (zst _ _ K).bind _ = _
        rw [k1]
        rfl
      · cases hs
    case lstore x =>
      dsimp only at hs
      split at hs
      · obtain ⟨L9, h9, hs⟩ := zbind hs
        cases hs
        obtain ⟨b, s1, rfl, hb, hT0⟩ := zlr_cons hS
        obtain rfl := zvr_long hb
        obtain ⟨K1, k1, k2⟩ := zs_st hL (zvr_rf _) h9
        refine ⟨K1, _, _, ?_, k2, hT0, hr, zkeep_rf⟩
        show (zst _ _ K).bind _ = _
        rw [k1]
        rfl
      · cases hs
    case astore_n x =>
      dsimp only at hs
      split at hs
      · obtain ⟨L9, h9, hs⟩ := zbind hs
        cases hs
        obtain ⟨b, s1, rfl, hb, hT0⟩ := zlr_cons hS
        obtain rfl := zvr_ref hb
        obtain ⟨K1, k1, k2⟩ := zs_st hL (zvr_rf _) h9
        refine ⟨K1, _, _, ?_, k2, hT0, hr, zkeep_rf⟩
        show (zst _ _ K).bind _ = _
        rw [k1]
        rfl
      · obtain ⟨L9, h9, hs⟩ := zbind hs
        cases hs
        obtain ⟨b, s1, rfl, hb, hT0⟩ := zlr_cons hS
        obtain rfl := zvr_null hb
        obtain ⟨K1, k1, k2⟩ := zs_st hL (zvr_rf _) h9
        refine ⟨K1, _, _, ?_, k2, hT0, hr, zkeep_rf⟩
        show (zst _ _ K).bind _ = _
        rw [k1]
        rfl
      · cases hs
    case astore x =>
      dsimp only at hs
      split at hs
      · obtain ⟨L9, h9, hs⟩ := zbind hs
        cases hs
        obtain ⟨b, s1, rfl, hb, hT0⟩ := zlr_cons hS
        obtain rfl := zvr_ref hb
        obtain ⟨K1, k1, k2⟩ := zs_st hL (zvr_rf _) h9
        refine ⟨K1, _, _, ?_, k2, hT0, hr, zkeep_rf⟩
        show (zst _ _ K).bind _ = _
        rw [k1]
        rfl
      · obtain ⟨L9, h9, hs⟩ := zbind hs
        cases hs
        obtain ⟨b, s1, rfl, hb, hT0⟩ := zlr_cons hS
        obtain rfl := zvr_null hb
        obtain ⟨K1, k1, k2⟩ := zs_st hL (zvr_rf _) h9
        refine ⟨K1, _, _, ?_, k2, hT0, hr, zkeep_rf⟩
        show (zst _ _ K).bind _ = _
        rw [k1]
        rfl
      · cases hs
    case iinc x n =>
      dsimp only at hs
      split at hs
      · rename_i v hv
        obtain ⟨L9, h9, hs⟩ := zbind hs
        cases hs
        obtain ⟨w9, w1, w2⟩ := zlr_get hL hv
        obtain rfl := zvr_int w2
        obtain ⟨K1, k1, k2⟩ := zs_st hL (zvr_rf _) h9
        refine ⟨K1, _, _, ?_, k2, hS, hr, zkeep_rf⟩
        show (match K[x]? with | some (.int x9) => _ | _ => _) = _
        rw [w1]
        show (zst _ _ K).bind _ = _
        rw [k1]
        rfl
      · cases hs
    case iadd =>
      dsimp only at hs
      split at hs
      · cases hs
        obtain ⟨b0, s0, rfl, hb0, hT0⟩ := zlr_cons hS
        obtain rfl := zvr_int hb0
        obtain ⟨b1, s1, rfl, hb1, hT1⟩ := zlr_cons hT0
        obtain rfl := zvr_int hb1
        exact ⟨_, _, _, rfl, hL, zlr_c (zvr_rf _) hT1, hr, zkeep_rf⟩
      · cases hs
    case isub =>
      dsimp only at hs
      split at hs
      · cases hs
        obtain ⟨b0, s0, rfl, hb0, hT0⟩ := zlr_cons hS
        obtain rfl := zvr_int hb0
        obtain ⟨b1, s1, rfl, hb1, hT1⟩ := zlr_cons hT0
        obtain rfl := zvr_int hb1
        exact ⟨_, _, _, rfl, hL, zlr_c (zvr_rf _) hT1, hr, zkeep_rf⟩
      · cases hs
    case imul =>
      dsimp only at hs
      split at hs
      · cases hs
        obtain ⟨b0, s0, rfl, hb0, hT0⟩ := zlr_cons hS
        obtain rfl := zvr_int hb0
        obtain ⟨b1, s1, rfl, hb1, hT1⟩ := zlr_cons hT0
        obtain rfl := zvr_int hb1
        exact ⟨_, _, _, rfl, hL, zlr_c (zvr_rf _) hT1, hr, zkeep_rf⟩
      · cases hs
    case iand =>
      dsimp only at hs
      split at hs
      · cases hs
        obtain ⟨b0, s0, rfl, hb0, hT0⟩ := zlr_cons hS
        obtain rfl := zvr_int hb0
        obtain ⟨b1, s1, rfl, hb1, hT1⟩ := zlr_cons hT0
        obtain rfl := zvr_int hb1
        exact ⟨_, _, _, rfl, hL, zlr_c (zvr_rf _) hT1, hr, zkeep_rf⟩
      · cases hs
    case ishl =>
      dsimp only at hs
      split at hs
      · cases hs
        obtain ⟨b0, s0, rfl, hb0, hT0⟩ := zlr_cons hS
        obtain rfl := zvr_int hb0
        obtain ⟨b1, s1, rfl, hb1, hT1⟩ := zlr_cons hT0
        obtain rfl := zvr_int hb1
        exact ⟨_, _, _, rfl, hL, zlr_c (zvr_rf _) hT1, hr, zkeep_rf⟩
      · cases hs
    case ishr =>
      dsimp only at hs
      split at hs
      · cases hs
        obtain ⟨b0, s0, rfl, hb0, hT0⟩ := zlr_cons hS
        obtain rfl := zvr_int hb0
        obtain ⟨b1, s1, rfl, hb1, hT1⟩ := zlr_cons hT0
        obtain rfl := zvr_int hb1
        exact ⟨_, _, _, rfl, hL, zlr_c (zvr_rf _) hT1, hr, zkeep_rf⟩
      · cases hs
    case ineg =>
      dsimp only at hs
      split at hs
      · cases hs
        obtain ⟨b0, s0, rfl, hb0, hT0⟩ := zlr_cons hS
        obtain rfl := zvr_int hb0
        exact ⟨_, _, _, rfl, hL, zlr_c (zvr_rf _) hT0, hr, zkeep_rf⟩
      · cases hs
    case ladd =>
      dsimp only at hs
      split at hs
      · cases hs
        obtain ⟨b0, s0, rfl, hb0, hT0⟩ := zlr_cons hS
        obtain rfl := zvr_long hb0
        obtain ⟨b1, s1, rfl, hb1, hT1⟩ := zlr_cons hT0
        obtain rfl := zvr_long hb1
        exact ⟨_, _, _, rfl, hL, zlr_c (zvr_rf _) hT1, hr, zkeep_rf⟩
      · cases hs
    case lsub =>
      dsimp only at hs
      split at hs
      · cases hs
        obtain ⟨b0, s0, rfl, hb0, hT0⟩ := zlr_cons hS
        obtain rfl := zvr_long hb0
        obtain ⟨b1, s1, rfl, hb1, hT1⟩ := zlr_cons hT0
        obtain rfl := zvr_long hb1
        exact ⟨_, _, _, rfl, hL, zlr_c (zvr_rf _) hT1, hr, zkeep_rf⟩
      · cases hs
    case lmul =>
      dsimp only at hs
      split at hs
      · cases hs
        obtain ⟨b0, s0, rfl, hb0, hT0⟩ := zlr_cons hS
        obtain rfl := zvr_long hb0
        obtain ⟨b1, s1, rfl, hb1, hT1⟩ := zlr_cons hT0
        obtain rfl := zvr_long hb1
        exact ⟨_, _, _, rfl, hL, zlr_c (zvr_rf _) hT1, hr, zkeep_rf⟩
      · cases hs
    case lneg =>
      dsimp only at hs
      split at hs
      · cases hs
        obtain ⟨b0, s0, rfl, hb0, hT0⟩ := zlr_cons hS
        obtain rfl := zvr_long hb0
        exact ⟨_, _, _, rfl, hL, zlr_c (zvr_rf _) hT0, hr, zkeep_rf⟩
      · cases hs
    case lcmp =>
      dsimp only at hs
      split at hs
      · cases hs
        obtain ⟨b0, s0, rfl, hb0, hT0⟩ := zlr_cons hS
        obtain rfl := zvr_long hb0
        obtain ⟨b1, s1, rfl, hb1, hT1⟩ := zlr_cons hT0
        obtain rfl := zvr_long hb1
        exact ⟨_, _, _, rfl, hL, zlr_c (zvr_rf _) hT1, hr, zkeep_rf⟩
      · cases hs
    case i2l =>
      dsimp only at hs
      split at hs
      · cases hs
        obtain ⟨b0, s0, rfl, hb0, hT0⟩ := zlr_cons hS
        obtain rfl := zvr_int hb0
        exact ⟨_, _, _, rfl, hL, zlr_c (zvr_rf _) hT0, hr, zkeep_rf⟩
      · cases hs
    case l2i =>
      dsimp only at hs
      split at hs
      · cases hs
        obtain ⟨b0, s0, rfl, hb0, hT0⟩ := zlr_cons hS
        obtain rfl := zvr_long hb0
        exact ⟨_, _, _, rfl, hL, zlr_c (zvr_rf _) hT0, hr, zkeep_rf⟩
      · cases hs
    case idiv =>
      dsimp only at hs
      split at hs
      · split at hs
        · cases hs
        · rename_i hne
          cases hs
          obtain ⟨b0, s0, rfl, hb0, hT0⟩ := zlr_cons hS
          obtain rfl := zvr_int hb0
          obtain ⟨b1, s1, rfl, hb1, hT1⟩ := zlr_cons hT0
          obtain rfl := zvr_int hb1
          refine ⟨_, _, _, ?_, hL, zlr_c (zvr_rf _) hT1, hr, zkeep_rf⟩
          show (if _ then none else _) = _
          rw [if_neg hne]
      · cases hs
    case irem =>
      dsimp only at hs
      split at hs
      · split at hs
        · cases hs
        · rename_i hne
          cases hs
          obtain ⟨b0, s0, rfl, hb0, hT0⟩ := zlr_cons hS
          obtain rfl := zvr_int hb0
          obtain ⟨b1, s1, rfl, hb1, hT1⟩ := zlr_cons hT0
          obtain rfl := zvr_int hb1
          refine ⟨_, _, _, ?_, hL, zlr_c (zvr_rf _) hT1, hr, zkeep_rf⟩
          show (if _ then none else _) = _
          rw [if_neg hne]
      · cases hs
    case ldiv =>
      dsimp only at hs
      split at hs
      · split at hs
        · cases hs
        · rename_i hne
          cases hs
          obtain ⟨b0, s0, rfl, hb0, hT0⟩ := zlr_cons hS
          obtain rfl := zvr_long hb0
          obtain ⟨b1, s1, rfl, hb1, hT1⟩ := zlr_cons hT0
          obtain rfl := zvr_long hb1
          refine ⟨_, _, _, ?_, hL, zlr_c (zvr_rf _) hT1, hr, zkeep_rf⟩
          show (if _ then none else _) = _
          rw [if_neg hne]
      · cases hs
    case lrem =>
      dsimp only at hs
      split at hs
      · split at hs
        · cases hs
        · rename_i hne
          cases hs
          obtain ⟨b0, s0, rfl, hb0, hT0⟩ := zlr_cons hS
          obtain rfl := zvr_long hb0
          obtain ⟨b1, s1, rfl, hb1, hT1⟩ := zlr_cons hT0
          obtain rfl := zvr_long hb1
          refine ⟨_, _, _, ?_, hL, zlr_c (zvr_rf _) hT1, hr, zkeep_rf⟩
          show (if _ then none else _) = _
          rw [if_neg hne]
      · cases hs
    case dup =>
      dsimp only at hs
      split at hs
      · obtain ⟨h9, hs⟩ := zcnd hs
        cases hs
        obtain ⟨b0, s0, rfl, hb0, hT0⟩ := zlr_cons hS
        refine ⟨_, _, _, ?_, hL, zlr_c hb0 (zlr_c hb0 hT0), hr, zkeep_rf⟩
        show cond (decide (b0.category = 1)) _ none = _
        rw [zvr_cat hb0, h9]
        rfl
      · cases hs
    case pop =>
      dsimp only at hs
      split at hs
      · obtain ⟨h9, hs⟩ := zcnd hs
        cases hs
        obtain ⟨b0, s0, rfl, hb0, hT0⟩ := zlr_cons hS
        refine ⟨_, _, _, ?_, hL, hT0, hr, zkeep_rf⟩
        show cond (decide (b0.category = 1)) _ none = _
        rw [zvr_cat hb0, h9]
        rfl
      · cases hs
    case goto off =>
      obtain ⟨t, ht, hs⟩ := zbind hs
      cases hs
      refine ⟨_, _, _, ?_, hL, hS, hr, zkeep_rf⟩
      show (zjm pc off).bind _ = _
      rw [ht]
      rfl
    case ifCond cd off =>
      dsimp only at hs
      split at hs
      · rename_i x r
        obtain ⟨t, ht, hs⟩ := zbind hs
        obtain ⟨b0, s0, rfl, hb0, hT0⟩ := zlr_cons hS
        obtain rfl := zvr_int hb0
        cases hz : zcond cd x 0
        · rw [hz] at hs
          cases hs
          refine ⟨_, _, _, ?_, hL, hT0, hr, zkeep_rf⟩
          show (zjm pc off).bind _ = _
          rw [ht]
          show cond (zcond cd x 0) _ _ = _
          rw [hz]
          rfl
        · rw [hz] at hs
          cases hs
          refine ⟨_, _, _, ?_, hL, hT0, hr, zkeep_rf⟩
          show (zjm pc off).bind _ = _
          rw [ht]
          show cond (zcond cd x 0) _ _ = _
          rw [hz]
          rfl
      · cases hs
    case if_icmp cd off =>
      dsimp only at hs
      split at hs
      · rename_i y x r
        obtain ⟨t, ht, hs⟩ := zbind hs
        obtain ⟨b0, s0, rfl, hb0, hT0⟩ := zlr_cons hS
        obtain rfl := zvr_int hb0
        obtain ⟨b1, s1, rfl, hb1, hT1⟩ := zlr_cons hT0
        obtain rfl := zvr_int hb1
        cases hz : zcond cd x y
        · rw [hz] at hs
          cases hs
          refine ⟨_, _, _, ?_, hL, hT1, hr, zkeep_rf⟩
          show (zjm pc off).bind _ = _
          rw [ht]
          show cond (zcond cd x y) _ _ = _
          rw [hz]
          rfl
        · rw [hz] at hs
          cases hs
          refine ⟨_, _, _, ?_, hL, hT1, hr, zkeep_rf⟩
          show (zjm pc off).bind _ = _
          rw [ht]
          show cond (zcond cd x y) _ _ = _
          rw [hz]
          rfl
      · cases hs
    case ifnull off =>
      dsimp only at hs
      split at hs
      · cases hs
        obtain ⟨b0, s0, rfl, hb0, hT0⟩ := zlr_cons hS
        obtain rfl := zvr_ref hb0
        exact ⟨_, _, _, rfl, hL, hT0, hr, zkeep_rf⟩
      · obtain ⟨t, ht, hs⟩ := zbind hs
        cases hs
        obtain ⟨b0, s0, rfl, hb0, hT0⟩ := zlr_cons hS
        obtain rfl := zvr_null hb0
        refine ⟨_, _, _, ?_, hL, hT0, hr, zkeep_rf⟩
        show (zjm pc off).bind _ = _
        rw [ht]
        rfl
      · cases hs
    case ifnonnull off =>
      dsimp only at hs
      split at hs
      · obtain ⟨t, ht, hs⟩ := zbind hs
        cases hs
        obtain ⟨b0, s0, rfl, hb0, hT0⟩ := zlr_cons hS
        obtain rfl := zvr_ref hb0
        refine ⟨_, _, _, ?_, hL, hT0, hr, zkeep_rf⟩
        show (zjm pc off).bind _ = _
        rw [ht]
        rfl
      · cases hs
        obtain ⟨b0, s0, rfl, hb0, hT0⟩ := zlr_cons hS
        obtain rfl := zvr_null hb0
        exact ⟨_, _, _, rfl, hL, hT0, hr, zkeep_rf⟩
      · cases hs
    case tableswitch df lo hi offs =>
      dsimp only at hs
      split at hs
      · split at hs
        · rename_i hout
          obtain ⟨t, ht, hs⟩ := zbind hs
          cases hs
          obtain ⟨b0, s0, rfl, hb0, hT0⟩ := zlr_cons hS
          obtain rfl := zvr_int hb0
          refine ⟨_, _, _, ?_, hL, hT0, hr, zkeep_rf⟩
          show (if _ then _ else _) = _
          rw [if_pos hout]
          show (zjm pc df).bind _ = _
          rw [ht]
          rfl
        · rename_i hout
          obtain ⟨off, ho, hs⟩ := zbind hs
          obtain ⟨t, ht, hs⟩ := zbind hs
          cases hs
          obtain ⟨b0, s0, rfl, hb0, hT0⟩ := zlr_cons hS
          obtain rfl := zvr_int hb0
          refine ⟨_, _, _, ?_, hL, hT0, hr, zkeep_rf⟩
          show (if _ then _ else _) = _
          rw [if_neg hout, ho]
          show (zjm pc off).bind _ = _
          rw [ht]
          rfl
      · cases hs
    case getfield idx =>
      dsimp only at hs
      split at hs
      · rename_i a r
        obtain ⟨q, hq, hs⟩ := zbind hs
        obtain ⟨v, hv, hs⟩ := zbind hs
        cases hs
        obtain ⟨b0, s0, rfl, hb0, hT0⟩ := zlr_cons hS
        obtain rfl := zvr_ref hb0
        obtain ⟨w9, w1, w2⟩ := zs_get hr (zFl_9 hq) hv
        refine ⟨_, _, _, ?_, hL, zlr_c w2 hT0, hr, zkeep_rf⟩
        show (zkl m idx zFl).bind _ = _
        rw [hq]
        show (zget k a q.1 q.2.1).bind _ = _
        rw [w1]
        rfl
      · cases hs
    case putfield idx =>
      dsimp only at hs
      split at hs
      · rename_i v a r
        obtain ⟨q, hq, hs⟩ := zbind hs
        obtain ⟨h9, hv, hs⟩ := zbind hs
        cases hs
        obtain ⟨b0, s0, rfl, hb0, hT0⟩ := zlr_cons hS
        obtain ⟨b1, s1, rfl, hb1, hT1⟩ := zlr_cons hT0
        obtain rfl := zvr_ref hb1
        obtain ⟨k9, w1, w2, w3⟩ := zs_put hr (zFl_9 hq) hb0 hv
        refine ⟨_, _, k9, ?_, hL, hT1, w2, w3⟩
        show (zkl m idx zFl).bind _ = _
        rw [hq]
        show (zput k a q.1 q.2.1 b0).bind _ = _
        rw [w1]
        rfl
      · cases hs
    case iaload =>
      dsimp only at hs
      split at hs
      · rename_i i a r
        obtain ⟨v, hv, hs⟩ := zbind hs
        cases hs
        obtain ⟨b0, s0, rfl, hb0, hT0⟩ := zlr_cons hS
        obtain rfl := zvr_int hb0
        obtain ⟨b1, s1, rfl, hb1, hT1⟩ := zlr_cons hT0
        obtain rfl := zvr_ref hb1
        obtain ⟨w9, w1, w2⟩ := zs_ald (Or.inl rfl) hr hv
        refine ⟨_, _, _, ?_, hL, zlr_c w2 hT1, hr, zkeep_rf⟩
        show (zald 10 k a i).bind _ = _
        rw [w1]
        rfl
      · cases hs
    case laload =>
      dsimp only at hs
      split at hs
      · rename_i i a r
        obtain ⟨v, hv, hs⟩ := zbind hs
        cases hs
        obtain ⟨b0, s0, rfl, hb0, hT0⟩ := zlr_cons hS
        obtain rfl := zvr_int hb0
        obtain ⟨b1, s1, rfl, hb1, hT1⟩ := zlr_cons hT0
        obtain rfl := zvr_ref hb1
        obtain ⟨w9, w1, w2⟩ := zs_ald (Or.inr (Or.inl rfl)) hr hv
        refine ⟨_, _, _, ?_, hL, zlr_c w2 hT1, hr, zkeep_rf⟩
        show (zald 11 k a i).bind _ = _
        rw [w1]
        rfl
      · cases hs
    case aaload =>
      dsimp only at hs
      split at hs
      · rename_i i a r
        obtain ⟨v, hv, hs⟩ := zbind hs
        cases hs
        obtain ⟨b0, s0, rfl, hb0, hT0⟩ := zlr_cons hS
        obtain rfl := zvr_int hb0
        obtain ⟨b1, s1, rfl, hb1, hT1⟩ := zlr_cons hT0
        obtain rfl := zvr_ref hb1
        obtain ⟨w9, w1, w2⟩ := zs_ald (Or.inr (Or.inr rfl)) hr hv
        refine ⟨_, _, _, ?_, hL, zlr_c w2 hT1, hr, zkeep_rf⟩
        show (zald 12 k a i).bind _ = _
        rw [w1]
        rfl
      · cases hs
    case iastore =>
      dsimp only at hs
      split at hs
      · rename_i x i a r
        obtain ⟨h9, hv, hs⟩ := zbind hs
        cases hs
        obtain ⟨b0, s0, rfl, hb0, hT0⟩ := zlr_cons hS
        obtain rfl := zvr_int hb0
        obtain ⟨b1, s1, rfl, hb1, hT1⟩ := zlr_cons hT0
        obtain rfl := zvr_int hb1
        obtain ⟨b2, s2, rfl, hb2, hT2⟩ := zlr_cons hT1
        obtain rfl := zvr_ref hb2
        obtain ⟨k9, w1, w2, w3⟩ := zs_ast (by decide) hr (zvr_rf _) hv
        refine ⟨_, _, k9, ?_, hL, hT2, w2, w3⟩
        show (zast 10 k a i _).bind _ = _
        rw [w1]
        rfl
      · cases hs
    case lastore =>
      dsimp only at hs
      split at hs
      · rename_i x i a r
        obtain ⟨h9, hv, hs⟩ := zbind hs
        cases hs
        obtain ⟨b0, s0, rfl, hb0, hT0⟩ := zlr_cons hS
        obtain rfl := zvr_long hb0
        obtain ⟨b1, s1, rfl, hb1, hT1⟩ := zlr_cons hT0
        obtain rfl := zvr_int hb1
        obtain ⟨b2, s2, rfl, hb2, hT2⟩ := zlr_cons hT1
        obtain rfl := zvr_ref hb2
        obtain ⟨k9, w1, w2, w3⟩ := zs_ast (by decide) hr (zvr_rf _) hv
        refine ⟨_, _, k9, ?_, hL, hT2, w2, w3⟩
        show (zast 11 k a i _).bind _ = _
        rw [w1]
        rfl
      · cases hs
    case aastore =>
      dsimp only at hs
      split at hs
      · rename_i b i a r
        obtain ⟨t, ht, hs⟩ := zbind hs
        obtain ⟨h9, hv, hs⟩ := zbind hs
        cases hs
        obtain ⟨b0, s0, rfl, hb0, hT0⟩ := zlr_cons hS
        obtain rfl := zvr_ref hb0
        obtain ⟨b1, s1, rfl, hb1, hT1⟩ := zlr_cons hT0
        obtain rfl := zvr_int hb1
        obtain ⟨b2, s2, rfl, hb2, hT2⟩ := zlr_cons hT1
        obtain rfl := zvr_ref hb2
        obtain ⟨k9, w1, w2, w3⟩ := zs_ast (by have := zat_ok ht; omega) hr (zvr_rf _) hv
        refine ⟨_, _, k9, ?_, hL, hT2, w2, w3⟩
        show (zat k b).bind _ = _
        rw [zs_at hr ht]
        show (zast t k a i _).bind _ = _
        rw [w1]
        rfl
      · cases hs
    case arraylength =>
      dsimp only at hs
      split at hs
      · rename_i a r
        obtain ⟨n, hv, hs⟩ := zbind hs
        cases hs
        obtain ⟨b0, s0, rfl, hb0, hT0⟩ := zlr_cons hS
        obtain rfl := zvr_ref hb0
        refine ⟨_, _, _, ?_, hL, zlr_c (zvr_rf _) hT0, hr, zkeep_rf⟩
        show (zlen k a).bind _ = _
        rw [zs_len hr hv]
        rfl
      · cases hs
    case new idx =>
      obtain ⟨q, hq, hs⟩ := zbind hs
      cases hs
      refine ⟨_, _, _, ?_, hL, zlr_c (zvr_rf _) hS, zhr_app hr (zhr_1 _), zkeep_app hr⟩
      show (zkl m idx zCl).bind _ = _
      rw [hq]
      show zgo _ _ (.ref (List.length k) :: su) _ = _
      rw [zhr_len hr]
    case newarray t =>
      dsimp only at hs
      split at hs
      · split at hs
        · cases hs
        · rename_i hn
          split at hs
          · cases hs
          · rename_i hbig
            obtain ⟨b0, s0, rfl, hb0, hT0⟩ := zlr_cons hS
            obtain rfl := zvr_int hb0
            split at hs
            · cases hs
              refine ⟨_, _, _, ?_, hL, zlr_c (zvr_rf _) hT0, zhr_app hr (zhr_1 _), zkeep_app hr⟩
              show (if _ then none else if _ then none else _) = _
              rw [if_neg hn, if_neg hbig]
              show zgo _ _ (.ref (List.length k) :: s0) _ = _
              rw [zhr_len hr]
            · cases hs
              refine ⟨_, _, _, ?_, hL, zlr_c (zvr_rf _) hT0, zhr_app hr (zhr_1 _), zkeep_app hr⟩
              show (if _ then none else if _ then none else _) = _
              rw [if_neg hn, if_neg hbig]
              show zgo _ _ (.ref (List.length k) :: s0) _ = _
              rw [zhr_len hr]
            · cases hs
      · cases hs
    case anewarray idx =>
      dsimp only at hs
      split at hs
      · split at hs
        · cases hs
        · rename_i hn
          split at hs
          · cases hs
          · rename_i hbig
            obtain ⟨b0, s0, rfl, hb0, hT0⟩ := zlr_cons hS
            obtain rfl := zvr_int hb0
            obtain ⟨q, hq, hs⟩ := zbind hs
            obtain ⟨ci, pl⟩ := q
            dsimp only at hs
            split at hs
            · cases hs
              refine ⟨_, _, _, ?_, hL, zlr_c (zvr_rf _) hT0, zhr_app hr (zhr_1 _), zkeep_app hr⟩
              show (if _ then none else if _ then none else _) = _
              rw [if_neg hn, if_neg hbig, hq]
              show zgo _ _ (.ref (List.length k) :: s0) _ = _
              rw [zhr_len hr]
            · cases hs
              refine ⟨_, _, _, ?_, hL, zlr_c (zvr_rf _) hT0, zhr_app hr (zhr_1 _), zkeep_app hr⟩
              show (if _ then none else if _ then none else _) = _
              rw [if_neg hn, if_neg hbig, hq]
              show zgo _ _ (.ref (List.length k) :: s0) _ = _
              rw [zhr_len hr]
            · cases hs
      · cases hs
    case invokestatic idx =>
      obtain ⟨q, hq, hs⟩ := zbind hs
      cases hq1 : Nat.beq q.1 131 with
      | true =>
        rw [hq1] at hs
        simp only [cond_true] at hs
        split at hs
        · obtain ⟨h9, hs⟩ := zcnd hs
          cases hs
          obtain ⟨b0, s0, rfl, hb0, hT0⟩ := zlr_cons hS
          obtain rfl := zvr_int hb0
          refine ⟨_, _, _, ?_, hL, zlr_c (zvr_rf _) hT0, hr, zkeep_rf⟩
          show (zkl m idx zMl).bind _ = _
          rw [hq]
          show cond (Nat.beq q.1 131) _ _ = _
          rw [hq1]
          show cond (Nat.ble (zcs s0) 8) _ none = _
          rw [zlr_cs hT0, h9]
          rfl
        · cases hs
      | false =>
        rw [hq1] at hs
        simp only [cond_false] at hs
        cases hq2 : Nat.beq q.1 132 with
        | true =>
          rw [hq2] at hs
          simp only [cond_true] at hs
          split at hs
          · obtain ⟨h9, hs⟩ := zcnd hs
            cases hs
            obtain ⟨b0, s0, rfl, hb0, hT0⟩ := zlr_cons hS
            obtain rfl := zvr_int hb0
            obtain ⟨b1, s1, rfl, hb1, hT1⟩ := zlr_cons hT0
            obtain rfl := zvr_int hb1
            refine ⟨_, _, _, ?_, hL, zlr_c (zvr_rf _) hT1, hr, zkeep_rf⟩
            show (zkl m idx zMl).bind _ = _
            rw [hq]
            show cond (Nat.beq q.1 131) _ (cond (Nat.beq q.1 132) _ _) = _
            rw [hq1, hq2]
            show cond (Nat.ble (zcs s1) 8) _ none = _
            rw [zlr_cs hT1, h9]
            rfl
          · cases hs
        | false =>
          rw [hq2] at hs
          simp only [cond_false] at hs
          unfold zcall at hs
          obtain ⟨-, hs⟩ := zcnd hs
          obtain ⟨-, hs⟩ := zcnd hs
          cases hs
    case invokevirtual idx =>
      obtain ⟨q, hq, hs⟩ := zbind hs
      unfold zcall at hs
      obtain ⟨-, hs⟩ := zcnd hs
      split at hs
      · obtain ⟨-, hs⟩ := zcnd hs
        cases hs
      · obtain ⟨-, hs⟩ := zcnd hs
        split at hs
        · obtain ⟨-, hs⟩ := zcnd hs
          cases hs
        · cases hs
      · obtain ⟨-, hs⟩ := zcnd hs
        cases hs
      · cases hs
    case invokespecial idx =>
      obtain ⟨q, hq, hs⟩ := zbind hs
      cases hq1 : Nat.beq q.1 999 with
      | true =>
        rw [hq1] at hs
        simp only [cond_true] at hs
        split at hs
        · obtain ⟨h9, hs⟩ := zcnd hs
          cases hs
          obtain ⟨b0, s0, rfl, hb0, hT0⟩ := zlr_cons hS
          obtain rfl := zvr_ref hb0
          refine ⟨_, _, _, ?_, hL, hT0, hr, zkeep_rf⟩
          show (zkl m idx zMl).bind _ = _
          rw [hq]
          show cond (Nat.beq q.1 999) _ _ = _
          rw [hq1]
          show cond (Nat.ble (zcs s0) 8) _ none = _
          rw [zlr_cs hT0, h9]
          rfl
        · cases hs
      | false =>
        rw [hq1] at hs
        simp only [cond_false] at hs
        unfold zcall at hs
        obtain ⟨-, hs⟩ := zcnd hs
        split at hs
        · obtain ⟨-, hs⟩ := zcnd hs
          cases hs
        · obtain ⟨-, hs⟩ := zcnd hs
          split at hs
          · obtain ⟨-, hs⟩ := zcnd hs
            cases hs
          · cases hs
        · obtain ⟨-, hs⟩ := zcnd hs
          cases hs
        · cases hs
    case ireturn =>
      dsimp only at hs
      split at hs
      · split at hs
        · cases hs
        · obtain ⟨-, hs⟩ := zcnd hs
          cases hs
        · cases hs
      · cases hs
    case lreturn =>
      dsimp only at hs
      split at hs
      · split at hs <;> cases hs
      · cases hs
    case areturn =>
      dsimp only at hs
      split at hs
      · split at hs
        · obtain ⟨-, hs⟩ := zcnd hs
          cases hs
        · cases hs
      · cases hs
    case return_ =>
      dsimp only at hs
      split at hs
      · split at hs <;> cases hs
      · cases hs
    all_goals cases hs

theorem zcall_sim {j n pc pc1 n1 : Nat} {L L1 st st1 K su as : List Value} {h k : ZH} (hL : zlr L K) (hS : zlr st su) (hr : zhr h k) (h7 : j = 1 → ¬ mO n = 9) (hs : zcall j n pc L st h = some (.inr (.inl (n1, as, pc1, L1, st1)))) :
    ∃ (as2 K1 su1 : List Value), zcall j n pc K su k = some (.inr (.inl (n1, as2, pc1, K1, su1))) ∧ zlr as as2 ∧ zlr L1 K1 ∧ zlr st1 su1 := by
  unfold zcall at hs ⊢
  obtain ⟨g1, hs⟩ := zcnd hs
  rw [zlr_len hS, g1]
  have hd := zlr_drop (mA n) hS
  have ht := zlr_rev (zlr_take (mA n) hS)
  simp only [cond_true]
  match j, hs with
  | 0, hs =>
    obtain ⟨g2, hs⟩ := zcnd hs
    cases hs
    refine ⟨_, _, _, ?_, ht, hL, hd⟩
    show cond (Nat.ble (zcs (su.drop (mA n))) 8) _ none = _
    rw [zlr_cs hd, g2]
    rfl
  | 1, hs =>
    cases he : st.drop (mA n) with
    | nil => rw [he] at hs; cases hs
    | cons v0 r0 =>
      rw [he] at hs hd
      obtain ⟨b0, s0, e0, hb0, hT0⟩ := zlr_cons hd
      rw [e0]
      cases v0
      case ref b =>
        obtain rfl := zvr_ref hb0
        obtain ⟨g2, hs⟩ := zcnd hs
        cases hk : h[b]? with
        | none => rw [hk] at hs; cases hs
        | some cb =>
          obtain ⟨cb, fb⟩ := cb
          rw [hk] at hs
          obtain ⟨g3, hs⟩ := zcnd hs
          cases hs
          have hcb : cb = mO n := Nat.eq_of_beq_eq_true g3
          obtain ⟨gs, k1, -⟩ := zhr_cell hr hk (by rw [hcb]; exact h7 rfl)
          refine ⟨_, _, _, ?_, zlr_c (zvr_rf _) ht, hL, hT0⟩
          show cond (Nat.ble (zcs s0) 8) (match k[b]? with | some (c, _) => _ | none => none) none = _
          rw [zlr_cs hT0, g2, k1]
          show cond (Nat.beq cb (mO n)) _ none = _
          rw [g3]
          rfl
      all_goals cases hs
  | 2, hs =>
    cases he : st.drop (mA n) with
    | nil => rw [he] at hs; cases hs
    | cons v0 r0 =>
      rw [he] at hs hd
      obtain ⟨b0, s0, e0, hb0, hT0⟩ := zlr_cons hd
      rw [e0]
      cases v0
      case ref b =>
        obtain rfl := zvr_ref hb0
        obtain ⟨g2, hs⟩ := zcnd hs
        cases hs
        refine ⟨_, _, _, ?_, zlr_c (zvr_rf _) ht, hL, hT0⟩
        show cond (Nat.ble (zcs s0) 8) _ none = _
        rw [zlr_cs hT0, g2]
        rfl
      all_goals cases hs
  | j + 3, hs => cases hs
theorem zK9 {m idx : Nat} {q : Nat × Nat × Nat} (h : zkl m idx zMl = some q) (hk : mK q.1 = 1) : ¬ mO q.1 = 9 := by
  obtain ⟨-, h2, -, -⟩ := zkl_ok h
  obtain ⟨-, f2⟩ := zMl_ok _ h2
  rcases f2 with f2 | ⟨-, f2⟩
  · have := zmV _ (List.mem_range.mpr f2) hk
    dsimp only at this
    omega
  · dsimp only at f2
    rcases f2 with f2 | f2 | f2 <;> (rw [f2] at hk; exact absurd hk (by decide))
