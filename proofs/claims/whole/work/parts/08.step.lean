theorem zlv {ad : Nat → Nat} {ls : Array Slot} {L : List Value} {k : Nat} {v : Value} (h : zLo ad ls L) (hv : L[k]? = some v) (hj : ¬ v = zj) : ls[k]? = some (.val (zv ad v)) := h.2.2 k v hv hj
theorem zcs_sum (ad : Nat → Nat) : ∀ st : List Value, ((st.map (zv ad)).map fun v => v.category).sum = zcs st
  | [] => rfl
  | v :: r => by
    show (zv ad v).category + ((r.map (zv ad)).map fun v => v.category).sum = v.category + zcs r
    rw [zcs_sum ad r, zv_cat]
theorem zmr {F0m : JFrame} : F0m.monitorRoom = 0 → 2 * F0m.monitorRoom = 0 := fun h => by rw [h]
theorem zset6 {h : ZH} {a : Nat} {x : ZC} (h6 : 6 ≤ a) : ∀ k : Nat, k < 6 → (h.set a x)[k]? = h[k]? := fun k hk => List.getElem?_set_ne (by omega)
theorem zapp6 {h : ZH} {x : ZC} (h6 : 6 ≤ h.length) : ∀ k : Nat, k < 6 → (h ++ [x])[k]? = h[k]? := fun k hk => List.getElem?_append_left (by omega)
theorem zat_ok {h : ZH} {b t : Nat} (ht : zat h b = some t) : t = 12 ∨ t = 13 := by
  unfold zat at ht
  split at ht <;> simp at ht <;> omega
section ZS
variable {dC : Nat → ClassId} {dI : Nat → Nat → Nat} {dA : Nat → ClassId} {ad : Nat → Nat} {base : Nat}
variable {p : Program} {l : Launch} {e : Env} {R : Room} {s : State} {m : MethodId} {args : Array Value} {below : List Frame} {meth : Method} {c : Code} {H : Heap} {locs : List Loc} {Q : State → Prop}
set_option maxHeartbeats 4000000 in
set_option maxRecDepth 100000 in
theorem z_step {mn pc pc' n0 z0 : Nat} {ls : Array Slot} {L L' st st' : List Value} {h h' : ZH} (C : zC mn p R s m args meth c) (hAd : zAd ad base) (hK : zK dC dI dA ad base s) (hW : zW dC dI dA ad base s h H locs) (hL : zLo ad ls L) (hLn : L.length = mL mn)
    (hn0 : n0 ≤ h.length) (hz0 : z0 ≤ zsl h) (hr1 : h'.length - n0 ≤ R.cells) (hr2 : zsl h' - z0 ≤ R.slots)
    (hs : zI mn pc L st h = some (.inl (pc', L', st', h')))
    (kk : ∀ (ls' : Array Slot) (H' : Heap) (locs' : List Loc), zLo ad ls' L' → L'.length = mL mn → zW dC dI dA ad base s h' H' locs' → (∀ k : Nat, k < 6 → h'[k]? = h[k]?) → W p l e R s m args below meth c H' locs' (h'.length - n0) (zsl h' - z0) Q (F0 m pc' ls' (st'.map (zv ad)))) :
    W p l e R s m args below meth c H locs (h.length - n0) (zsl h - z0) Q (F0 m pc ls (st.map (zv ad))) := by
  obtain ⟨hx, hb, hml, hown, hts, ⟨hfr, hlo⟩, hnm, hmn⟩ := id C
  have hsz : ls.size = L.length := hL.1
  have go : ∀ {H' : Heap} {locs' : List Loc}, zW dC dI dA ad base s h H' locs' → L' = L → h' = h → W p l e R s m args below meth c H' locs' (h.length - n0) (zsl h - z0) Q (F0 m pc' ls (st'.map (zv ad))) := by
    intro H' locs' w e1 e2
    subst e1; subst e2
    exact kk ls H' locs' hL hLn w (fun _ _ => rfl)
  unfold zI at hs
  cases hf : zf mn pc with
  | none => rw [hf] at hs; cases hs
  | some il =>
    obtain ⟨i, len⟩ := il
    rw [hf] at hs
    have hd := zf_ok hf
    have hs1 := zcnd hs
    clear hs
    obtain ⟨hln, hs⟩ := hs1
    cases i
    case iconst n =>
      cases hs
      obtain rfl := Nat.eq_of_beq_eq_true hln
      exact lv_iconst hx hb hd rfl (go hW rfl rfl)
    case bipush n =>
      cases hs
      obtain rfl := Nat.eq_of_beq_eq_true hln
      exact lv_bipush hx hb hd rfl (go hW rfl rfl)
    case sipush n =>
      cases hs
      obtain rfl := Nat.eq_of_beq_eq_true hln
      exact lv_sipush hx hb hd rfl (go hW rfl rfl)
    case lconst n =>
      cases hs
      obtain rfl := Nat.eq_of_beq_eq_true hln
      exact lv_lconst hx hb hd rfl (go hW rfl rfl)
    case ldc idx =>
      obtain ⟨q, hq, hs⟩ := zbind hs
      cases hs
      obtain rfl := Nat.eq_of_beq_eq_true hln
      obtain ⟨h1, h2, h3, h4⟩ := zkl_ok hq
      have hw := hts _ (zG_in (zKl_ok _ h2) rfl)
      dsimp only at hw
      rw [h3, h4] at hw
      exact lv_ldc hx hb hown hw hd (go hW rfl rfl)
    case ldc2_w idx =>
      obtain ⟨q, hq, hs⟩ := zbind hs
      cases hs
      obtain rfl := Nat.eq_of_beq_eq_true hln
      obtain ⟨h1, h2, h3, h4⟩ := zkl_ok hq
      have hw := hts _ (zG_in (zLl_ok _ h2) rfl)
      dsimp only at hw
      rw [h3, h4] at hw
      exact lv_ldc2 hx hb hown hw hd (go hW rfl rfl)
    case aconst_null =>
      cases hs
      obtain rfl := Nat.eq_of_beq_eq_true hln
      exact lv_null hx hb hd (go hW rfl rfl)
    case iload_n k =>
      obtain ⟨v, hv, hs⟩ := zbind hs
      cases hs
      obtain rfl := Nat.eq_of_beq_eq_true hln
      obtain ⟨x, rfl, hx1⟩ := zloadI hv
      exact lv_iload_n hx hb hd rfl (zlv hL hx1 (by simp)) (go hW rfl rfl)
    case iload k =>
      obtain ⟨v, hv, hs⟩ := zbind hs
      cases hs
      obtain rfl := Nat.eq_of_beq_eq_true hln
      obtain ⟨x, rfl, hx1⟩ := zloadI hv
      exact lv_iload hx hb hd (zlv hL hx1 (by simp)) (go hW rfl rfl)
    case lload_n k =>
      obtain ⟨v, hv, hs⟩ := zbind hs
      cases hs
      obtain rfl := Nat.eq_of_beq_eq_true hln
      obtain ⟨x, rfl, hx1⟩ := zloadL hv
      exact lv_lload_n hx hb hd rfl (zlv hL hx1 (by simp)) (go hW rfl rfl)
    case lload k =>
      obtain ⟨v, hv, hs⟩ := zbind hs
      cases hs
      obtain rfl := Nat.eq_of_beq_eq_true hln
      obtain ⟨x, rfl, hx1⟩ := zloadL hv
      exact lv_lload hx hb hd (zlv hL hx1 (by simp)) (go hW rfl rfl)
    case aload_n k =>
      obtain ⟨v, hv, hs⟩ := zbind hs
      cases hs
      obtain rfl := Nat.eq_of_beq_eq_true hln
      rcases zloadR hv with ⟨rfl, hx1⟩ | ⟨x, rfl, hx1⟩
      · exact lv_aload_nN hx hb hd rfl (zlv hL hx1 (by simp)) (go hW rfl rfl)
      · exact lv_aload_n hx hb hd rfl (zlv hL hx1 (by simp)) (go hW rfl rfl)
    case aload k =>
      obtain ⟨v, hv, hs⟩ := zbind hs
      cases hs
      obtain rfl := Nat.eq_of_beq_eq_true hln
      rcases zloadR hv with ⟨rfl, hx1⟩ | ⟨x, rfl, hx1⟩
      · exact lv_aloadN hx hb hd (zlv hL hx1 (by simp)) (go hW rfl rfl)
      · exact lv_aload hx hb hd (zlv hL hx1 (by simp)) (go hW rfl rfl)
    case istore_n k =>
      dsimp only at hs
      split at hs
      · obtain ⟨L1, h1, hs⟩ := zbind hs
        cases hs
        obtain rfl := Nat.eq_of_beq_eq_true hln
        obtain ⟨rfl, h2, h3⟩ := zst_1 (ad := ad) rfl h1
        exact lv_istore_n hx hb hd rfl (zLo_has hL) h2 rfl fun ls' hl' => kk ls' H locs (zLo_st1 h2 h3 hl') (by rw [List.length_set]; exact hLn) hW (fun _ _ => rfl)
      · cases hs
    case istore k =>
      dsimp only at hs
      split at hs
      · obtain ⟨L1, h1, hs⟩ := zbind hs
        cases hs
        obtain rfl := Nat.eq_of_beq_eq_true hln
        obtain ⟨rfl, h2, h3⟩ := zst_1 (ad := ad) rfl h1
        exact lv_istore hx hb hd (zLo_has hL) h2 rfl fun ls' hl' => kk ls' H locs (zLo_st1 h2 h3 hl') (by rw [List.length_set]; exact hLn) hW (fun _ _ => rfl)
      · cases hs
    case lstore_n k =>
      dsimp only at hs
      split at hs
      · obtain ⟨L1, h1, hs⟩ := zbind hs
        cases hs
        obtain rfl := Nat.eq_of_beq_eq_true hln
        obtain ⟨rfl, h2, h3⟩ := zst_2 (ad := ad) rfl h1
        exact lv_lstore_n hx hb hd rfl (zLo_has hL) h2 rfl fun ls' hl' => kk ls' H locs (zLo_st2 h2 h3 hl') (by rw [List.length_set, List.length_set]; exact hLn) hW (fun _ _ => rfl)
      · cases hs
    case lstore k =>
      dsimp only at hs
      split at hs
      · obtain ⟨L1, h1, hs⟩ := zbind hs
        cases hs
        obtain rfl := Nat.eq_of_beq_eq_true hln
        obtain ⟨rfl, h2, h3⟩ := zst_2 (ad := ad) rfl h1
        exact lv_lstore hx hb hd (zLo_has hL) h2 rfl fun ls' hl' => kk ls' H locs (zLo_st2 h2 h3 hl') (by rw [List.length_set, List.length_set]; exact hLn) hW (fun _ _ => rfl)
      · cases hs
    case astore_n k =>
      dsimp only at hs
      split at hs
      · obtain ⟨L1, h1, hs⟩ := zbind hs
        cases hs
        obtain rfl := Nat.eq_of_beq_eq_true hln
        obtain ⟨rfl, h2, h3⟩ := zst_1 (ad := ad) rfl h1
        exact lv_astore_n hx hb hd rfl (zLo_has hL) h2 rfl fun ls' hl' => kk ls' H locs (zLo_st1 h2 h3 hl') (by rw [List.length_set]; exact hLn) hW (fun _ _ => rfl)
      · obtain ⟨L1, h1, hs⟩ := zbind hs
        cases hs
        obtain rfl := Nat.eq_of_beq_eq_true hln
        obtain ⟨rfl, h2, h3⟩ := zst_1 (ad := ad) rfl h1
        exact lv_astore_nN hx hb hd rfl (zLo_has hL) h2 rfl fun ls' hl' => kk ls' H locs (zLo_st1 (v := .null) h2 h3 hl') (by rw [List.length_set]; exact hLn) hW (fun _ _ => rfl)
      · cases hs
    case astore k =>
      dsimp only at hs
      split at hs
      · obtain ⟨L1, h1, hs⟩ := zbind hs
        cases hs
        obtain rfl := Nat.eq_of_beq_eq_true hln
        obtain ⟨rfl, h2, h3⟩ := zst_1 (ad := ad) rfl h1
        exact lv_astore hx hb hd (zLo_has hL) h2 rfl fun ls' hl' => kk ls' H locs (zLo_st1 h2 h3 hl') (by rw [List.length_set]; exact hLn) hW (fun _ _ => rfl)
      · obtain ⟨L1, h1, hs⟩ := zbind hs
        cases hs
        obtain rfl := Nat.eq_of_beq_eq_true hln
        obtain ⟨rfl, h2, h3⟩ := zst_1 (ad := ad) rfl h1
        exact lv_astoreN hx hb hd (zLo_has hL) h2 rfl fun ls' hl' => kk ls' H locs (zLo_st1 (v := .null) h2 h3 hl') (by rw [List.length_set]; exact hLn) hW (fun _ _ => rfl)
      · cases hs
    case iinc k n =>
      dsimp only at hs
      split at hs
      · rename_i x hkx
        obtain ⟨L1, h1, hs⟩ := zbind hs
        cases hs
        obtain rfl := Nat.eq_of_beq_eq_true hln
        obtain ⟨rfl, h2, h3⟩ := zst_1 (ad := ad) rfl h1
        obtain ⟨kp, hkp⟩ := List.getElem?_of_mem (zpairs_mem (ad := ad) (q := (k, .int x)) |>.mpr ⟨_, hkx, by simp, rfl⟩)
        exact lv_iinc hx hb hd (zLo_has hL) (k := kp) hkp rfl h2 rfl fun ls' hl' => kk ls' H locs (zLo_st1 h2 h3 hl') (by rw [List.length_set]; exact hLn) hW (fun _ _ => rfl)
      · cases hs
    case iadd =>
      dsimp only at hs
      split at hs
      · cases hs
        obtain rfl := Nat.eq_of_beq_eq_true hln
        exact lv_iadd hx hb hd (go hW rfl rfl)
      · cases hs
    case isub =>
      dsimp only at hs
      split at hs
      · cases hs
        obtain rfl := Nat.eq_of_beq_eq_true hln
        exact lv_isub hx hb hd (go hW rfl rfl)
      · cases hs
    case imul =>
      dsimp only at hs
      split at hs
      · cases hs
        obtain rfl := Nat.eq_of_beq_eq_true hln
        exact lv_imul hx hb hd (go hW rfl rfl)
      · cases hs
    case idiv =>
      dsimp only at hs
      split at hs
      · split at hs
        · cases hs
        · rename_i hne
          cases hs
          obtain rfl := Nat.eq_of_beq_eq_true hln
          exact lv_idiv hx hb hd hne (go hW rfl rfl)
      · cases hs
    case irem =>
      dsimp only at hs
      split at hs
      · split at hs
        · cases hs
        · rename_i hne
          cases hs
          obtain rfl := Nat.eq_of_beq_eq_true hln
          exact lv_irem hx hb hd hne (go hW rfl rfl)
      · cases hs
    case ineg =>
      dsimp only at hs
      split at hs
      · cases hs
        obtain rfl := Nat.eq_of_beq_eq_true hln
        exact lv_ineg hx hb hd (go hW rfl rfl)
      · cases hs
    case iand =>
      dsimp only at hs
      split at hs
      · cases hs
        obtain rfl := Nat.eq_of_beq_eq_true hln
        exact lv_iand hx hb hd (go hW rfl rfl)
      · cases hs
    case ishl =>
      dsimp only at hs
      split at hs
      · cases hs
        obtain rfl := Nat.eq_of_beq_eq_true hln
        exact lv_ishl hx hb hd (go hW rfl rfl)
      · cases hs
    case ishr =>
      dsimp only at hs
      split at hs
      · cases hs
        obtain rfl := Nat.eq_of_beq_eq_true hln
        exact lv_ishr hx hb hd (go hW rfl rfl)
      · cases hs
    case ladd =>
      dsimp only at hs
      split at hs
      · cases hs
        obtain rfl := Nat.eq_of_beq_eq_true hln
        exact lv_ladd hx hb hd (go hW rfl rfl)
      · cases hs
    case lsub =>
      dsimp only at hs
      split at hs
      · cases hs
        obtain rfl := Nat.eq_of_beq_eq_true hln
        exact lv_lsub hx hb hd (go hW rfl rfl)
      · cases hs
    case lmul =>
      dsimp only at hs
      split at hs
      · cases hs
        obtain rfl := Nat.eq_of_beq_eq_true hln
        exact lv_lmul hx hb hd (go hW rfl rfl)
      · cases hs
    case ldiv =>
      dsimp only at hs
      split at hs
      · split at hs
        · cases hs
        · rename_i hne
          cases hs
          obtain rfl := Nat.eq_of_beq_eq_true hln
          exact lv_ldiv hx hb hd hne (go hW rfl rfl)
      · cases hs
    case lrem =>
      dsimp only at hs
      split at hs
      · split at hs
        · cases hs
        · rename_i hne
          cases hs
          obtain rfl := Nat.eq_of_beq_eq_true hln
          exact lv_lrem hx hb hd hne (go hW rfl rfl)
      · cases hs
    case lneg =>
      dsimp only at hs
      split at hs
      · cases hs
        obtain rfl := Nat.eq_of_beq_eq_true hln
        exact lv_lneg hx hb hd (go hW rfl rfl)
      · cases hs
    case lcmp =>
      dsimp only at hs
      split at hs
      · cases hs
        obtain rfl := Nat.eq_of_beq_eq_true hln
        exact W.lcmp hx hb hd (go hW rfl rfl)
      · cases hs
    case i2l =>
      dsimp only at hs
      split at hs
      · cases hs
        obtain rfl := Nat.eq_of_beq_eq_true hln
        exact lv_i2l hx hb hd rfl (go hW rfl rfl)
      · cases hs
    case l2i =>
      dsimp only at hs
      split at hs
      · cases hs
        obtain rfl := Nat.eq_of_beq_eq_true hln
        exact lv_l2i hx hb hd rfl (go hW rfl rfl)
      · cases hs
    case dup =>
      dsimp only at hs
      split at hs
      · obtain ⟨h1, hs⟩ := zcnd hs
        cases hs
        obtain rfl := Nat.eq_of_beq_eq_true hln
        exact lv_dup hx hb hd (by rw [zv_cat]; simpa using h1) (go hW rfl rfl)
      · cases hs
    case pop =>
      dsimp only at hs
      split at hs
      · obtain ⟨h1, hs⟩ := zcnd hs
        cases hs
        obtain rfl := Nat.eq_of_beq_eq_true hln
        exact lv_pop hx hb hd (by rw [zv_cat]; simpa using h1) (go hW rfl rfl)
      · cases hs
    case goto off =>
      obtain ⟨t, ht, hs⟩ := zbind hs
      cases hs
      obtain rfl := Nat.eq_of_beq_eq_true hln
      exact lv_goto hx hb hd (zjm_ok ht) (go hW rfl rfl)
    case ifCond cd off =>
      dsimp only at hs
      split at hs
      · rename_i x r
        obtain ⟨t, ht, hs⟩ := zbind hs
        obtain rfl := Nat.eq_of_beq_eq_true hln
        have ht := zjm_ok ht
        cases cd
        · refine lv_if_eq hx hb hd ht (fun q => ?_) (fun q => ?_)
          · simp only [zcond, q, decide_true, cond_true] at hs
            cases hs
            exact go hW rfl rfl
          · simp only [zcond, q, decide_false, cond_false] at hs
            cases hs
            exact go hW rfl rfl
        · refine lv_if_ne hx hb hd ht (fun q => ?_) (fun q => ?_)
          · simp only [zcond, q, not_false_eq_true, decide_true, cond_true] at hs
            cases hs
            exact go hW rfl rfl
          · simp only [zcond, q, decide_false, cond_false] at hs
            cases hs
            exact go hW rfl rfl
        · refine lv_if_lt hx hb hd ht (fun q => ?_) (fun q => ?_)
          · simp only [zcond, q, decide_true, cond_true] at hs
            cases hs
            exact go hW rfl rfl
          · simp only [zcond, q, decide_false, cond_false] at hs
            cases hs
            exact go hW rfl rfl
        · refine lv_if_ge hx hb hd ht (fun q => ?_) (fun q => ?_)
          · simp only [zcond, q, decide_true, cond_true] at hs
            cases hs
            exact go hW rfl rfl
          · simp only [zcond, q, decide_false, cond_false] at hs
            cases hs
            exact go hW rfl rfl
        · refine lv_if_gt hx hb hd ht (fun q => ?_) (fun q => ?_)
          · simp only [zcond, q, decide_true, cond_true] at hs
            cases hs
            exact go hW rfl rfl
          · simp only [zcond, q, decide_false, cond_false] at hs
            cases hs
            exact go hW rfl rfl
        · refine lv_if_le hx hb hd ht (fun q => ?_) (fun q => ?_)
          · simp only [zcond, q, decide_true, cond_true] at hs
            cases hs
            exact go hW rfl rfl
          · simp only [zcond, q, decide_false, cond_false] at hs
            cases hs
            exact go hW rfl rfl
      · cases hs
    case if_icmp cd off =>
      dsimp only at hs
      split at hs
      · rename_i y x r
        obtain ⟨t, ht, hs⟩ := zbind hs
        obtain rfl := Nat.eq_of_beq_eq_true hln
        have ht := zjm_ok ht
        cases cd
        · refine lv_icmp_eq hx hb hd ht (fun q => ?_) (fun q => ?_)
          · simp only [zcond, q, decide_true, cond_true] at hs
            cases hs
            exact go hW rfl rfl
          · simp only [zcond, q, decide_false, cond_false] at hs
            cases hs
            exact go hW rfl rfl
        · refine lv_icmp_ne hx hb hd ht (fun q => ?_) (fun q => ?_)
          · simp only [zcond, q, not_false_eq_true, decide_true, cond_true] at hs
            cases hs
            exact go hW rfl rfl
          · simp only [zcond, q, decide_false, cond_false] at hs
            cases hs
            exact go hW rfl rfl
        · refine lv_icmp_lt hx hb hd ht (fun q => ?_) (fun q => ?_)
          · simp only [zcond, q, decide_true, cond_true] at hs
            cases hs
            exact go hW rfl rfl
          · simp only [zcond, q, decide_false, cond_false] at hs
            cases hs
            exact go hW rfl rfl
        · refine lv_icmp_ge hx hb hd ht (fun q => ?_) (fun q => ?_)
          · simp only [zcond, q, decide_true, cond_true] at hs
            cases hs
            exact go hW rfl rfl
          · simp only [zcond, q, decide_false, cond_false] at hs
            cases hs
            exact go hW rfl rfl
        · refine lv_icmp_gt hx hb hd ht (fun q => ?_) (fun q => ?_)
          · simp only [zcond, q, decide_true, cond_true] at hs
            cases hs
            exact go hW rfl rfl
          · simp only [zcond, q, decide_false, cond_false] at hs
            cases hs
            exact go hW rfl rfl
        · refine lv_icmp_le hx hb hd ht (fun q => ?_) (fun q => ?_)
          · simp only [zcond, q, decide_true, cond_true] at hs
            cases hs
            exact go hW rfl rfl
          · simp only [zcond, q, decide_false, cond_false] at hs
            cases hs
            exact go hW rfl rfl
      · cases hs
    case ifnull off =>
      dsimp only at hs
      obtain rfl := Nat.eq_of_beq_eq_true hln
      split at hs
      · cases hs
        exact lv_ifnull hx hb hd (go hW rfl rfl)
      · obtain ⟨t, ht, hs⟩ := zbind hs
        cases hs
        exact lv_ifnullN hx hb hd (zjm_ok ht) (go hW rfl rfl)
      · cases hs
    case ifnonnull off =>
      dsimp only at hs
      obtain rfl := Nat.eq_of_beq_eq_true hln
      split at hs
      · obtain ⟨t, ht, hs⟩ := zbind hs
        cases hs
        exact lv_ifnonnull hx hb hd (zjm_ok ht) (go hW rfl rfl)
      · cases hs
        exact lv_ifnonnullN hx hb hd (go hW rfl rfl)
      · cases hs
    case tableswitch d lo hi offs =>
      dsimp only at hs
      split at hs
      · split at hs
        · rename_i hout
          obtain ⟨t, ht, hs⟩ := zbind hs
          cases hs
          exact lv_tableOut hx hb hd hout (zjm_ok ht) (go hW rfl rfl)
        · rename_i hout
          obtain ⟨off, ho, hs⟩ := zbind hs
          obtain ⟨t, ht, hs⟩ := zbind hs
          cases hs
          exact lv_tableIn hx hb hd (fun q => hout (Or.inl q)) (fun q => hout (Or.inr q)) ho (zjm_ok ht) (go hW rfl rfl)
      · cases hs
    case getfield idx =>
      dsimp only at hs
      obtain rfl := Nat.eq_of_beq_eq_true hln
      split at hs
      · rename_i a r
        obtain ⟨q, hq, hs⟩ := zbind hs
        obtain ⟨v, hv, hs⟩ := zbind hs
        cases hs
        unfold zget at hv
        cases hk : h[a]? with
        | none => rw [hk] at hv; cases hv
        | some x =>
          obtain ⟨cc, fs⟩ := x
          rw [hk] at hv
          obtain ⟨h1, h2⟩ := zcnd hv
          obtain rfl := Nat.eq_of_beq_eq_true h1
          exact z_get C hK hW hq hd hk h2 (go hW rfl rfl)
      · cases hs
    case putfield idx =>
      dsimp only at hs
      obtain rfl := Nat.eq_of_beq_eq_true hln
      split at hs
      · rename_i v a r
        obtain ⟨q, hq, hs⟩ := zbind hs
        obtain ⟨h1, hv, hs⟩ := zbind hs
        cases hs
        unfold zput at hv
        cases hk : h[a]? with
        | none => rw [hk] at hv; cases hv
        | some x =>
          obtain ⟨cc, fs⟩ := x
          rw [hk] at hv
          obtain ⟨h1, h2⟩ := zcnd hv
          simp only [Bool.and_eq_true] at h1
          obtain ⟨g1, g2, g3, g4⟩ := h1
          obtain rfl := Nat.eq_of_beq_eq_true g1
          cases h2
          have hln2 : zsl (h.set a (q.1, fs.set q.2.1 v)) = zsl h := zsl_set hk (by simp)
          refine z_put C hAd hK hW hf hq hk (by simpa [Nat.blt_eq] using g2) g4 fun H' locs' hW' => ?_
          have := kk ls H' locs' hL hLn hW' (zset6 (zW_6 hW hk (by have := (zFl_ok _ (zkl_ok hq).2.1).2.1; dsimp only at this ⊢; omega)))
          rw [List.length_set, hln2] at this
          exact this
      · cases hs
    case getstatic idx =>
      obtain ⟨q, hq, hs⟩ := zbind hs
      cases hs
      obtain rfl := Nat.eq_of_beq_eq_true hln
      obtain ⟨h1, h2, h3, h4⟩ := zkl_ok hq
      obtain ⟨f1, f2⟩ := zSl_ok _ h2
      have hw := hts _ (zG_in f1 rfl)
      dsimp only at hw
      rw [h3, h4] at hw
      exact va_gets hx hb (hK.2.2.2.2 _ f2) hW.2.2.1 hown hw (fun _ z => z) hd (go hW rfl rfl)
    case iaload =>
      dsimp only at hs
      obtain rfl := Nat.eq_of_beq_eq_true hln
      split at hs
      · obtain ⟨v, hv, hs⟩ := zbind hs
        cases hs
        exact z_iald C hK hW hv hd (go hW rfl rfl)
      · cases hs
    case laload =>
      dsimp only at hs
      obtain rfl := Nat.eq_of_beq_eq_true hln
      split at hs
      · obtain ⟨v, hv, hs⟩ := zbind hs
        cases hs
        exact z_lald C hK hW hv hd (go hW rfl rfl)
      · cases hs
    case aaload =>
      dsimp only at hs
      obtain rfl := Nat.eq_of_beq_eq_true hln
      split at hs
      · obtain ⟨v, hv, hs⟩ := zbind hs
        cases hs
        exact z_aald C hK hW hv hd (go hW rfl rfl)
      · cases hs
    case iastore =>
      dsimp only at hs
      obtain rfl := Nat.eq_of_beq_eq_true hln
      split at hs
      · obtain ⟨h1, hv, hs⟩ := zbind hs
        cases hs
        obtain ⟨vs, g1, g2, -⟩ := zast_ok hv
        have e1 : h'.length = h.length := by rw [g2, List.length_set]
        have e2 : zsl h' = zsl h := by rw [g2]; exact zsl_set g1 (by simp)
        refine z_iast C hAd hK hW hv hd fun H' locs' hW' => ?_
        have := kk ls H' locs' hL hLn hW' (by rw [g2]; exact zset6 (zW_6 hW g1 (by simp)))
        rw [e1, e2] at this
        exact this
      · cases hs
    case lastore =>
      dsimp only at hs
      obtain rfl := Nat.eq_of_beq_eq_true hln
      split at hs
      · obtain ⟨h1, hv, hs⟩ := zbind hs
        cases hs
        obtain ⟨vs, g1, g2, -⟩ := zast_ok hv
        have e1 : h'.length = h.length := by rw [g2, List.length_set]
        have e2 : zsl h' = zsl h := by rw [g2]; exact zsl_set g1 (by simp)
        refine z_last C hAd hK hW hv hd fun H' locs' hW' => ?_
        have := kk ls H' locs' hL hLn hW' (by rw [g2]; exact zset6 (zW_6 hW g1 (by simp)))
        rw [e1, e2] at this
        exact this
      · cases hs
    case aastore =>
      dsimp only at hs
      obtain rfl := Nat.eq_of_beq_eq_true hln
      split at hs
      · obtain ⟨t, ht, hs⟩ := zbind hs
        obtain ⟨h1, hv, hs⟩ := zbind hs
        cases hs
        obtain ⟨vs, g1, g2, -⟩ := zast_ok hv
        have e1 : h'.length = h.length := by rw [g2, List.length_set]
        have e2 : zsl h' = zsl h := by rw [g2]; exact zsl_set g1 (by simp)
        refine z_aast C hAd hK hW ht hv hd fun H' locs' hW' => ?_
        have := kk ls H' locs' hL hLn hW' (by rw [g2]; exact zset6 (zW_6 hW g1 (by have := zat_ok ht; dsimp only; omega)))
        rw [e1, e2] at this
        exact this
      · cases hs
    case arraylength =>
      dsimp only at hs
      obtain rfl := Nat.eq_of_beq_eq_true hln
      split at hs
      · obtain ⟨v, hv, hs⟩ := zbind hs
        cases hs
        exact z_alen C hK hW hv hd (go hW rfl rfl)
      · cases hs
    case new idx =>
      obtain ⟨q, hq, hs⟩ := zbind hs
      cases hs
      obtain rfl := Nat.eq_of_beq_eq_true hln
      have hdl : (zdef q.1).length = zN q.1 := by simp [zdef]
      have e1 : (h ++ [(q.1, zdef q.1)]).length - n0 = h.length - n0 + 1 := by simp; omega
      have e2 : zsl (h ++ [(q.1, zdef q.1)]) - z0 = zsl h - z0 + zN q.1 := by rw [zsl_app]; simp only [zsl]; omega
      refine z_new C hAd hK hW hq hd (by rw [← e1]; exact hr1) (by rw [← e2]; exact hr2) fun H' hW' => ?_
      have := kk ls H' locs hL hLn hW' (zapp6 hW.1.1)
      rw [e1, e2] at this
      exact this
    case newarray t =>
      dsimp only at hs
      obtain rfl := Nat.eq_of_beq_eq_true hln
      split at hs
      · rename_i n r
        split at hs
        · cases hs
        · rename_i hn
          split at hs
          · cases hs
          · rename_i hbig
            split at hs
            · cases hs
              have e1 : (h ++ [(10, List.replicate n.toNatClampNeg (Value.int 0))]).length - n0 = h.length - n0 + 1 := by simp; omega
              have e2 : zsl (h ++ [(10, List.replicate n.toNatClampNeg (Value.int 0))]) - z0 = zsl h - z0 + n.toNatClampNeg := by rw [zsl_app]; simp only [zsl, List.length_replicate]; omega
              refine z_newa C hAd hK hW rfl (Or.inl ⟨rfl, rfl, rfl⟩) hn hbig hd (by rw [← e1]; exact hr1) (by rw [← e2]; exact hr2) fun H' hW' => ?_
              have := kk ls H' locs hL hLn hW' (zapp6 hW.1.1)
              rw [e1, e2] at this
              exact this
            · cases hs
              have e1 : (h ++ [(11, List.replicate n.toNatClampNeg (Value.long 0))]).length - n0 = h.length - n0 + 1 := by simp; omega
              have e2 : zsl (h ++ [(11, List.replicate n.toNatClampNeg (Value.long 0))]) - z0 = zsl h - z0 + n.toNatClampNeg := by rw [zsl_app]; simp only [zsl, List.length_replicate]; omega
              refine z_newa C hAd hK hW rfl (Or.inr ⟨rfl, rfl, rfl⟩) hn hbig hd (by rw [← e1]; exact hr1) (by rw [← e2]; exact hr2) fun H' hW' => ?_
              have := kk ls H' locs hL hLn hW' (zapp6 hW.1.1)
              rw [e1, e2] at this
              exact this
            · cases hs
      · cases hs
    case anewarray idx =>
      dsimp only at hs
      obtain rfl := Nat.eq_of_beq_eq_true hln
      split at hs
      · rename_i n r
        split at hs
        · cases hs
        · rename_i hn
          split at hs
          · cases hs
          · rename_i hbig
            obtain ⟨q, hq, hs⟩ := zbind hs
            obtain ⟨ci, pl⟩ := q
            dsimp only at hs
            split at hs
            · cases hs
              have e1 : (h ++ [(12, List.replicate n.toNatClampNeg Value.null)]).length - n0 = h.length - n0 + 1 := by simp; omega
              have e2 : zsl (h ++ [(12, List.replicate n.toNatClampNeg Value.null)]) - z0 = zsl h - z0 + n.toNatClampNeg := by rw [zsl_app]; simp only [zsl, List.length_replicate]; omega
              refine z_newq (t0 := 2) C hAd hK hW hq (Or.inl rfl) hK.2.2.2.1.1 rfl (fun _ => rfl) hn hbig hd (by rw [← e1]; exact hr1) (by rw [← e2]; exact hr2) fun H' hW' => ?_
              have := kk ls H' locs hL hLn hW' (zapp6 hW.1.1)
              rw [e1, e2] at this
              exact this
            · cases hs
              have e1 : (h ++ [(13, List.replicate n.toNatClampNeg Value.null)]).length - n0 = h.length - n0 + 1 := by simp; omega
              have e2 : zsl (h ++ [(13, List.replicate n.toNatClampNeg Value.null)]) - z0 = zsl h - z0 + n.toNatClampNeg := by rw [zsl_app]; simp only [zsl, List.length_replicate]; omega
              refine z_newq (t0 := 3) C hAd hK hW hq (Or.inr rfl) hK.2.2.2.1.2 rfl (fun _ => rfl) hn hbig hd (by rw [← e1]; exact hr1) (by rw [← e2]; exact hr2) fun H' hW' => ?_
              have := kk ls H' locs hL hLn hW' (zapp6 hW.1.1)
              rw [e1, e2] at this
              exact this
            · cases hs
      · cases hs
    case invokestatic idx =>
      obtain rfl := Nat.eq_of_beq_eq_true hln
      obtain ⟨q, hq, hs⟩ := zbind hs
      obtain ⟨h1, h2, h3, h4⟩ := zkl_ok hq
      obtain ⟨f1, f2⟩ := zMl_ok _ h2
      have hrc : h.length - n0 ≤ R.cells ∧ zsl h - z0 ≤ R.slots → True := fun _ => trivial
      cases hb1 : Nat.beq q.1 131 with
      | true =>
        rw [hb1] at hs
        simp only [cond_true] at hs
        split at hs
        · obtain ⟨g1, hs⟩ := zcnd hs
          cases hs
          have hq1 : q.1 = 131 := Nat.eq_of_beq_eq_true hb1
          have hz : q.2.1 = 0 := by rcases f2 with f2 | ⟨f2, -⟩ <;> (dsimp only at f2; omega)
          have hw := zG_in f1 (by unfold zMc; dsimp only; rw [hz]; rfl)
          have hw := hts _ hw
          unfold zMc at hw
          dsimp only at hw
          rw [hz, h3, h4, hq1, zma.2.2.2.1] at hw
          have g1 := Nat.le_of_ble_eq_true g1
          refine va_mabs hx hb (by rw [hml, ← hLn]; exact hsz.symm) hown hw (hts _ zma.1) (hts _ zma.2.2.1) (hts _ zma.2.2.2.2.2.1) hfr (by rw [zcs_sum]; omega) hr1 hr2 hd (go hW rfl rfl)
        · cases hs
      | false =>
        rw [hb1] at hs
        simp only [cond_false] at hs
        cases hb2 : Nat.beq q.1 132 with
        | true =>
          rw [hb2] at hs
          simp only [cond_true] at hs
          split at hs
          · obtain ⟨g1, hs⟩ := zcnd hs
            cases hs
            have hq1 : q.1 = 132 := Nat.eq_of_beq_eq_true hb2
            have hz : q.2.1 = 0 := by rcases f2 with f2 | ⟨f2, -⟩ <;> (dsimp only at f2; omega)
            have hw := zG_in f1 (by unfold zMc; dsimp only; rw [hz]; rfl)
            have hw := hts _ hw
            unfold zMc at hw
            dsimp only at hw
            rw [hz, h3, h4, hq1, zma.2.2.2.2.1] at hw
            have g1 := Nat.le_of_ble_eq_true g1
            refine va_mmin hx hb (by rw [hml, ← hLn]; exact hsz.symm) hown hw (hts _ zma.2.1) (hts _ zma.2.2.1) (hts _ zma.2.2.2.2.2.2) hfr (by rw [zcs_sum]; omega) hr1 hr2 hd (go hW rfl rfl)
          · cases hs
        | false =>
          rw [hb2] at hs
          simp only [cond_false] at hs
          unfold zcall at hs
          obtain ⟨-, hs⟩ := zcnd hs
          obtain ⟨-, hs⟩ := zcnd hs
          cases hs
    case invokevirtual idx =>
      obtain ⟨q, hq, hs⟩ := zbind hs
      unfold zcall at hs
      obtain ⟨-, hs⟩ := zcnd hs
      split at hs
      · obtain ⟨-, hs⟩ := zcnd hs
        cases hs
      · obtain ⟨-, hs⟩ := zcnd hs
        split at hs
        · obtain ⟨-, hs⟩ := zcnd hs
          cases hs
        · cases hs
      · obtain ⟨-, hs⟩ := zcnd hs
        cases hs
      · cases hs
    case invokespecial idx =>
      obtain rfl := Nat.eq_of_beq_eq_true hln
      obtain ⟨q, hq, hs⟩ := zbind hs
      obtain ⟨h1, h2, h3, h4⟩ := zkl_ok hq
      obtain ⟨f1, f2⟩ := zMl_ok _ h2
      cases hb1 : Nat.beq q.1 999 with
      | true =>
        rw [hb1] at hs
        simp only [cond_true] at hs
        split at hs
        · obtain ⟨g1, hs⟩ := zcnd hs
          cases hs
          have hq1 : q.1 = 999 := Nat.eq_of_beq_eq_true hb1
          have hz : q.2.1 = 0 := by rcases f2 with f2 | ⟨f2, -⟩ <;> (dsimp only at f2; omega)
          have hw := zG_in f1 (by unfold zMc; dsimp only; rw [hz]; rfl)
          have hw := hts _ hw
          unfold zMc at hw
          dsimp only at hw
          rw [hz, h3, h4, hq1] at hw
          have g1 := Nat.le_of_ble_eq_true g1
          refine W.objInit hx hb hown hw (hts _ zac.2.2.1) (hts _ zac.2.2.2) rfl (by rw [hml, ← hLn]; exact hsz) rfl hd hfr ?_ (W.eq (g2 := F0 m (pc + 3) ls (st'.map (zv ad))) rfl (go hW rfl rfl))
          rw [zcs_sum]
          show 2 * 0 + zcs st' + 12 ≤ R.locals
          omega
        · cases hs
      | false =>
        rw [hb1] at hs
        simp only [cond_false] at hs
        unfold zcall at hs
        obtain ⟨-, hs⟩ := zcnd hs
        split at hs
        · obtain ⟨-, hs⟩ := zcnd hs
          cases hs
        · obtain ⟨-, hs⟩ := zcnd hs
          split at hs
          · obtain ⟨-, hs⟩ := zcnd hs
            cases hs
          · cases hs
        · obtain ⟨-, hs⟩ := zcnd hs
          cases hs
        · cases hs
    case ireturn =>
      dsimp only at hs
      split at hs
      · split at hs
        · cases hs
        · obtain ⟨-, hs⟩ := zcnd hs
          cases hs
        · cases hs
      · cases hs
    case lreturn =>
      dsimp only at hs
      split at hs
      · split at hs <;> cases hs
      · cases hs
    case areturn =>
      dsimp only at hs
      split at hs
      · split at hs
        · obtain ⟨-, hs⟩ := zcnd hs
          cases hs
        · cases hs
      · cases hs
    case return_ =>
      dsimp only at hs
      split at hs
      · split at hs <;> cases hs
      · cases hs
    all_goals cases hs
end ZS
