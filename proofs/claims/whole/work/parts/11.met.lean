/-! A WHOLE RUN, AND THE CONTRACT OF EVERY METHOD -/
section ZRUN
variable {dC : Nat → ClassId} {dI : Nat → Nat → Nat} {dA : Nat → ClassId} {ad : Nat → Nat} {base : Nat}
variable {p : Program} {l : Launch} {e : Env} {R : Room} {s : State} {m : MethodId} {args : Array Value} {below : List Frame} {meth : Method} {c : Code} {Q : State → Prop}
theorem z_run {mn d n0 z0 : Nat} {cal : Nat → List Value → ZH → ZO} {r : Option Value} {h' hs : ZH} (hcal : ∀ n as h r h1, cal n as h = some (r, h1) → (h.length ≤ h1.length ∧ zsl h ≤ zsl h1) ∧ (n < 131 → zMet l dC dI dA ad base d n as h r h1))
    (C : zC mn p R s m args meth c) (hAd : zAd ad base) (hK : zK dC dI dA ad base s) (hfr : d + 1 ≤ R.frames) (hlo : 32 + 32 * d ≤ R.locals) (hr1 : h'.length - n0 ≤ R.cells) (hr2 : zsl h' - z0 ≤ R.slots)
    (fin : ∀ (pc : Nat) (L st : List Value) (ls : Array Slot) (H : Heap) (locs : List Loc), zI mn pc L st h' = some (.inr (.inr r)) → zLo ad ls L → zW dC dI dA ad base s h' H locs → (∀ k : Nat, k < 6 → h'[k]? = hs[k]?) → W p l e R s m args below meth c H locs (h'.length - n0) (zsl h' - z0) Q (F0 m pc ls (st.map (zv ad)))) :
    ∀ (g pc : Nat) (L st : List Value) (h : ZH) (ls : Array Slot) (H : Heap) (locs : List Loc), zrun cal g mn pc L st h = some (r, h') → zLo ad ls L → L.length = mL mn → zW dC dI dA ad base s h H locs → n0 ≤ h.length → z0 ≤ zsl h → (∀ k : Nat, k < 6 → h[k]? = hs[k]?) →
      W p l e R s m args below meth c H locs (h.length - n0) (zsl h - z0) Q (F0 m pc ls (st.map (zv ad)))
  | 0, pc, L, st, h, ls, H, locs, hr, hL, hLn, hW, hn0, hz0, h6 => by cases hr
  | g + 1, pc, L, st, h, ls, H, locs, hr, hL, hLn, hW, hn0, hz0, h6 => by
    have hlen : ∀ n as h r h1, cal n as h = some (r, h1) → h.length ≤ h1.length ∧ zsl h ≤ zsl h1 := fun n as h r h1 q => (hcal n as h r h1 q).1
    unfold zrun at hr
    split at hr
    · cases hr
    · rename_i pc1 L1 st1 h1 hI
      have a1 := zI_len hI
      have a2 := zrun_len hlen g mn pc1 L1 st1 h1 h' r hr
      exact z_step C hAd hK hW hL hLn hn0 hz0 (by omega) (by omega) hI fun ls' H' locs' hL' hLn' hW' h6' => z_run hcal C hAd hK hfr hlo hr1 hr2 fin g pc1 L1 st1 h1 ls' H' locs' hr hL' hLn' hW' (by omega) (by omega) (fun k hk => (h6' k hk).trans (h6 k hk))
    · rename_i n as pc1 L1 st1 hI
      split at hr
      · cases hr
      · rename_i r1 h1 hc
        have a1 := hcal _ _ _ _ _ hc
        have a2 := zrun_len hlen g _ _ _ _ h1 h' r hr
        refine z_call C hK hW hL hLn hn0 hz0 a1.1 (by omega) (by omega) hfr hlo hI a1.2 fun H' locs' e1 hW' h6' => ?_
        subst e1
        exact z_run hcal C hAd hK hfr hlo hr1 hr2 fin g pc1 L1 (r1.toList ++ st1) h1 ls H' locs' hr hL hLn hW' (by omega) (by omega) (fun k hk => (h6' k hk).trans (h6 k hk))
    · rename_i v hI
      cases hr
      exact fin pc L st ls H locs hI hL hW h6
theorem zlsl (ad : Nat → Nat) : ∀ as : List Value, (lg_sl (as.map (zv ad))).length = (zex as).length
  | [] => rfl
  | v :: r => by
    have ih := zlsl ad r
    have e : lg_sl ((v :: r).map (zv ad)) = (if (zv ad v).category = 2 then [Slot.val (zv ad v), Slot.second] else [Slot.val (zv ad v)]) ++ lg_sl (r.map (zv ad)) := rfl
    rw [e, zv_cat, List.length_append, ih]
    show _ = (cond (decide (v.category = 2)) (v :: zj :: zex r) (v :: zex r)).length
    by_cases hc : v.category = 2
    · simp [hc]; omega
    · simp [hc]; omega
theorem zargs (ad : Nat → Nat) : ∀ (as : List Value) (i k : Nat) (v : Value), (zex as)[k]? = some v → ¬ v = zj → (i + k, zv ad v) ∈ lv_args i (as.map (zv ad))
  | [], i, k, v, h, hj => by simp [zex] at h
  | w :: r, i, k, v, h, hj => by
    unfold zex at h
    show _ ∈ (i, zv ad w) :: lv_args (if (zv ad w).category = 2 then i + 2 else i + 1) (r.map (zv ad))
    rw [zv_cat]
    by_cases hc : w.category = 2
    · rw [decide_eq_true hc] at h
      simp only [cond_true] at h
      rw [if_pos hc]
      match k, h with
      | 0, h =>
        simp at h
        subst h
        exact List.mem_cons_self
      | 1, h =>
        simp at h
        exact absurd h.symm hj
      | k + 2, h =>
        simp only [List.getElem?_cons_succ] at h
        have := zargs ad r (i + 2) k v h hj
        rw [show i + (k + 2) = i + 2 + k by omega]
        exact List.mem_cons_of_mem _ this
    · rw [decide_eq_false hc] at h
      simp only [cond_false] at h
      rw [if_neg hc]
      match k, h with
      | 0, h =>
        simp at h
        subst h
        exact List.mem_cons_self
      | k + 1, h =>
        simp only [List.getElem?_cons_succ] at h
        have := zargs ad r (i + 1) k v h hj
        rw [show i + (k + 1) = i + 1 + k by omega]
        exact List.mem_cons_of_mem _ this
theorem zent_ok {n : Nat} {as L : List Value} (h : zent n as = some L) : L.length = mL n ∧ (zex as).length ≤ mL n ∧ L = zex as ++ List.replicate (mL n - (zex as).length) zj := by
  unfold zent at h
  obtain ⟨h1, h2⟩ := zcnd h
  cases h2
  have := Nat.le_of_ble_eq_true h1
  exact ⟨by simp; omega, this, rfl⟩
theorem z_entry {n : Nat} {as L : List Value} (h : zent n as = some L) : zLo ad ((lg_sl (as.map (zv ad)) ++ List.replicate (mL n - (lg_sl (as.map (zv ad))).length) Slot.unset).toArray) L := by
  obtain ⟨h1, h2, h3⟩ := zent_ok h
  have hl := lv_entry (as.map (zv ad)) (n := mL n) (by rw [zlsl]; exact h2)
  refine ⟨hl.1.trans h1.symm, hl.2.1, fun k v hv hj => ?_⟩
  have hk : (zex as)[k]? = some v := by
    rw [h3] at hv
    by_cases hk : k < (zex as).length
    · rw [List.getElem?_append_left hk] at hv
      exact hv
    · rw [List.getElem?_append_right (by omega), List.getElem?_replicate] at hv
      split at hv
      · cases hv
        exact absurd rfl hj
      · cases hv
  have := hl.2.2 (0 + k, zv ad v) (zargs ad as 0 k v hk hj)
  rw [Nat.zero_add] at this
  exact this
theorem zret_ok {mn pc : Nat} {L st : List Value} {h : ZH} {r : Option Value} (hI : zI mn pc L st h = some (.inr (.inr r))) :
    (∃ v : Int32, st = [.int v] ∧ r = some (.int v) ∧ zf mn pc = some (.ireturn, 1) ∧ ∃ ty, mT mn = some ty ∧ narrow ty (.int v) = .int v) ∨
    (∃ v : Int64, st = [.long v] ∧ r = some (.long v) ∧ zf mn pc = some (.lreturn, 1) ∧ mT mn = some .long) ∨
    (∃ v : Value, st = [v] ∧ r = some v ∧ zisR v = true ∧ zf mn pc = some (.areturn, 1) ∧ ∃ nm, mT mn = some (.object nm)) ∨
    (st = [] ∧ r = none ∧ zf mn pc = some (.return_, 1) ∧ mT mn = none) := by
  unfold zI at hI
  cases hf : zf mn pc with
  | none => rw [hf] at hI; cases hI
  | some il =>
    obtain ⟨i, len⟩ := il
    rw [hf] at hI
    have hs1 := zcnd hI
    clear hI
    obtain ⟨hln, hs⟩ := hs1
    cases i
    case ireturn =>
      obtain rfl := Nat.eq_of_beq_eq_true hln
      dsimp only at hs
      split at hs
      · rename_i v
        cases hT : mT mn with
        | none => rw [hT] at hs; cases hs
        | some ty =>
          rw [hT] at hs
          cases ty
          case int =>
            cases hs
            exact Or.inl ⟨v, rfl, rfl, rfl, _, rfl, rfl⟩
          case boolean =>
            obtain ⟨h1, hs⟩ := zcnd hs
            cases hs
            exact Or.inl ⟨v, rfl, rfl, rfl, _, rfl, (zfit_ok (fun q => q) h1).1⟩
          all_goals cases hs
      · cases hs
    case lreturn =>
      obtain rfl := Nat.eq_of_beq_eq_true hln
      dsimp only at hs
      split at hs
      · rename_i v
        cases hT : mT mn with
        | none => rw [hT] at hs; cases hs
        | some ty =>
          rw [hT] at hs
          cases ty
          case long =>
            cases hs
            exact Or.inr (Or.inl ⟨v, rfl, rfl, rfl, rfl⟩)
          all_goals cases hs
      · cases hs
    case areturn =>
      obtain rfl := Nat.eq_of_beq_eq_true hln
      dsimp only at hs
      split at hs
      · rename_i v
        cases hT : mT mn with
        | none => rw [hT] at hs; cases hs
        | some ty =>
          rw [hT] at hs
          cases ty
          case object nm =>
            obtain ⟨h1, hs⟩ := zcnd hs
            cases hs
            exact Or.inr (Or.inr (Or.inl ⟨v, rfl, rfl, h1, rfl, _, rfl⟩))
          all_goals cases hs
      · cases hs
    case return_ =>
      obtain rfl := Nat.eq_of_beq_eq_true hln
      dsimp only at hs
      split at hs
      · cases hT : mT mn with
        | none =>
          rw [hT] at hs
          cases hs
          exact Or.inr (Or.inr (Or.inr ⟨rfl, rfl, rfl, rfl⟩))
        | some ty => rw [hT] at hs; cases hs
      · cases hs
    case putfield idx =>
      dsimp only at hs
      split at hs
      · obtain ⟨q, hq, hs⟩ := zbind hs
        obtain ⟨h1, hv, hs⟩ := zbind hs
        cases hs
      · cases hs
    case aastore =>
      dsimp only at hs
      split at hs
      · obtain ⟨t, ht, hs⟩ := zbind hs
        obtain ⟨h1, hv, hs⟩ := zbind hs
        cases hs
      · cases hs
    case newarray t =>
      dsimp only at hs
      split at hs
      · split at hs
        · cases hs
        · split at hs
          · cases hs
          · split at hs <;> cases hs
      · cases hs
    case anewarray idx =>
      dsimp only at hs
      split at hs
      · split at hs
        · cases hs
        · split at hs
          · cases hs
          · obtain ⟨q, hq, hs⟩ := zbind hs
            split at hs <;> cases hs
      · cases hs
    case ifCond cd off =>
      dsimp only at hs
      split at hs
      · obtain ⟨t, ht, hs⟩ := zbind hs
        cases hz : zcond cd _ 0 <;> (rw [hz] at hs; cases hs)
      · cases hs
    case if_icmp cd off =>
      dsimp only at hs
      split at hs
      · rename_i y x r
        obtain ⟨t, ht, hs⟩ := zbind hs
        cases hz : zcond cd x y <;> (rw [hz] at hs; cases hs)
      · cases hs
    case dup =>
      dsimp only at hs
      split at hs
      · obtain ⟨-, hs⟩ := zcnd hs
        cases hs
      · cases hs
    case pop =>
      dsimp only at hs
      split at hs
      · obtain ⟨-, hs⟩ := zcnd hs
        cases hs
      · cases hs
    case getfield idx =>
      dsimp only at hs
      split at hs
      · obtain ⟨q, hq, hs⟩ := zbind hs
        obtain ⟨v, hv, hs⟩ := zbind hs
        cases hs
      · cases hs
    case tableswitch d lo hi offs =>
      dsimp only at hs
      split at hs
      · split at hs
        · obtain ⟨t, ht, hs⟩ := zbind hs
          cases hs
        · obtain ⟨off, ho, hs⟩ := zbind hs
          obtain ⟨t, ht, hs⟩ := zbind hs
          cases hs
      · cases hs
    case invokestatic idx =>
      obtain ⟨q, hq, hs⟩ := zbind hs
      cases hb1 : Nat.beq q.1 131 with
      | true =>
        rw [hb1] at hs
        simp only [cond_true] at hs
        split at hs
        · obtain ⟨-, hs⟩ := zcnd hs
          cases hs
        · cases hs
      | false =>
        rw [hb1] at hs
        simp only [cond_false] at hs
        cases hb2 : Nat.beq q.1 132 with
        | true =>
          rw [hb2] at hs
          simp only [cond_true] at hs
          split at hs
          · obtain ⟨-, hs⟩ := zcnd hs
            cases hs
          · cases hs
        | false =>
          rw [hb2] at hs
          simp only [cond_false] at hs
          unfold zcall at hs
          obtain ⟨-, hs⟩ := zcnd hs
          obtain ⟨-, hs⟩ := zcnd hs
          cases hs
    case invokevirtual idx =>
      obtain ⟨q, hq, hs⟩ := zbind hs
      unfold zcall at hs
      obtain ⟨-, hs⟩ := zcnd hs
      split at hs
      · obtain ⟨-, hs⟩ := zcnd hs
        cases hs
      · obtain ⟨-, hs⟩ := zcnd hs
        split at hs
        · obtain ⟨-, hs⟩ := zcnd hs
          cases hs
        · cases hs
      · obtain ⟨-, hs⟩ := zcnd hs
        cases hs
      · cases hs
    case invokespecial idx =>
      obtain ⟨q, hq, hs⟩ := zbind hs
      cases hb1 : Nat.beq q.1 999 with
      | true =>
        rw [hb1] at hs
        simp only [cond_true] at hs
        split at hs
        · obtain ⟨-, hs⟩ := zcnd hs
          cases hs
        · cases hs
      | false =>
        rw [hb1] at hs
        simp only [cond_false] at hs
        unfold zcall at hs
        obtain ⟨-, hs⟩ := zcnd hs
        split at hs
        · obtain ⟨-, hs⟩ := zcnd hs
          cases hs
        · obtain ⟨-, hs⟩ := zcnd hs
          split at hs
          · obtain ⟨-, hs⟩ := zcnd hs
            cases hs
          · cases hs
        · obtain ⟨-, hs⟩ := zcnd hs
          cases hs
        · cases hs
    all_goals first
      | (cases hs; done)
      | (dsimp only at hs; split at hs <;> first | (cases hs; done) | (obtain ⟨q, hq, hs⟩ := zbind hs; cases hs; done) | (split at hs <;> cases hs))
      | (have hs2 := Option.bind_eq_some_iff.mp hs; obtain ⟨q, hq, hs3⟩ := hs2; cases hs3; done)
end ZRUN
/-- every method keeps its contract: what the abstract machine says of it -/
theorem zM_met (l : Launch) (dC : Nat → ClassId) (dI : Nat → Nat → Nat) (dA : Nat → ClassId) (ad : Nat → Nat) (base : Nat) (hAd : zAd ad base) (f : Nat) : ∀ (d n : Nat) (as : List Value) (h : ZH) (r : Option Value) (h1 : ZH), zM f d n as h = some (r, h1) → n < 131 → zMet l dC dI dA ad base d n as h r h1
  | 0, n, as, h, r, h1, hr, hn => by cases hr
  | d + 1, n, as, h, r, h1, hr, hn => by
    unfold zM at hr
    cases hE : zent n as with
    | none => rw [hE] at hr; cases hr
    | some L =>
      rw [hE] at hr
      dsimp only at hr
      obtain ⟨⟨y1, y2⟩, -, y13⟩ := zmN n (List.mem_range.mpr hn)
      have hlen := zrun_len (zM_len f d) _ _ _ _ _ _ _ _ hr
      refine Met.ofW (cc := mB n) (maxL := mL n) (ret := mT n) y2 rfl ?_
      intro p e s m args below meth c s₁ B hml hv
      obtain ⟨rfl, hK, hW⟩ := hv
      have hts : ∀ w ∈ zG, w.before _ s = true := fun w hw => atoms_spec (ws := zWs n) B.pre w (List.mem_cons_of_mem _ hw)
      have hown : s.vm.findClass (zR (mO n)) = some m.cls := by rw [← y1]; exact findClass_of_methodNamed B.named
      have hlocks := B.notSynchronized
      have C : zC n p (headSpec (zWs n) (zrm (d + 1) h h1)).room s m (as.map (zv ad)).toArray meth c := ⟨B.exec, B.bytes, hml, hown, hts, ⟨Nat.le_add_left 1 d, by show 32 ≤ 32 * (d + 1); omega⟩, fun q => (name_of_methodNamed B.named B.method).1.trans q, by omega⟩
      rw [lg_entry_eq]
      have key := z_run (l := l) (e := e) (below := below) (Q := MQ below (zQc dC dI dA ad base h r h1) (as.map (zv ad)).toArray s (h1.length - h.length) (zsl h1 - zsl h) (zA base)) (n0 := h.length) (z0 := zsl h) (hs := h) (r := r) (h' := h1) (d := d) (cal := zM f d)
        (fun n as h r h1 q => ⟨zM_len f d n as h r h1 q, zM_met l dC dI dA ad base hAd f d n as h r h1 q⟩) C hAd hK (Nat.le_refl _) (by show 32 + 32 * d ≤ 32 * (d + 1); omega) (Nat.le_refl _) (Nat.le_refl _) ?_ f 0 L [] h _ s.heap [] hr (z_entry hE) (zent_ok hE).1 hW (Nat.le_refl _) (Nat.le_refl _) (fun _ _ => rfl)
      · rw [Nat.sub_self, Nat.sub_self] at key
        exact key
      · intro pc L st ls H locs hI hL hW' h6
        have hq : ∀ (v : Option Value), r = v → ∀ t : State, t.heap = H → s.WarmedH t.vm → zQc dC dI dA ad base h r h1 (as.map (zv ad)).toArray s (.returned (v.map (zv ad))) t := by
          intro v hv t ht hWm
          subst hv
          exact ⟨rfl, ⟨by rw [ht]; exact hW'.1, by rw [ht]; exact hW'.2.1⟩, h6, hW'.2.2.1.F ht⟩
        rcases zret_ok hI with ⟨v, rfl, rfl, hf, ty, hT, hnr⟩ | ⟨v, rfl, rfl, hf, hT⟩ | ⟨v, rfl, rfl, hR, hf, nm, hT⟩ | ⟨rfl, rfl, hf, hT⟩
        · exact W.zret (ty := ty) B.exec B.bytes (B.returns.trans hT) hnr (hq _ rfl) hW'.2.2.1.2.2 (zf_ok hf) hlocks
        · exact W.lret B.exec B.bytes (B.returns.trans hT) (hq _ rfl) hW'.2.2.1.2.2 (zf_ok hf) hlocks
        · refine W.aret (v := zv ad v) B.exec B.bytes (B.returns.trans hT) (Or.inl ⟨nm, rfl⟩) ?_ (hq _ rfl) hW'.2.2.1.2.2 (zf_ok hf) hlocks
          rcases zisR_of hR with rfl | ⟨x, rfl⟩
          · exact Or.inl rfl
          · exact Or.inr ⟨_, rfl⟩
        · exact W.vret B.exec B.bytes (B.returns.trans hT) (hq _ rfl) hW'.2.2.1.2.2 (zf_ok hf) hlocks
