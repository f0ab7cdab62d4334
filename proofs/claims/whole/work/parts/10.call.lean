def zWs (n : Nat) : List Cond := Cond.code (mY n) (mB n) (mL n) (mT n) :: zG
def zrm (d : Nat) (h h1 : ZH) : Room := { frames := d, cells := h1.length - h.length, slots := zsl h1 - zsl h, locals := 32 * d }
def zB (dC : Nat → ClassId) (dI : Nat → Nat → Nat) (dA : Nat → ClassId) (ad : Nat → Nat) (base : Nat) (h : ZH) (H : Heap) : Prop :=
  (6 ≤ h.length ∧ H.size = base + (h.length - 6) ∧ (∀ (k : Nat) (c : ZC), h[k]? = some c → zok c ∧ (c.1 = 20 ↔ k < 6))) ∧ va_P (dC, dI) vwCl (zw dA ad h) H
def zPc (dC : Nat → ClassId) (dI : Nat → Nat → Nat) (dA : Nat → ClassId) (ad : Nat → Nat) (base : Nat) (as : List Value) (h : ZH) : Array Value → State → Prop :=
  va_Pc (as.map (zv ad)) fun U => zK dC dI dA ad base U ∧ zW dC dI dA ad base U h U.heap []
def zQc (dC : Nat → ClassId) (dI : Nat → Nat → Nat) (dA : Nat → ClassId) (ad : Nat → Nat) (base : Nat) (h : ZH) (r : Option Value) (h1 : ZH) : Array Value → State → Outcome → State → Prop :=
  fun _ st oc t => oc = .returned (r.map (zv ad)) ∧ zB dC dI dA ad base h1 t.heap ∧ (∀ k : Nat, k < 6 → h1[k]? = h[k]?) ∧ va_F (zA base) st t
def zMet (l : Launch) (dC : Nat → ClassId) (dI : Nat → Nat → Nat) (dA : Nat → ClassId) (ad : Nat → Nat) (base : Nat) (d n : Nat) (as : List Value) (h : ZH) (r : Option Value) (h1 : ZH) : Prop :=
  Met l (mY n) (zWs n) (zrm d h h1) (zPc dC dI dA ad base as h) (zQc dC dI dA ad base h r h1) (h1.length - h.length) (zsl h1 - zsl h) (zA base)
theorem zGood (n : Nat) (hn : n < 131) : GoodIn zG (zWs n) := by
  have hc : Cond.code (mY n) (mB n) (mL n) (mT n) ∈ zG := zG_in (zmC n hn) rfl
  intro w hw
  rcases List.mem_cons.mp hw with rfl | hw
  · exact ⟨hc, good_of_word (List.mem_filter.mp hc).2⟩
  · exact ⟨hw, good_of_word (List.mem_filter.mp hw).2⟩
theorem zNw_on {w : Cond} (h : w ∈ zNw) : w.onTables = true := by
  have := (List.mem_filter.mp h).2
  cases w <;> first | rfl | cases this
theorem zNw_warm {w : Cond} (h : w ∈ zNw) {s U : State} (hW : s.WarmedH U.vm) (hs : va_Nw w s) : va_Nw w U := by
  have := (List.mem_filter.mp h).2
  cases w
  case fieldLinkNest => exact hs.warmF hW
  case methodLinkNest => exact hs.warmM hW
  all_goals cases this
theorem zMl_v : ∀ e ∈ zMl, mK e.2.1 = 1 → e.2.2.1 = 0 := by decide +kernel
def zinv (m : Nat) : Bool := (zc m).all fun e => match e.2.1 with
  | .invokestatic idx => match zkl m idx zMl with
    | some q => !(Nat.beq q.1 999)
    | none => true
  | _ => true
theorem zinv_ok : ∀ n ∈ List.range 134, zinv n = true := by decide +kernel
theorem zYc_lt {n : Nat} (hn : n < 131) : zYc n = mY n := by
  unfold zYc
  cases hb : Nat.beq n 999 with
  | false => rfl
  | true => exact absurd (Nat.eq_of_beq_eq_true hb) (by omega)
section ZR
variable {dC : Nat → ClassId} {dI : Nat → Nat → Nat} {dA : Nat → ClassId} {ad : Nat → Nat} {base : Nat}
variable {p : Program} {l : Launch} {e : Env} {R : Room} {s : State} {m : MethodId} {args : Array Value} {below : List Frame} {meth : Method} {c : Code} {H : Heap} {locs : List Loc} {Q : State → Prop} {h : ZH}
theorem zK_to (hK : zK dC dI dA ad base s) (hS : va_S (zA base) s.heap H locs) {U : State} (hU : U.heap = H) (hW : s.WarmedH U.vm) : zK dC dI dA ad base U := by
  obtain ⟨k1, k2, k3, ⟨k4, k5⟩, k6⟩ := hK
  refine ⟨by rw [hU]; exact Nat.le_trans k1 hS.1, va_K.moved hW.alike k2, fun w hw => zNw_warm hw hW (k3 w hw), ⟨va_AO.moved hW.alike k4, va_AO.moved hW.alike k5⟩, fun k hk => ?_⟩
  rw [hU]
  exact va_Z.moved hW.alike ((k6 k hk).kept hS.2.1)
theorem zW_to (hZ : zW dC dI dA ad base s h H locs) {U : State} (hU : U.heap = H) (hW : s.WarmedH U.vm) : zW dC dI dA ad base U h U.heap [] := by
  obtain ⟨w1, w2, w3, w4⟩ := hZ
  refine ⟨by rw [hU]; exact w1, by rw [hU]; exact w2, va_S.rf, fun k c hk hc => ?_⟩
  rw [hU]
  exact va_T.moved hW.alike ((w4 k c hk hc).kept w3.2.1)
theorem zBlind (as : List Value) : FrameBlind (zPc dC dI dA ad base as h) := by
  intro a U g mk hq
  obtain ⟨q0, ⟨k1, k2, k3, ⟨k4, k5⟩, k6⟩, w1, w2, w3, w4⟩ := hq
  refine ⟨q0, ⟨k1, va_K.moved (u := U) (U := U.calling g mk a) (Vm.Alike.refl U.vm) k2, fun w hw => va_Nw.same (zNw_on hw) (u := U) (U := U.calling g mk a) rfl (k3 w hw), ⟨va_AO.moved (u := U) (U := U.calling g mk a) (Vm.Alike.refl U.vm) k4, va_AO.moved (u := U) (U := U.calling g mk a) (Vm.Alike.refl U.vm) k5⟩, fun k hk => va_Z.moved (u := U) (U := U.calling g mk a) (Vm.Alike.refl U.vm) (k6 k hk)⟩, w1, w2, w3, fun k c hk hc => va_T.moved (u := U) (U := U.calling g mk a) (Vm.Alike.refl U.vm) (w4 k c hk hc)⟩
theorem z_callrun {pc mc ms cells slots : Nat} {ls : Array Slot} {rest st0 : List Value} {r : Option Value} {h1 : ZH} {a : Array Value} (hr : va_Run p l e R s m args below meth c H locs cells slots mc ms (F0 m pc ls st0) rest (zQc dC dI dA ad base h r h1 a) (zA base)) (hS : va_S (zA base) s.heap H locs)
    (kk : ∀ (H1 : Heap) (locs1 : List Loc), zB dC dI dA ad base h1 H1 → (∀ k : Nat, k < 6 → h1[k]? = h[k]?) → va_S (zA base) s.heap H1 locs1 → W p l e R s m args below meth c H1 locs1 (cells + mc) (slots + ms) Q (F0 m (pc + 3) ls ((r.map (zv ad)).toList ++ rest))) : W p l e R s m args below meth c H locs cells slots Q (F0 m pc ls st0) := by
  intro T hT X
  obtain ⟨v, st₀, t, T', L, h0, X', hL, e1, e2, ⟨hv, hB, h6, hz, hk⟩, st⟩ := hr T hT X
  have hv : v = r.map (zv ad) := by injection hv
  subst hv
  rw [h0] at hz hk
  obtain ⟨t2, a1, b1⟩ := kk T'.heap (locs ++ L) (by rw [e1]; exact hB) h6
    ⟨Nat.le_trans hS.1 (by rw [e1]; exact hz), fun q h1 h2 => by rw [e1, hk q (Nat.lt_of_lt_of_le h1 hS.1) h2]; exact hS.2.1 q h1 h2, fun q hq => by
      rcases List.mem_append.mp hq with h | h
      · exact hS.2.2 q h
      · exact hL q h⟩ T' rfl X'
  exact ⟨t2, st t2 a1, b1⟩
set_option maxHeartbeats 4000000 in
theorem z_call {mn pc pc' n d n0 z0 : Nat} {ls : Array Slot} {L L' st st' as : List Value} {h1 : ZH} {r : Option Value} (C : zC mn p R s m args meth c) (hK : zK dC dI dA ad base s) (hW : zW dC dI dA ad base s h H locs) (hL : zLo ad ls L) (hLn : L.length = mL mn)
    (hn0 : n0 ≤ h.length) (hz0 : z0 ≤ zsl h) (hle : h.length ≤ h1.length ∧ zsl h ≤ zsl h1) (hr1 : h1.length - n0 ≤ R.cells) (hr2 : zsl h1 - z0 ≤ R.slots) (hfr : d + 1 ≤ R.frames) (hlo : 32 + 32 * d ≤ R.locals)
    (hs : zI mn pc L st h = some (.inr (.inl (n, as, pc', L', st')))) (hM : n < 131 → zMet l dC dI dA ad base d n as h r h1)
    (kk : ∀ (H' : Heap) (locs' : List Loc), L' = L → zW dC dI dA ad base s h1 H' locs' → (∀ k : Nat, k < 6 → h1[k]? = h[k]?) → W p l e R s m args below meth c H' locs' (h1.length - n0) (zsl h1 - z0) Q (F0 m pc' ls ((r.toList ++ st').map (zv ad)))) :
    W p l e R s m args below meth c H locs (h.length - n0) (zsl h - z0) Q (F0 m pc ls (st.map (zv ad))) := by
  obtain ⟨hx, hb, hml, hown, hts, -, hnm, hmn⟩ := id C
  have hsz : ls.size = L.length := hL.1
  have hcell : h.length - n0 + (h1.length - h.length) = h1.length - n0 := by omega
  have hslot : zsl h - z0 + (zsl h1 - zsl h) = zsl h1 - z0 := by omega
  have hfit : h.length - n0 + (h1.length - h.length) ≤ R.cells ∧ zsl h - z0 + (zsl h1 - zsl h) ≤ R.slots := by rw [hcell, hslot]; exact ⟨hr1, hr2⟩
  -- what is behind the call
  have behind : ∀ {st1 rest : List Value} {a : Array Value}, L' = L → pc' = pc + 3 → st' = rest → va_Run p l e R s m args below meth c H locs (h.length - n0) (zsl h - z0) (h1.length - h.length) (zsl h1 - zsl h) (F0 m pc ls st1) (rest.map (zv ad)) (zQc dC dI dA ad base h r h1 a) (zA base) → W p l e R s m args below meth c H locs (h.length - n0) (zsl h - z0) Q (F0 m pc ls st1) := by
    intro st1 rest a e1 e2 e3 hr
    refine z_callrun hr hW.2.2.1 fun H1 locs1 hB h6 hS1 => ?_
    have w := kk H1 locs1 e1 ⟨hB.1, hB.2, hS1, fun k cc hk hc => hW.2.2.2 k cc hk (by rw [← h6 k hk]; exact hc)⟩ h6
    rw [hcell, hslot]
    rw [e2, e3] at w
    have e4 : (r.map (zv ad)).toList ++ rest.map (zv ad) = (r.toList ++ rest).map (zv ad) := by cases r <;> simp
    rw [e4]
    exact w
  unfold zI at hs
  cases hf : zf mn pc with
  | none => rw [hf] at hs; cases hs
  | some il =>
    obtain ⟨i, len⟩ := il
    rw [hf] at hs
    have hd := zf_ok hf
    have hs1 := zcnd hs
    clear hs
    obtain ⟨hln, hs⟩ := hs1
    have roomOf : n < 131 → (zrm d h h1).frames + 1 ≤ R.frames ∧ 8 + (mL n + 11) + (zrm d h h1).locals ≤ R.locals := by
      intro hn
      have h13 := (zmN n (List.mem_range.mpr hn)).2.2
      refine ⟨hfr, ?_⟩
      show 8 + (mL n + 11) + 32 * d ≤ R.locals
      omega
    have preS : ∀ as' : List Value, as'.map (zv ad) = as.map (zv ad) → PreS s H (zPc dC dI dA ad base as h) (as'.map (zv ad)) := by
      intro as' e1
      refine ⟨zBlind as, fun U hU hWm => ?_⟩
      exact ⟨by rw [e1], zK_to hK hW.2.2.1 hU hWm, zW_to hW hU hWm⟩
    cases i
    case invokestatic idx =>
      obtain rfl := Nat.eq_of_beq_eq_true hln
      obtain ⟨q, hq, hs⟩ := zbind hs
      obtain ⟨h1q, h2, h3, h4⟩ := zkl_ok hq
      obtain ⟨f1, f2⟩ := zMl_ok _ h2
      cases hb1 : Nat.beq q.1 131 with
      | true =>
        rw [hb1] at hs
        simp only [cond_true] at hs
        split at hs
        · obtain ⟨-, hs⟩ := zcnd hs
          cases hs
        · cases hs
      | false =>
        rw [hb1] at hs
        simp only [cond_false] at hs
        cases hb2 : Nat.beq q.1 132 with
        | true =>
          rw [hb2] at hs
          simp only [cond_true] at hs
          split at hs
          · obtain ⟨-, hs⟩ := zcnd hs
            cases hs
          · cases hs
        | false =>
          rw [hb2] at hs
          simp only [cond_false] at hs
          unfold zcall at hs
          obtain ⟨g0, hs⟩ := zcnd hs
          obtain ⟨g1, hs⟩ := zcnd hs
          simp only [Bool.and_eq_true] at g0
          have hk0 : mK q.1 = 0 := Nat.eq_of_beq_eq_true g0.1
          have hA : mA q.1 ≤ st.length := Nat.le_of_ble_eq_true g0.2
          cases hs
          have hn : q.1 < 131 := by
            rcases f2 with f2 | ⟨-, f2⟩
            · exact f2
            · dsimp only at f2
              rcases f2 with f2 | f2 | f2
              · rw [f2] at hk0; exact absurd hk0 (by decide)
              · rw [f2] at hk0; exact absurd hk0 (by decide)
              · have hv := List.all_eq_true.mp (zinv_ok mn (List.mem_range.mpr hmn)) _ (zlk_mem hf)
                dsimp only at hv
                rw [hq] at hv
                dsimp only at hv
                rw [f2] at hv
                exact absurd hv (by decide)
          obtain ⟨⟨y1, y2⟩, ⟨y3, y4, y5⟩, -⟩ := zmN _ (List.mem_range.mpr hn)
          have hini := hts _ (zG_in (zmG _ (List.mem_range.mpr hn)) rfl)
          have hstat := hts _ (zG_in (zmT _ (List.mem_range.mpr hn) hk0) rfl)
          have hY : zYc q.1 = mY q.1 := zYc_lt hn
          have hargs : ((st.take (mA q.1)).reverse.map (zv ad)).length = mA q.1 := by simp; omega
          have hstk : (F0 m pc ls (st.map (zv ad))).stack = ((st.take (mA q.1)).reverse.map (zv ad)).reverse ++ (st.drop (mA q.1)).map (zv ad) := by
            show st.map (zv ad) = _
            rw [← List.map_reverse, List.reverse_reverse, ← List.map_append, List.take_append_drop]
          have g1 := Nat.le_of_ble_eq_true g1
          have hroom : 2 * (F0 m pc ls (st.map (zv ad))).monitorRoom + (((st.drop (mA q.1)).map (zv ad)).map fun v => v.category).sum ≤ 8 := by
            rw [zcs_sum]
            show 2 * 0 + _ ≤ 8
            omega
          cases hnest : q.2.1 with
          | zero =>
            have hw := zG_in f1 (by unfold zMc; dsimp only; rw [hnest]; rfl)
            have hw := hts _ hw
            unfold zMc at hw
            dsimp only at hw
            rw [hnest, h3, h4, hY] at hw
            exact behind rfl rfl rfl (va_runS ⟨hx, hb, hml, hown, hts⟩ (hM hn) ⟨callB_of (mA q.1) hts (zGood _ hn) rfl rfl rfl hini hw ⟨y3, y4, y5⟩ (roomOf hn), hstat⟩ (preS _ rfl) rfl hargs (hsz.trans hLn) hstk hroom hd hfit)
          | succ k =>
            have hw : va_Nw _ s := hK.2.2.1 _ (zNw_in f1 (by unfold zMc; dsimp only; rw [hnest]; rfl))
            unfold zMc at hw
            dsimp only at hw
            rw [hnest, h3, h4, hY] at hw
            exact behind rfl rfl rfl (va_runSN ⟨hx, hb, hml, hown, hts⟩ (hM hn) ⟨va_cnB (mA q.1) hts (zGood _ hn) rfl rfl rfl hw hini ⟨y3, y4, y5⟩ (roomOf hn), hstat, trivial⟩ (preS _ rfl) rfl hargs (hsz.trans hLn) hstk hroom hd hfit)
    case invokevirtual idx =>
      obtain rfl := Nat.eq_of_beq_eq_true hln
      obtain ⟨q, hq, hs⟩ := zbind hs
      obtain ⟨h1q, h2, h3, h4⟩ := zkl_ok hq
      obtain ⟨f1, f2⟩ := zMl_ok _ h2
      unfold zcall at hs
      obtain ⟨g0, hs⟩ := zcnd hs
      simp only [Bool.and_eq_true] at g0
      have hk0 : mK q.1 = 1 := Nat.eq_of_beq_eq_true g0.1
      have hA : mA q.1 ≤ st.length := Nat.le_of_ble_eq_true g0.2
      cases hdrop : st.drop (mA q.1) with
      | nil => rw [hdrop] at hs; cases hs
      | cons v0 rs9 =>
       rw [hdrop] at hs
       cases v0
       case ref b =>
        obtain ⟨g1, hs⟩ := zcnd hs
        cases hkb : h[b]? with
        | none => rw [hkb] at hs; cases hs
        | some cb =>
          obtain ⟨cb, fb⟩ := cb
          rw [hkb] at hs
          obtain ⟨g2, hs⟩ := zcnd hs
          have hcb : cb = mO q.1 := Nat.eq_of_beq_eq_true g2
          cases hs
          have hn : q.1 < 131 := by
            rcases f2 with f2 | ⟨-, f2⟩
            · exact f2
            · dsimp only at f2
              rcases f2 with f2 | f2 | f2
              · rw [f2] at hk0; exact absurd hk0 (by decide)
              · rw [f2] at hk0; exact absurd hk0 (by decide)
              · rw [f2] at hk0; exact absurd hk0 (by decide)
          obtain ⟨⟨y1, y2⟩, ⟨y3, y4, y5⟩, -⟩ := zmN _ (List.mem_range.mpr hn)
          have hini := hts _ (zG_in (zmG _ (List.mem_range.mpr hn)) rfl)
          have hinst := hts _ (zG_in (zmI _ (List.mem_range.mpr hn) (by omega)) rfl)
          have hsel := hts _ (zG_in (zmS _ (List.mem_range.mpr hn) hk0) rfl)
          have hc8 := zmV _ (List.mem_range.mpr hn) hk0
          have hY : zYc q.1 = mY q.1 := zYc_lt hn
          have hargs : ((st.take (mA q.1)).reverse.map (zv ad)).length = mA q.1 := by simp; omega
          have hstk : (F0 m pc ls (st.map (zv ad))).stack = ((st.take (mA q.1)).reverse.map (zv ad)).reverse ++ .ref (ad b) :: st'.map (zv ad) := by
            show st.map (zv ad) = _
            rw [← List.map_reverse, List.reverse_reverse]
            have : st = st.take (mA q.1) ++ .ref b :: st' := by rw [← hdrop, List.take_append_drop]
            conv => lhs; rw [this]
            rw [List.map_append]
            rfl
          have g1 := Nat.le_of_ble_eq_true g1
          have hroom : 2 * (F0 m pc ls (st.map (zv ad))).monitorRoom + ((st'.map (zv ad)).map fun v => v.category).sum ≤ 8 := by
            rw [zcs_sum]
            show 2 * 0 + _ ≤ 8
            omega
          have hnest : q.2.1 = 0 := zMl_v _ h2 hk0
          have hw := zG_in f1 (by unfold zMc; dsimp only; rw [hnest]; rfl)
          have hw := hts _ hw
          unfold zMc at hw
          dsimp only at hw
          rw [hnest, h3, h4, hY] at hw
          have hb6 := zW_6 hW hkb (by dsimp only; omega)
          have hwb := zw_at (dA := dA) (ad := ad) hkb hb6
          rw [hcb, zE_obj hc8] at hwb
          have hrecv := va_recv hK.2.1 hW.2.1 (zvw _ hc8) hwb
          rw [← y1] at hrecv
          have hpre : PreV s H (mY q.1).cls (ad b) (zPc dC dI dA ad base (.ref b :: (st.take (mA q.1)).reverse) h) ((st.take (mA q.1)).reverse.map (zv ad)) := ⟨zBlind _, hrecv, fun U hU hWm => ⟨rfl, zK_to hK hW.2.2.1 hU hWm, zW_to hW hU hWm⟩⟩
          exact behind rfl rfl rfl (va_runV ⟨hx, hb, hml, hown, hts⟩ (hM hn) ⟨callB_of (mA q.1) hts (zGood _ hn) rfl rfl rfl hini hw ⟨y3, y4, y5⟩ (roomOf hn), hinst, hsel⟩ hpre rfl hargs (hsz.trans hLn) hstk hroom hd hfit)
       all_goals cases hs
    case invokespecial idx =>
      obtain rfl := Nat.eq_of_beq_eq_true hln
      obtain ⟨q, hq, hs⟩ := zbind hs
      obtain ⟨h1q, h2, h3, h4⟩ := zkl_ok hq
      obtain ⟨f1, f2⟩ := zMl_ok _ h2
      cases hb1 : Nat.beq q.1 999 with
      | true =>
        rw [hb1] at hs
        simp only [cond_true] at hs
        split at hs
        · obtain ⟨-, hs⟩ := zcnd hs
          cases hs
        · cases hs
      | false =>
        rw [hb1] at hs
        simp only [cond_false] at hs
        unfold zcall at hs
        obtain ⟨g0, hs⟩ := zcnd hs
        simp only [Bool.and_eq_true] at g0
        have hk0 : mK q.1 = 2 := Nat.eq_of_beq_eq_true g0.1
        have hA : mA q.1 ≤ st.length := Nat.le_of_ble_eq_true g0.2
        cases hdrop : st.drop (mA q.1) with
        | nil => rw [hdrop] at hs; cases hs
        | cons v0 rs9 =>
         rw [hdrop] at hs
         cases v0
         case ref b =>
          obtain ⟨g1, hs⟩ := zcnd hs
          cases hs
          have hn : q.1 < 131 := by
            rcases f2 with f2 | ⟨-, f2⟩
            · exact f2
            · dsimp only at f2
              rcases f2 with f2 | f2 | f2
              · rw [f2] at hk0; exact absurd hk0 (by decide)
              · rw [f2] at hk0; exact absurd hk0 (by decide)
              · rw [f2] at hk0; exact absurd hk0 (by decide)
          obtain ⟨⟨y1, y2⟩, ⟨y3, y4, y5⟩, -⟩ := zmN _ (List.mem_range.mpr hn)
          obtain ⟨i1, i2⟩ := zmK _ (List.mem_range.mpr hn) hk0
          have hini := hts _ (zG_in (zmG _ (List.mem_range.mpr hn)) rfl)
          have hinst := hts _ (zG_in (zmI _ (List.mem_range.mpr hn) (by omega)) rfl)
          have hY : zYc q.1 = mY q.1 := zYc_lt hn
          have hargs : ((st.take (mA q.1)).reverse.map (zv ad)).length = mA q.1 := by simp; omega
          have hstk : (F0 m pc ls (st.map (zv ad))).stack = ((st.take (mA q.1)).reverse.map (zv ad)).reverse ++ .ref (ad b) :: st'.map (zv ad) := by
            show st.map (zv ad) = _
            rw [← List.map_reverse, List.reverse_reverse]
            have : st = st.take (mA q.1) ++ .ref b :: st' := by rw [← hdrop, List.take_append_drop]
            conv => lhs; rw [this]
            rw [List.map_append]
            rfl
          have g1 := Nat.le_of_ble_eq_true g1
          have hroom : 2 * (F0 m pc ls (st.map (zv ad))).monitorRoom + ((st'.map (zv ad)).map fun v => v.category).sum ≤ 8 := by
            rw [zcs_sum]
            show 2 * 0 + _ ≤ 8
            omega
          have hMn := hM hn
          unfold zMet zWs at hMn
          have hGd := zGood q.1 hn
          unfold zWs at hGd
          rw [i2] at hMn hGd
          cases hnest : q.2.1 with
          | zero =>
            have hw := zG_in f1 (by unfold zMc; dsimp only; rw [hnest]; rfl)
            have hw := hts _ hw
            unfold zMc at hw
            dsimp only at hw
            rw [hnest, h3, h4, hY] at hw
            exact behind rfl rfl rfl (va_runI ⟨hx, hb, hml, hown, hts⟩ hMn ⟨callB_of (mA q.1) hts hGd rfl rfl rfl hini hw ⟨y3, y4, y5⟩ (roomOf hn), i1, hinst⟩ (preS (.ref b :: (st.take (mA q.1)).reverse) rfl) rfl hargs (hsz.trans hLn) hstk hroom hd hfit)
          | succ k =>
            have hw : va_Nw _ s := hK.2.2.1 _ (zNw_in f1 (by unfold zMc; dsimp only; rw [hnest]; rfl))
            unfold zMc at hw
            dsimp only at hw
            rw [hnest, h3, h4, hY] at hw
            exact behind rfl rfl rfl (va_runIN ⟨hx, hb, hml, hown, hts⟩ hMn ⟨va_cnB (mA q.1) hts hGd rfl rfl rfl hw hini ⟨y3, y4, y5⟩ (roomOf hn), i1, hinst⟩ (preS (.ref b :: (st.take (mA q.1)).reverse) rfl) rfl hargs (hsz.trans hLn) hstk hroom hd hfit)
         all_goals cases hs
    case putfield idx =>
      dsimp only at hs
      split at hs
      · obtain ⟨q, hq, hs⟩ := zbind hs
        obtain ⟨h1, hv, hs⟩ := zbind hs
        cases hs
      · cases hs
    case aastore =>
      dsimp only at hs
      split at hs
      · obtain ⟨t, ht, hs⟩ := zbind hs
        obtain ⟨h1, hv, hs⟩ := zbind hs
        cases hs
      · cases hs
    case newarray t =>
      dsimp only at hs
      split at hs
      · split at hs
        · cases hs
        · split at hs
          · cases hs
          · split at hs <;> cases hs
      · cases hs
    case anewarray idx =>
      dsimp only at hs
      split at hs
      · split at hs
        · cases hs
        · split at hs
          · cases hs
          · obtain ⟨q, hq, hs⟩ := zbind hs
            split at hs <;> cases hs
      · cases hs
    case ifCond cd off =>
      dsimp only at hs
      split at hs
      · obtain ⟨t, ht, hs⟩ := zbind hs
        cases hz : zcond cd _ 0 <;> (rw [hz] at hs; cases hs)
      · cases hs
    case if_icmp cd off =>
      dsimp only at hs
      split at hs
      · rename_i y x r
        obtain ⟨t, ht, hs⟩ := zbind hs
        cases hz : zcond cd x y <;> (rw [hz] at hs; cases hs)
      · cases hs
    case dup =>
      dsimp only at hs
      split at hs
      · obtain ⟨-, hs⟩ := zcnd hs
        cases hs
      · cases hs
    case pop =>
      dsimp only at hs
      split at hs
      · obtain ⟨-, hs⟩ := zcnd hs
        cases hs
      · cases hs
    case getfield idx =>
      dsimp only at hs
      split at hs
      · obtain ⟨q, hq, hs⟩ := zbind hs
        obtain ⟨v, hv, hs⟩ := zbind hs
        cases hs
      · cases hs
    case tableswitch d lo hi offs =>
      dsimp only at hs
      split at hs
      · split at hs
        · obtain ⟨t, ht, hs⟩ := zbind hs
          cases hs
        · obtain ⟨off, ho, hs⟩ := zbind hs
          obtain ⟨t, ht, hs⟩ := zbind hs
          cases hs
      · cases hs
    case ireturn =>
      dsimp only at hs
      split at hs
      · split at hs
        · cases hs
        · obtain ⟨-, hs⟩ := zcnd hs
          cases hs
        · cases hs
      · cases hs
    case areturn =>
      dsimp only at hs
      split at hs
      · split at hs
        · obtain ⟨-, hs⟩ := zcnd hs
          cases hs
        · cases hs
      · cases hs
    all_goals first
      | (cases hs; done)
      | (dsimp only at hs; split at hs <;> first | (cases hs; done) | (obtain ⟨q, hq, hs⟩ := zbind hs; cases hs; done) | (split at hs <;> cases hs))
      | (have hs2 := Option.bind_eq_some_iff.mp hs; obtain ⟨q, hq, hs3⟩ := hs2; cases hs3; done)
end ZR
