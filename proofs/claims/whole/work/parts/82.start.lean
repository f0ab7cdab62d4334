/-! the heap behind the two constructors keeps the invariant -/
def A00 : AV := (0, 100, 100, fun _ => 0)
theorem zcls_len : zcls.length = 250 := by decide +kernel
theorem zRl_0 : zRl (fun _ => 0) (fun _ _ => 0) (fun _ _ => 0) = zmdl := by decide +kernel
theorem zhS_e (l : List Int32) : zhS l = (zhA ++ [(20, zint l)]) ++ (zcls ++ zmdl) := by
  simp only [zhS, List.append_assoc, List.cons_append, List.nil_append]
theorem zhS_c (l : List Int32) {j : Nat} (hj : j < 250) : (zhS l)[6 + j]? = zcls[j]? := by
  have e6 : (zhA ++ [(20, zint l)]).length = 6 := rfl
  rw [zhS_e, List.getElem?_append_right (by rw [e6]; omega), e6, Nat.add_sub_cancel_left, List.getElem?_append_left (by rw [zcls_len]; exact hj)]
theorem zhS_l (l : List Int32) {j : Nat} (hj : j < 5) : (zhS l)[j]? = zhA[j]? := by
  have e5 : zhA.length = 5 := rfl
  unfold zhS
  rw [List.getElem?_append_left (by rw [e5]; exact hj)]
theorem zA_0 : ∀ k : Nat, k < 5 → zhA[k]? = some (20, zint (zsv k)) := by decide +kernel
theorem zc_r : ∀ i : Nat, i < 8 → zcls[7 + 2 * i]? = some (0, [.ref (13 + 2 * i + 1), .int (nI 0), .int (nI 100), .int (nI 100)]) ∧ zcls[8 + 2 * i]? = some (10, zia 60 fun _ => 0) := by decide +kernel
theorem zc_t : ∀ t : Nat, t < 31 → zcls[tb t - 6]? = some (5, [.ref (tb t + 1), .ref (tb t + tM t)]) := by decide +kernel
theorem zc_n : ∀ t : Nat, t < 31 → ∀ v : Nat, v < tM t → zcls[tb t - 5 + v]? = some (zNd (tb t) (tM t) (tT t) v (fun c => if c = 4 ∨ c = 7 then 1 else 0)) := by decide +kernel
theorem zc_b1 : ∀ a : Nat, a < 6 → zcls[237 + a]? = some (10, zia (bn a) (fun _ => 0)) := by decide +kernel
theorem zc_b2 : ∀ a : Nat, a < 6 → zcls[244 + a]? = some (10, zia (bn a) (fun _ => 0)) := by decide +kernel
theorem zc0_6 : zcls[0]? = some (zObj 242 249 0) := by decide +kernel
theorem zc_a : zcls[1]? = some (0, [.ref (7 + 1), .int (nI 0), .int (nI 100), .int (nI 100)]) ∧ zcls[2]? = some (10, zia 60 fun _ => 0) ∧ zcls[3]? = some (0, [.ref (9 + 1), .int (nI 0), .int (nI 100), .int (nI 100)]) ∧ zcls[4]? = some (10, zia 60 fun _ => 0) := by decide +kernel
theorem zc_h : zcls[5]? = some (2, [.ref 12, .int (nI 0), .int (nI 0)]) ∧ zcls[6]? = some (12, zring) := by decide +kernel
theorem zc_s : zcls[23]? = some (zShc 0 0 0 0 1 1) ∧ zcls[24]? = some (13, zfo) ∧ zcls[25]? = some (10, zia 4 fun _ => 0) ∧ zcls[26]? = some (10, zia 4 fun _ => 0) ∧ zcls[27]? = some (10, zia 4 fun _ => 0) ∧ zcls[28]? = some (10, zia 4 fun _ => 0) ∧ zcls[29]? = some (10, zia 16 fun _ => 0) := by decide +kernel
theorem zc_k : zcls[236]? = some (zBkc 242 0 0 0) ∧ zcls[243]? = some (zBkc 249 0 0 0) := by decide +kernel
theorem zVa_0 : zVa A00 := ⟨by decide, by decide, by decide, fun i hi => absurd hi (Nat.not_lt_zero i)⟩
theorem cF_0 (l : List Int32) : cF (zhS l) A00 A00 (fun _ => A00) 0 0 242 249 0 := by
  have c := fun {j : Nat} (hj : j < 250) => zhS_c l hj
  refine ⟨⟨(c (j := 0) (by decide)).trans zc0_6, ⟨(c (j := 1) (by decide)).trans zc_a.1, (c (j := 2) (by decide)).trans zc_a.2.1⟩, ⟨(c (j := 3) (by decide)).trans zc_a.2.2.1, (c (j := 4) (by decide)).trans zc_a.2.2.2⟩, ⟨(c (j := 5) (by decide)).trans zc_h.1, (c (j := 6) (by decide)).trans zc_h.2⟩, fun i hi => ?_, by decide, by decide, Or.inl ⟨rfl, rfl⟩⟩, ⟨fun k hk => (zhS_l l hk).trans (zA_0 k hk), (c (j := 24) (by decide)).trans zc_s.2.1, ⟨_, (c (j := 25) (by decide)).trans zc_s.2.2.1⟩, ⟨_, (c (j := 26) (by decide)).trans zc_s.2.2.2.1⟩, ⟨_, (c (j := 27) (by decide)).trans zc_s.2.2.2.2.1⟩, ⟨_, (c (j := 28) (by decide)).trans zc_s.2.2.2.2.2.1⟩, ⟨_, (c (j := 29) (by decide)).trans zc_s.2.2.2.2.2.2⟩, fun t ht => ?_, 0, 0, 0, 0, 1, 1, (c (j := 23) (by decide)).trans zc_s.1⟩, ⟨fun _ => 0, fun _ _ => 0, ⟨(c (j := 236) (by decide)).trans zc_k.1, fun a ha => ?_⟩, Or.inl rfl⟩, ⟨fun _ => 0, fun _ _ => 0, ⟨(c (j := 243) (by decide)).trans zc_k.2, fun a ha => ?_⟩, Or.inl rfl⟩, zVa_0, zVa_0, fun _ _ => zVa_0⟩
  · have e1 : 13 + 2 * i = 6 + (7 + 2 * i) := by omega
    have e2 : 13 + 2 * i + 1 = 6 + (8 + 2 * i) := by omega
    obtain ⟨r1, r2⟩ := zc_r i hi
    exact ⟨(congrArg (fun a => (zhS l)[a]?) e1).trans ((c (by omega)).trans r1), (congrArg (fun a => (zhS l)[a]?) e2).trans ((c (by omega)).trans r2)⟩
  · have tk := tb_ok t ht
    have e1 : tb t = 6 + (tb t - 6) := by omega
    refine ⟨(congrArg (fun a => (zhS l)[a]?) e1).trans ((c (by omega)).trans (zc_t t ht)), fun _ c => if c = 4 ∨ c = 7 then 1 else 0, fun v hv => ?_, rfl, rfl⟩
    have e2 : tb t + 1 + v = 6 + (tb t - 5 + v) := by omega
    exact (congrArg (fun a => (zhS l)[a]?) e2).trans ((c (by omega)).trans (zc_n t ht v hv))
  · have e1 : 242 + 1 + a = 6 + (237 + a) := by omega
    exact (congrArg (fun a => (zhS l)[a]?) e1).trans ((c (by omega)).trans (zc_b1 a ha))
  · have e1 : 249 + 1 + a = 6 + (244 + a) := by omega
    exact (congrArg (fun a => (zhS l)[a]?) e1).trans ((c (by omega)).trans (zc_b2 a ha))
theorem wI_0 (l : List Int32) : wI l (zhS l) := by
  have hp : (zhA ++ ((20, zint l) :: zcls)).length = 256 := by
    rw [List.length_append, List.length_cons, zcls_len]
    rfl
  refine ⟨⟨_, hp⟩, fun _ => 0, fun _ _ => 0, fun _ _ => 0, A00, A00, fun _ => A00, 0, 0, 242, 249, 0, ?_, cF_0 l, rfl, Or.inr ⟨rfl, rfl, rfl, rfl, rfl⟩, rfl, fun m hm => absurd hm (Nat.not_lt_zero m), Or.inl ⟨rfl, rfl⟩⟩
  unfold zRh
  rw [zRl_0, zhS, List.append_assoc]
