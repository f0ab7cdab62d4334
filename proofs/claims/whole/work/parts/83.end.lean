/-! the bound of the heap behind a law -/
theorem zsl_b {M : Nat} : ∀ {h : ZH}, (∀ k : Nat, k < h.length → ∃ c, h[k]? = some c ∧ c.2.length ≤ M) → zsl h ≤ M * h.length
  | [], _ => Nat.zero_le _
  | x :: q, hb => by
    have i := zsl_b (h := q) fun k hk => by
      obtain ⟨c, c1, c2⟩ := hb (k + 1) (by rw [List.length_cons]; omega)
      exact ⟨c, c1, c2⟩
    obtain ⟨c, c1, c2⟩ := hb 0 (by rw [List.length_cons]; omega)
    have e : x = c := Option.some.inj c1
    subst e
    show x.2.length + zsl q ≤ M * (q.length + 1)
    rw [Nat.mul_succ]
    omega
theorem zsl_R (S : Nat → Int32) (G : Nat → Nat → Int32) (Q : Nat → Nat → Int64) : zsl (zRl S G Q) ≤ 4000 := by
  simp only [zRl, zRo, zsl, zia_len, zla_len, List.length_cons, List.length_nil]
  decide
theorem zsv_b : ∀ k : Nat, k < 5 → (zint (zsv k)).length ≤ 4000 := by decide +kernel
theorem tb_c : ∀ k : Nat, k < 206 → ((List.range 31).any fun t => decide (tb t ≤ 36 + k ∧ 36 + k ≤ tb t + tM t)) = true := by decide +kernel
theorem bn_b : ∀ a : Nat, a < 6 → bn a ≤ 4000 := by decide
theorem al_b {h : ZH} {a : Nat} {v : AV} (hv : zAv h a v) {k : Nat} (hk : k = a ∨ k = a + 1) : ∃ c, h[k]? = some c ∧ c.2.length ≤ 4000 := by
  rcases hk with rfl | rfl
  · exact ⟨_, hv.1, Nat.le_of_ble_eq_true rfl⟩
  · refine ⟨_, hv.2, ?_⟩
    show (zia 60 _).length ≤ 4000
    rw [zia_len]
    decide
theorem ia_b {h : ZH} {n k : Nat} {f : Nat → Int32} (hv : h[k]? = some (10, zia n f)) (hn : n ≤ 4000) : ∃ c, h[k]? = some c ∧ c.2.length ≤ 4000 := ⟨_, hv, by
    show (zia n f).length ≤ 4000
    rw [zia_len]
    exact hn⟩
theorem bk_b {h : ZH} {b : Nat} {A : AV} (hb : bookI h b A) {k : Nat} (h1 : b ≤ k) (h2 : k < b + 7) : ∃ c, h[k]? = some c ∧ c.2.length ≤ 4000 := by
  obtain ⟨s, X, ⟨b1, b2⟩, -⟩ := hb
  by_cases z : k = b
  · subst z
    exact ⟨_, b1, Nat.le_of_ble_eq_true rfl⟩
  · obtain ⟨a, rfl⟩ : ∃ a, k = b + 1 + a := ⟨k - (b + 1), by omega⟩
    exact ia_b (b2 a (by omega)) (bn_b a (by omega))
theorem cF_b {l : List Int32} {h : ZH} {A B : AV} {r : Nat → AV} {kept next P F : Nat} {e : Int32} (hc : cF h A B r kept next P F e) (h5 : h[5]? = some (20, zint l)) (hl : l.length ≤ 3584) (k : Nat) (hk : k < 256) : ∃ c, h[k]? = some c ∧ c.2.length ≤ 4000 := by
  obtain ⟨⟨g6, g7, g9, ⟨g11, g12⟩, gr, -, -, hPF⟩, ⟨i1, i2, ⟨fw, i3⟩, ⟨fq, i4⟩, ⟨fv, i5⟩, ⟨fa, i6⟩, ⟨fe, i7⟩, i8, n, W, H, le, sa, sb, i9⟩, hP, hF, -, -, -⟩ := hc
  by_cases k1 : k < 5
  · exact ⟨_, i1 k k1, zsv_b k k1⟩
  by_cases k2 : k = 5
  · subst k2
    refine ⟨_, h5, ?_⟩
    show (zint l).length ≤ 4000
    rw [zint_len]
    omega
  by_cases k3 : k = 6
  · subst k3
    exact ⟨_, g6, Nat.le_of_ble_eq_true rfl⟩
  by_cases k4 : k < 9
  · exact al_b g7 (by omega)
  by_cases k5 : k < 11
  · exact al_b g9 (by omega)
  by_cases k6 : k = 11
  · subst k6
    exact ⟨_, g11, Nat.le_of_ble_eq_true rfl⟩
  by_cases k7 : k = 12
  · subst k7
    exact ⟨_, g12, Nat.le_of_ble_eq_true rfl⟩
  by_cases k8 : k < 29
  · exact al_b (gr ((k - 13) / 2) (by omega)) (by omega)
  by_cases k9 : k = 29
  · subst k9
    exact ⟨_, i9, Nat.le_of_ble_eq_true rfl⟩
  by_cases k10 : k = 30
  · subst k10
    exact ⟨_, i2, Nat.le_of_ble_eq_true rfl⟩
  by_cases k11 : k = 31
  · subst k11
    exact ia_b i3 (by decide)
  by_cases k12 : k = 32
  · subst k12
    exact ia_b i4 (by decide)
  by_cases k13 : k = 33
  · subst k13
    exact ia_b i5 (by decide)
  by_cases k14 : k = 34
  · subst k14
    exact ia_b i6 (by decide)
  by_cases k15 : k = 35
  · subst k15
    exact ia_b i7 (by decide)
  by_cases k16 : k < 242
  · obtain ⟨j, rfl⟩ : ∃ j, k = 36 + j := ⟨k - 36, by omega⟩
    obtain ⟨t, t1, t2⟩ := List.any_eq_true.mp (tb_c j (by omega))
    have ht : t < 31 := List.mem_range.mp t1
    obtain ⟨t3, t4⟩ := of_decide_eq_true t2
    obtain ⟨q1, D, q2, -, -⟩ := i8 t ht
    by_cases z : 36 + j = tb t
    · rw [z]
      exact ⟨_, q1, Nat.le_of_ble_eq_true rfl⟩
    · obtain ⟨v, hv⟩ : ∃ v, 36 + j = tb t + 1 + v := ⟨36 + j - (tb t + 1), by omega⟩
      rw [hv]
      exact ⟨_, q2 v (by omega), Nat.le_of_ble_eq_true rfl⟩
  rcases hPF with ⟨rfl, rfl⟩ | ⟨rfl, rfl⟩
  · by_cases z : k < 249
    · exact bk_b hP (by omega) (by omega)
    · exact bk_b hF (by omega) (by omega)
  · by_cases z : k < 249
    · exact bk_b hF (by omega) (by omega)
    · exact bk_b hP (by omega) (by omega)
theorem wI_b {l : List Int32} {h : ZH} (hl : l.length ≤ 3584) (hh : wI l h) : h.length = 286 ∧ zsl h ≤ 1100000 := by
  obtain ⟨p, S, G, Q, A, B, r, kept, next, P, F, e, rfl, hc, h0, -⟩ := hh
  have hb := zsl_b (M := 4000) (h := p.1) fun k hk => by
    have hk' : k < 256 := by rw [← p.2]; exact hk
    obtain ⟨c, c1, c2⟩ := cF_b hc h0 hl k hk'
    rw [zRh_lo hk'] at c1
    exact ⟨c, c1, c2⟩
  rw [p.2] at hb
  have hq := zsl_R S G Q
  refine ⟨?_, ?_⟩
  · unfold zRh
    rw [List.length_append, p.2]
    rfl
  · unfold zRh
    rw [zsl_app]
    omega
theorem wI_56 {l : List Int32} (h : ZH) (hh : wI l h) : h[5]? = some (20, zint l) ∧ (h[6]?).map (fun c => c.1) = some 6 := by
  obtain ⟨p, S, G, Q, A, B, r, kept, next, P, F, e, rfl, hc, h0, -⟩ := hh
  exact ⟨h0, by rw [hc.1.1]; rfl⟩
