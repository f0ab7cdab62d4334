section UNDO
variable {l : List Int32} {p : ZP} {S : Nat → Int32} {G : Nat → Nat → Int32} {Q : Nat → Nat → Int64} {A B : AV} {r : Nat → AV} {kept next P F : Nat} {e : Int32} {h1 : ZH}
theorem w_u {pic pg : Int32} (hc : cF (zRh p S G Q) A B r kept next P F e) (h0 : (zRh p S G Q)[5]? = some (20, zint l)) (hb : ∃ s X, BK (zRh p S G Q) F s X ∧ s 6 = pic ∧ s 7 = pg) (hk : 0 < kept) (d1 : zCs h1 (r ((next + 7) % 8)) A r (kept - 1) ((next + 7) % 8) F P 1) (d2 : h1[F]? = some (zBkc F pic pg 0)) (d3 : zFr (zRh p S G Q) h1 F) : h1[5]? = (zRh p S G Q)[5]? ∧ ∃ p1 : ZP, h1 = zRh p1 S G Q ∧ (h1[256]?).map (fun c => c.1) = some 7 ∧ ∀ S' G' Q', zrD S S' G' A (r ((next + 7) % 8)) (kept - 1) (fun m => r ((next + 8 - kept + m) % 8)) → wI l (zRh p1 S' G' Q') := by
  obtain ⟨hC, hI, hP, hF, hA, hB, hR⟩ := hc
  have hPF := hC.2.2.2.2.2.2.2
  have hk8 := hC.2.2.2.2.2.1
  have hn8 := hC.2.2.2.2.2.2.1
  have h5 : h1[5]? = (zRh p S G Q)[5]? := d3 5 (by omega) (by omega)
  obtain ⟨p1, e1, e2, e3⟩ := w_p h0 h5 (fun k hk => d3 k (by omega) (by omega))
  refine ⟨h5, p1, e1, e2, fun S' G' Q' hs => ?_⟩
  obtain ⟨f1, f2⟩ := e3 S' G' Q'
  obtain ⟨s, X, b1, b2, b3⟩ := hb
  have BKF : BK h1 F (upd s 8 0) X := ⟨by rw [pk_un (by decide), pk_un (by decide), pk_us, b2, b3]; exact d2, fun a ha => (d3 _ (by omega) (by omega)).trans (b1.2 a ha)⟩
  have cf1 : cF h1 (r ((next + 7) % 8)) A r (kept - 1) ((next + 7) % 8) F P 1 := ⟨d1, by
      obtain ⟨i1, i2, ⟨fw, i3⟩, ⟨fq, i4⟩, ⟨fv, i5⟩, ⟨fa, i6⟩, ⟨fe, i7⟩, i8, n, W, H, le, sa, sb, i9⟩ := hI
      exact ⟨zSta_fr i1 fun a ha => d3 a (by omega) (by omega), (d3 30 (by omega) (by omega)).trans i2, ⟨fw, (d3 31 (by omega) (by omega)).trans i3⟩, ⟨fq, (d3 32 (by omega) (by omega)).trans i4⟩, ⟨fv, (d3 33 (by omega) (by omega)).trans i5⟩, ⟨fa, (d3 34 (by omega) (by omega)).trans i6⟩, ⟨fe, (d3 35 (by omega) (by omega)).trans i7⟩, fun t ht => zTre_fr (i8 t ht) ht fun a g1 g2 => d3 a (by have := tb_ok t ht; omega) (by have := tb_ok t ht; omega), n, W, H, le, sa, sb, (d3 29 (by omega) (by omega)).trans i9⟩, ⟨upd s 8 0, X, BKF, Or.inl pk_us⟩, bookI_fr hP fun a g1 g2 => d3 a (by omega) (by omega), hR _ (Nat.mod_lt _ (by decide)), hA, hR⟩
  exact ⟨p1, S', G', Q', r ((next + 7) % 8), A, r, kept - 1, (next + 7) % 8, F, P, 1, rfl, cF_fr cf1 f1, f2, Or.inl ⟨hs.1, hs.2.1⟩, hs.2.2.2.2.1, fun m hm => by
    have := hs.2.2.2.2.2 m hm
    have e : ((next + 7) % 8 + 8 - (kept - 1) + m) % 8 = (next + 8 - kept + m) % 8 := by omega
    show zGA _ (r (((next + 7) % 8 + 8 - (kept - 1) + m) % 8))
    rw [e]
    exact this, Or.inr ⟨rfl, hs.2.2.1, hs.2.2.2.1⟩⟩
end UNDO
theorem wp_undo (l : List Int32) : zPr_undo (wI l) := by
  intro h hh _
  obtain ⟨p, S, G, Q, A, B, r, kept, next, P, F, e, rfl, hc, h0, hR, h3, hK, ho⟩ := hh
  have hA := hc.2.2.2.2.1
  obtain ⟨s, X, b1, b2⟩ := hc.2.2.2.1
  have hk8 := hc.1.2.2.2.2.2.1
  by_cases hk : kept = 0
  · exact ⟨0, wQ hc h0 h3 hK ho (c_undo_no 8 hc.1 hk) hc cU_rf (fun p1 => by
      obtain ⟨S', G', r1, r2⟩ := r_undo_no (p := p1) (Q := Q) 1 hR (h3.trans (by rw [hk]; rfl))
      exact ⟨S', G', Q, r1, r2⟩)⟩
  · have hk0 : 0 < kept := Nat.pos_of_ne_zero hk
    obtain ⟨h1, c1, c2, c3, c4⟩ := c_undo 8 hc.1 b1.1 hk0
    obtain ⟨g5, p1, e1, e2, e3⟩ := w_u hc h0 ⟨s, X, b1, rfl, rfl⟩ hk0 c2 c3 c4
    have hn8 := hc.1.2.2.2.2.2.2.1
    obtain ⟨S', G', Q', r1, r2⟩ := r_undo (p := p1) (Q := Q) 1 hR hA h3 hk8 hk0 hK (hc.2.2.2.2.2.2 _ (Nat.mod_lt _ (by decide))).1
    have eK : r ((next + 8 - kept + (kept - 1)) % 8) = r ((next + 7) % 8) := congrArg r (by omega)
    have r3 : zrD S S' G' A (r ((next + 7) % 8)) (kept - 1) (fun m => r ((next + 8 - kept + m) % 8)) := by
      rw [← eK]
      exact r2
    exact ⟨1, h1, _, c1, g5, e2, by rw [e1]; exact r1, e3 S' G' Q' r3⟩
theorem wp_all (l : List Int32) : zPr (wI l) := ⟨wp_page l, wp_picture l, wp_change l, wp_swap l, wp_drop l, wp_about l, wp_trees l, wp_tree l, wp_shape l, wp_side l, wp_cost l, wp_best l, wp_book l, wp_pages l, wp_leaf l, wp_pageOf l, wp_books l, wp_changed l, wp_undo l⟩
