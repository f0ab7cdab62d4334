theorem zM_deep {f : Nat} : ∀ (d n : Nat) (as : List Value) (h : ZH) (x : Option Value × ZH), zM f d n as h = some x → zM f (d + 1) n as h = some x
  | 0, n, as, h, x, hr => by cases hr
  | d + 1, n, as, h, x, hr => by
    unfold zM at hr ⊢
    cases hE : zent n as with
    | none => rw [hE] at hr; cases hr
    | some L =>
      rw [hE] at hr
      exact zrun_mono (zM_deep d) f f n 0 L [] h x (Nat.le_refl _) hr
theorem zcl_deep {d n : Nat} {as : List Value} {h : ZH} {x : Option Value × ZH} (hr : zcl d n as h = some x) : ∀ e : Nat, zcl (d + e) n as h = some x
  | 0 => hr
  | e + 1 => by
    obtain ⟨f, hf⟩ := zcl_iff.mp (zcl_deep hr e)
    exact zcl_of (zM_deep _ n as h x hf)
theorem zr_new {d m pc idx : Nat} {L st : List Value} {h : ZH} {q : Nat × Nat} (hf : zf m pc = some (.new idx, 3)) (hq : zkl m idx zCl = some q) : zres d m pc L st h = zres d m (pc + 3) L (.ref h.length :: st) (h ++ [(q.1, zdef q.1)]) := zr_next (by unfold zI; rw [hf]; show (zkl m idx zCl).bind _ = _; rw [hq]; rfl)
/-- the class ahead of its sheet -/
def zpre : ZH := [(6, [.ref 7, .ref 9, .ref 11, .null, .null, .null, .int (0)]), (0, [.ref 8, .int (0), .int (100), .int (100)]), (10, List.replicate 60 (.int (0))), (0, [.ref 10, .int (0), .int (100), .int (100)]), (10, List.replicate 60 (.int (0))), (2, [.ref 12, .int (0), .int (0)]), (12, [.ref 13, .ref 15, .ref 17, .ref 19, .ref 21, .ref 23, .ref 25, .ref 27]), (0, [.ref 14, .int (0), .int (100), .int (100)]), (10, List.replicate 60 (.int (0))), (0, [.ref 16, .int (0), .int (100), .int (100)]), (10, List.replicate 60 (.int (0))), (0, [.ref 18, .int (0), .int (100), .int (100)]), (10, List.replicate 60 (.int (0))), (0, [.ref 20, .int (0), .int (100), .int (100)]), (10, List.replicate 60 (.int (0))), (0, [.ref 22, .int (0), .int (100), .int (100)]), (10, List.replicate 60 (.int (0))), (0, [.ref 24, .int (0), .int (100), .int (100)]), (10, List.replicate 60 (.int (0))), (0, [.ref 26, .int (0), .int (100), .int (100)]), (10, List.replicate 60 (.int (0))), (0, [.ref 28, .int (0), .int (100), .int (100)]), (10, List.replicate 60 (.int (0)))]
def zpre2 : ZH := [(6, [.ref 7, .ref 9, .ref 11, .ref 29, .ref 242, .ref 249, .int (0)]), (0, [.ref 8, .int (0), .int (100), .int (100)]), (10, List.replicate 60 (.int (0))), (0, [.ref 10, .int (0), .int (100), .int (100)]), (10, List.replicate 60 (.int (0))), (2, [.ref 12, .int (0), .int (0)]), (12, [.ref 13, .ref 15, .ref 17, .ref 19, .ref 21, .ref 23, .ref 25, .ref 27]), (0, [.ref 14, .int (0), .int (100), .int (100)]), (10, List.replicate 60 (.int (0))), (0, [.ref 16, .int (0), .int (100), .int (100)]), (10, List.replicate 60 (.int (0))), (0, [.ref 18, .int (0), .int (100), .int (100)]), (10, List.replicate 60 (.int (0))), (0, [.ref 20, .int (0), .int (100), .int (100)]), (10, List.replicate 60 (.int (0))), (0, [.ref 22, .int (0), .int (100), .int (100)]), (10, List.replicate 60 (.int (0))), (0, [.ref 24, .int (0), .int (100), .int (100)]), (10, List.replicate 60 (.int (0))), (0, [.ref 26, .int (0), .int (100), .int (100)]), (10, List.replicate 60 (.int (0))), (0, [.ref 28, .int (0), .int (100), .int (100)]), (10, List.replicate 60 (.int (0)))]
def zbooks : ZH := [(1, [.ref 243, .ref 244, .ref 245, .ref 246, .ref 247, .ref 248, .int (0), .int (0), .int (0)]), (10, List.replicate 26 (.int (0))), (10, List.replicate 26 (.int (0))), (10, List.replicate 26 (.int (0))), (10, List.replicate 60 (.int (0))), (10, List.replicate 72 (.int (0))), (10, List.replicate 12 (.int (0))), (1, [.ref 250, .ref 251, .ref 252, .ref 253, .ref 254, .ref 255, .int (0), .int (0), .int (0)]), (10, List.replicate 26 (.int (0))), (10, List.replicate 26 (.int (0))), (10, List.replicate 26 (.int (0))), (10, List.replicate 60 (.int (0))), (10, List.replicate 72 (.int (0))), (10, List.replicate 12 (.int (0)))]
def zcls : ZH := zpre2 ++ (zsheet ++ zbooks)
theorem zk1b : zit (zM 300 9) 20 51 0 [.ref 6] [] (zhA ++ ([(9, [])] ++ [(6, zdef 6)])) = some (42, [.ref 6], [.ref 29, .ref 29, .ref 6], zhA ++ (((9, []) :: zpre) ++ [(4, zdef 4)])) := by decide +kernel
theorem zk2b : zrun (zM 300 9) 300 51 45 [.ref 6] ((none : Option Value).toList ++ [.ref 29, .ref 6]) (zhA ++ (((9, []) :: zpre) ++ zsheet)) = some (none, zhA ++ ([(9, [])] ++ zcls)) := by decide +kernel
theorem zxA : zhA.all zxc = true := by decide +kernel
theorem zxSheet : zsheet.all zxc = true := by decide +kernel
theorem zxCls : zcls.all zxc = true := by decide +kernel
theorem zclass0 : zcl 10 51 [.ref 6] (zhA ++ ([(9, [])] ++ [(6, zdef 6)])) = some (none, zhA ++ ([(9, [])] ++ zcls)) := by
  have a1 := zsheet0
  have hl : ((9, []) :: zpre : ZH).length = 24 := by decide +kernel
  have a2 : zcl 9 35 [.ref 29] (zhA ++ (((9, []) :: zpre) ++ [(4, zdef 4)])) = some (none, zhA ++ (((9, []) :: zpre) ++ zsheet)) := zM_frame (k0 := (9, []) :: zpre) (by rw [hl]; exact a1) zxA zxSheet
  have b1 : zcl 10 51 [.ref 6] (zhA ++ ([(9, [])] ++ [(6, zdef 6)])) = zres 9 51 42 [.ref 6] [.ref 29, .ref 29, .ref 6] (zhA ++ (((9, []) :: zpre) ++ [(4, zdef 4)])) := by
    rw [e51]
    exact zit_res _ _ _ _ _ _ _ _ _ _ zk1b
  rw [b1, g51_42 (by decide), a2]
  exact zres_iff.mpr ⟨300, zk2b⟩
def zmdl : ZH := [(7, [.int (0), .ref 257, .ref 258, .int (0), .int (0), .int (0), .ref 259, .ref 260, .ref 261, .ref 262, .ref 263, .ref 264, .ref 265, .long (0), .long (0), .ref 266, .ref 267, .ref 268, .ref 269, .ref 270, .ref 271, .ref 272, .ref 273, .ref 274, .ref 275, .ref 276, .ref 277, .ref 278, .ref 279, .int (0), .ref 280, .ref 281, .ref 282, .int (0), .int (0), .int (0), .ref 283, .ref 284, .ref 285]), (10, List.replicate 63 (.int (0))), (10, List.replicate 504 (.int (0))), (10, List.replicate 8 (.int (0))), (10, List.replicate 8 (.int (0))), (10, List.replicate 8 (.int (0))), (10, List.replicate 8 (.int (0))), (10, List.replicate 8 (.int (0))), (10, List.replicate 8 (.int (0))), (10, [.int (0), .int (0), .int (0), .int (0)]), (11, List.replicate 8 (.long (0))), (11, List.replicate 8 (.long (0))), (11, List.replicate 8 (.long (0))), (11, List.replicate 8 (.long (0))), (11, List.replicate 8 (.long (0))), (11, List.replicate 8 (.long (0))), (11, List.replicate 8 (.long (0))), (11, List.replicate 8 (.long (0))), (11, List.replicate 8 (.long (0))), (11, List.replicate 8 (.long (0))), (11, [.long (0), .long (0), .long (0), .long (0)]), (10, List.replicate 26 (.int (0))), (10, List.replicate 26 (.int (0))), (10, List.replicate 48 (.int (0))), (10, List.replicate 64 (.int (0))), (10, List.replicate 64 (.int (0))), (10, List.replicate 64 (.int (0))), (10, List.replicate 64 (.int (0))), (10, List.replicate 64 (.int (0))), (10, List.replicate 64 (.int (0)))]
theorem zmodel0 : zcl 10 77 [.ref 256] (zhA ++ (zbl 251 ++ [(7, zdef 7)])) = some (none, zhA ++ (zbl 251 ++ zmdl)) := zcl_of (f := 200) (by decide +kernel)
theorem zxMdl : zmdl.all zxc = true := by decide +kernel
theorem zclsL : zcls.length = 250 := by decide +kernel
theorem zmdlL : zmdl.length = 30 := by decide +kernel
/-- the class's constructor, whatever the script -/
theorem zclass (c : ZC) : zcl 13 51 [.ref 6] (zhA ++ ([c] ++ [(6, zdef 6)])) = some (none, zhA ++ ([c] ++ zcls)) := zcl_deep (d := 10) (zM_frame (k0 := [c]) zclass0 zxA zxCls) 3
theorem zmodel (c : ZC) : zcl 13 77 [.ref 256] (zhA ++ ((c :: zcls) ++ [(7, zdef 7)])) = some (none, zhA ++ ((c :: zcls) ++ zmdl)) :=
  zcl_deep (d := 10) (zM_frame (k0 := c :: zcls) (by rw [show (c :: zcls).length = 251 from by rw [List.length_cons, zclsL]]; exact zmodel0) zxA zxMdl) 3
