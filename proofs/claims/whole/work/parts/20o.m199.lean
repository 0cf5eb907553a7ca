def f199_50 (h14 : Nat → Int32 → Int32 → JM → Option JM) (l0 : Nat) (l2 : Int32) (s0 : Int32) (s1 : Int32) (M : JM) : Option JM := (h14 l0 (s1 * s0) (l2 + (1 : Int32)) M)
set_option maxRecDepth 100000 in
theorem c199_50 {xs : Option (List Int32)} (h14 : Nat → Int32 → Int32 → JM → Option JM) (H14 : ∀ (l0 : Nat) (l1 : Int32) (l2 : Int32) (M : JM) (pl0 : jok jE0 l0 7 = true), JG xs 7 199 (h14 l0 l1 l2 M) (fun x r => r = (none, (jE0, x))) (14, [(0, .ref l0), (1, .int l1), (2, .int l2)], [], (jE0, M))) : ∀ (l0 : Nat) (l2 : Int32) (s0 : Int32) (s1 : Int32) (M : JM) (pl0 : jok jE0 l0 7 = true), JG xs 7 199 (f199_50 h14 l0 l2 s0 s1 M) (fun x r => r = (none, (jE0, x))) (50, [(0, .ref l0), (2, .int l2)], [.int s0, .int s1], (jE0, M)) := by
    intro l0 l2 s0 s1 M pl0
    unfold f199_50
    refine g_pure (c' := (14, [(2, .int (l2 + (1 : Int32))), (1, .int (s1 * s0)), (0, .ref l0)], [], (jE0, M))) 4 rfl ?_
    refine g_weakk (lv := [(0, .ref l0), (1, .int (s1 * s0)), (2, .int (l2 + (1 : Int32)))]) ⟨rfl, rfl, rfl, trivial⟩ [0, 1, 2] rfl (by decide) [2, 1, 0] rfl (by decide) ?_
    exact (H14 l0 (s1 * s0) (l2 + (1 : Int32)) M pl0)
def f199_185 (h60 : Nat → Int32 → Int32 → JM → Option JM) (l0 : Nat) (l1 : Int32) (l2 : Int32) (M : JM) : Option JM := (h60 l0 l1 (l2 + (1 : Int32)) M)
set_option maxRecDepth 100000 in
theorem c199_185 {xs : Option (List Int32)} (h60 : Nat → Int32 → Int32 → JM → Option JM) (H60 : ∀ (l0 : Nat) (l1 : Int32) (l2 : Int32) (M : JM) (pl0 : jok jE0 l0 7 = true), JG xs 7 199 (h60 l0 l1 l2 M) (fun x r => r = (none, (jE0, x))) (60, [(0, .ref l0), (1, .int l1), (2, .int l2)], [], (jE0, M))) : ∀ (l0 : Nat) (l1 : Int32) (l2 : Int32) (M : JM) (pl0 : jok jE0 l0 7 = true), JG xs 7 199 (f199_185 h60 l0 l1 l2 M) (fun x r => r = (none, (jE0, x))) (185, [(0, .ref l0), (1, .int l1), (2, .int l2)], [], (jE0, M)) := by
    intro l0 l1 l2 M pl0
    unfold f199_185
    refine g_pure (c' := (60, [(2, .int (l2 + (1 : Int32))), (0, .ref l0), (1, .int l1)], [], (jE0, M))) 2 rfl ?_
    refine g_weakk (lv := [(0, .ref l0), (1, .int l1), (2, .int (l2 + (1 : Int32)))]) ⟨rfl, rfl, rfl, trivial⟩ [0, 1, 2] rfl (by decide) [2, 0, 1] rfl (by decide) ?_
    exact (H60 l0 l1 (l2 + (1 : Int32)) M pl0)
def f199_166 (h60 : Nat → Int32 → Int32 → JM → Option JM) (h79 : Nat → Int32 → Int32 → Int32 → JM → Option JM) (l0 : Nat) (l1 : Int32) (l2 : Int32) (l3 : Int32) (s0 : Int32) (s1 : Nat) (M : JM) : Option JM := ((some (jup M s1 31 s0)).bind fun M18 => (h79 l0 l1 l2 (l3 + (1 : Int32)) M18))
set_option maxRecDepth 100000 in
theorem c199_166 {xs : Option (List Int32)} (h60 : Nat → Int32 → Int32 → JM → Option JM) (H60 : ∀ (l0 : Nat) (l1 : Int32) (l2 : Int32) (M : JM) (pl0 : jok jE0 l0 7 = true), JG xs 7 199 (h60 l0 l1 l2 M) (fun x r => r = (none, (jE0, x))) (60, [(0, .ref l0), (1, .int l1), (2, .int l2)], [], (jE0, M))) (h79 : Nat → Int32 → Int32 → Int32 → JM → Option JM) (H79 : ∀ (l0 : Nat) (l1 : Int32) (l2 : Int32) (l3 : Int32) (M : JM) (pl0 : jok jE0 l0 7 = true), JG xs 7 199 (h79 l0 l1 l2 l3 M) (fun x r => r = (none, (jE0, x))) (79, [(0, .ref l0), (1, .int l1), (2, .int l2), (3, .int l3)], [], (jE0, M))) : ∀ (l0 : Nat) (l1 : Int32) (l2 : Int32) (l3 : Int32) (s0 : Int32) (s1 : Nat) (M : JM) (pl0 : jok jE0 l0 7 = true) (ps1 : jok jE0 s1 7 = true), JG xs 7 199 (f199_166 h60 h79 l0 l1 l2 l3 s0 s1 M) (fun x r => r = (none, (jE0, x))) (166, [(0, .ref l0), (1, .int l1), (2, .int l2), (3, .int l3)], [.int s0, .ref s1], (jE0, M)) := by
    intro l0 l1 l2 l3 s0 s1 M pl0 ps1
    unfold f199_166
    refine g_pf (ci := 7) (k := 31) rfl rfl rfl rfl ps1 (fun M18 => ?_)
    refine g_pure (c' := (79, [(3, .int (l3 + (1 : Int32))), (0, .ref l0), (1, .int l1), (2, .int l2)], [], (jE0, M18))) 2 rfl ?_
    refine g_weakk (lv := [(0, .ref l0), (1, .int l1), (2, .int l2), (3, .int (l3 + (1 : Int32)))]) ⟨rfl, rfl, rfl, rfl, trivial⟩ [0, 1, 2, 3] rfl (by decide) [3, 0, 1, 2] rfl (by decide) ?_
    exact (H79 l0 l1 l2 (l3 + (1 : Int32)) M18 pl0)
def f199_114 (h60 : Nat → Int32 → Int32 → JM → Option JM) (h79 : Nat → Int32 → Int32 → Int32 → JM → Option JM) (l0 : Nat) (l1 : Int32) (l2 : Int32) (l3 : Int32) (s0 : Int32) (s1 : Int32) (s2 : Nat) (M : JM) : Option JM := ((jsa s2 s1 s0 M).bind fun M16 => (if (M16 l0 30) = (0 : Int32) then (f199_166 h60 h79 l0 l1 l2 l3 ((M16 l0 31) ||| ((1 : Int32) <<< (l3 &&& (31 : Int32)))) l0 M16) else ((jla (jpt l0 14) l3 M16).bind fun v19 => ((jla (jpt l0 29) l3 M16).bind fun v20 => (if v19 = v20 then (f199_166 h60 h79 l0 l1 l2 l3 (M16 l0 31) l0 M16) else (f199_166 h60 h79 l0 l1 l2 l3 ((M16 l0 31) &&& (((1 : Int32) <<< (l3 &&& (31 : Int32))) ^^^ (-1 : Int32))) l0 M16))))))
set_option maxRecDepth 100000 in
theorem c199_114 {xs : Option (List Int32)} (h60 : Nat → Int32 → Int32 → JM → Option JM) (H60 : ∀ (l0 : Nat) (l1 : Int32) (l2 : Int32) (M : JM) (pl0 : jok jE0 l0 7 = true), JG xs 7 199 (h60 l0 l1 l2 M) (fun x r => r = (none, (jE0, x))) (60, [(0, .ref l0), (1, .int l1), (2, .int l2)], [], (jE0, M))) (h79 : Nat → Int32 → Int32 → Int32 → JM → Option JM) (H79 : ∀ (l0 : Nat) (l1 : Int32) (l2 : Int32) (l3 : Int32) (M : JM) (pl0 : jok jE0 l0 7 = true), JG xs 7 199 (h79 l0 l1 l2 l3 M) (fun x r => r = (none, (jE0, x))) (79, [(0, .ref l0), (1, .int l1), (2, .int l2), (3, .int l3)], [], (jE0, M))) : ∀ (l0 : Nat) (l1 : Int32) (l2 : Int32) (l3 : Int32) (s0 : Int32) (s1 : Int32) (s2 : Nat) (M : JM) (pl0 : jok jE0 l0 7 = true) (ps2 : jok jE0 s2 8 = true), JG xs 7 199 (f199_114 h60 h79 l0 l1 l2 l3 s0 s1 s2 M) (fun x r => r = (none, (jE0, x))) (114, [(0, .ref l0), (1, .int l1), (2, .int l2), (3, .int l3)], [.int s0, .int s1, .ref s2], (jE0, M)) := by
    intro l0 l1 l2 l3 s0 s1 s2 M pl0 ps2
    unfold f199_114
    refine g_is rfl ps2 (fun M16 => ?_)
    refine g_pure (c' := (117, [(0, .ref l0), (1, .int l1), (2, .int l2), (3, .int l3)], [.ref l0, .ref l0], (jE0, M16))) 2 rfl ?_
    refine g_gf (ci := 7) (k := 30) rfl rfl rfl pl0 ?_
    refine g_if_ne (tgt := 134) rfl rfl (fun q17 => ?_) (fun q17 => ?_)
    · refine g_pure (c' := (124, [(0, .ref l0), (1, .int l1), (2, .int l2), (3, .int l3)], [.ref l0, .ref l0], (jE0, M16))) 1 rfl ?_
      refine g_gf (ci := 7) (k := 31) rfl rfl rfl pl0 ?_
      refine g_pure (c' := (166, [(0, .ref l0), (1, .int l1), (2, .int l2), (3, .int l3)], [.int ((M16 l0 31) ||| ((1 : Int32) <<< (l3 &&& (31 : Int32)))), .ref l0], (jE0, M16))) 5 rfl ?_
      exact (c199_166 h60 H60 h79 H79 l0 l1 l2 l3 ((M16 l0 31) ||| ((1 : Int32) <<< (l3 &&& (31 : Int32)))) l0 M16 pl0 pl0)
    · refine g_pure (c' := (135, [(0, .ref l0), (1, .int l1), (2, .int l2), (3, .int l3)], [.ref l0, .ref l0], (jE0, M16))) 1 rfl ?_
      refine g_gp rfl rfl rfl pl0 (jp_ok (kd := 8) pl0 (by decide) (by decide) rfl rfl).1 ?_
      refine g_pure (c' := (139, [(0, .ref l0), (1, .int l1), (2, .int l2), (3, .int l3)], [.int l3, .ref (jpt l0 14), .ref l0], (jE0, M16))) 1 rfl ?_
      refine g_ia rfl (jk_ok (kd := 8) pl0 (by decide) (by decide) rfl rfl) (fun v19 => ?_)
      refine g_pure (c' := (141, [(0, .ref l0), (1, .int l1), (2, .int l2), (3, .int l3)], [.ref l0, .int v19, .ref l0], (jE0, M16))) 1 rfl ?_
      refine g_gp rfl rfl rfl pl0 (jp_ok (kd := 8) pl0 (by decide) (by decide) rfl rfl).1 ?_
      refine g_pure (c' := (145, [(0, .ref l0), (1, .int l1), (2, .int l2), (3, .int l3)], [.int l3, .ref (jpt l0 29), .int v19, .ref l0], (jE0, M16))) 1 rfl ?_
      refine g_ia rfl (jk_ok (kd := 8) pl0 (by decide) (by decide) rfl rfl) (fun v20 => ?_)
      refine g_ic_ne (tgt := 156) rfl rfl (fun q21 => ?_) (fun q21 => ?_)
      · refine g_pure (c' := (150, [(0, .ref l0), (1, .int l1), (2, .int l2), (3, .int l3)], [.ref l0, .ref l0], (jE0, M16))) 1 rfl ?_
        refine g_gf (ci := 7) (k := 31) rfl rfl rfl pl0 ?_
        refine g_pure (c' := (166, [(0, .ref l0), (1, .int l1), (2, .int l2), (3, .int l3)], [.int (M16 l0 31), .ref l0], (jE0, M16))) 1 rfl ?_
        exact (c199_166 h60 H60 h79 H79 l0 l1 l2 l3 (M16 l0 31) l0 M16 pl0 pl0)
      · refine g_pure (c' := (157, [(0, .ref l0), (1, .int l1), (2, .int l2), (3, .int l3)], [.ref l0, .ref l0], (jE0, M16))) 1 rfl ?_
        refine g_gf (ci := 7) (k := 31) rfl rfl rfl pl0 ?_
        refine g_pure (c' := (166, [(0, .ref l0), (1, .int l1), (2, .int l2), (3, .int l3)], [.int ((M16 l0 31) &&& (((1 : Int32) <<< (l3 &&& (31 : Int32))) ^^^ (-1 : Int32))), .ref l0], (jE0, M16))) 6 rfl ?_
        exact (c199_166 h60 H60 h79 H79 l0 l1 l2 l3 ((M16 l0 31) &&& (((1 : Int32) <<< (l3 &&& (31 : Int32))) ^^^ (-1 : Int32))) l0 M16 pl0 pl0)
def f199_79 (h60 : Nat → Int32 → Int32 → JM → Option JM) : Nat → Nat → Int32 → Int32 → Int32 → JM → Option JM
  | 0, _, _, _, _, _ => none
  | n + 1, l0, l1, l2, l3, M => (if l3 < (M l0 13) then (if (M l0 30) = (0 : Int32) then ((jla (jpt l0 14) l3 M).bind fun v15 => (f199_114 h60 (f199_79 h60 n) l0 l1 l2 l3 v15 l3 (jpt l0 29) M)) else ((jla (jpt l0 29) l3 M).bind fun v22 => (f199_114 h60 (f199_79 h60 n) l0 l1 l2 l3 v22 l3 (jpt l0 29) M))) else ((some (jup M l0 30 ((M l0 30) + (1 : Int32)))).bind fun M23 => (f199_185 h60 l0 l1 l2 M23)))
set_option maxRecDepth 100000 in
theorem c199_79 {xs : Option (List Int32)} (h60 : Nat → Int32 → Int32 → JM → Option JM) (H60 : ∀ (l0 : Nat) (l1 : Int32) (l2 : Int32) (M : JM) (pl0 : jok jE0 l0 7 = true), JG xs 7 199 (h60 l0 l1 l2 M) (fun x r => r = (none, (jE0, x))) (60, [(0, .ref l0), (1, .int l1), (2, .int l2)], [], (jE0, M))) : ∀ (n : Nat) (l0 : Nat) (l1 : Int32) (l2 : Int32) (l3 : Int32) (M : JM) (pl0 : jok jE0 l0 7 = true), JG xs 7 199 (f199_79 h60 n l0 l1 l2 l3 M) (fun x r => r = (none, (jE0, x))) (79, [(0, .ref l0), (1, .int l1), (2, .int l2), (3, .int l3)], [], (jE0, M))
  | 0, _, _, _, _, _, _ => by rw [f199_79]; exact g_none
  | n + 1, l0, l1, l2, l3, M, pl0 => by
    rw [f199_79]
    refine g_pure (c' := (81, [(0, .ref l0), (1, .int l1), (2, .int l2), (3, .int l3)], [.ref l0, .int l3], (jE0, M))) 2 rfl ?_
    refine g_gf (ci := 7) (k := 13) rfl rfl rfl pl0 ?_
    refine g_ic_ge (tgt := 175) rfl rfl (fun q13 => ?_) (fun q13 => ?_)
    · refine g_pure (c' := (88, [(0, .ref l0), (1, .int l1), (2, .int l2), (3, .int l3)], [.ref l0], (jE0, M))) 1 rfl ?_
      refine g_gp rfl rfl rfl pl0 (jp_ok (kd := 8) pl0 (by decide) (by decide) rfl rfl).1 ?_
      refine g_pure (c' := (93, [(0, .ref l0), (1, .int l1), (2, .int l2), (3, .int l3)], [.ref l0, .int l3, .ref (jpt l0 29)], (jE0, M))) 2 rfl ?_
      refine g_gf (ci := 7) (k := 30) rfl rfl rfl pl0 ?_
      refine g_if_ne (tgt := 108) rfl rfl (fun q14 => ?_) (fun q14 => ?_)
      · refine g_pure (c' := (100, [(0, .ref l0), (1, .int l1), (2, .int l2), (3, .int l3)], [.ref l0, .int l3, .ref (jpt l0 29)], (jE0, M))) 1 rfl ?_
        refine g_gp rfl rfl rfl pl0 (jp_ok (kd := 8) pl0 (by decide) (by decide) rfl rfl).1 ?_
        refine g_pure (c' := (104, [(0, .ref l0), (1, .int l1), (2, .int l2), (3, .int l3)], [.int l3, .ref (jpt l0 14), .int l3, .ref (jpt l0 29)], (jE0, M))) 1 rfl ?_
        refine g_ia rfl (jk_ok (kd := 8) pl0 (by decide) (by decide) rfl rfl) (fun v15 => ?_)
        refine g_pure (c' := (114, [(0, .ref l0), (1, .int l1), (2, .int l2), (3, .int l3)], [.int v15, .int l3, .ref (jpt l0 29)], (jE0, M))) 1 rfl ?_
        exact (c199_114 h60 H60 (f199_79 h60 n) (c199_79 h60 H60 n) l0 l1 l2 l3 v15 l3 (jpt l0 29) M pl0 (jk_ok (kd := 8) pl0 (by decide) (by decide) rfl rfl))
      · refine g_pure (c' := (109, [(0, .ref l0), (1, .int l1), (2, .int l2), (3, .int l3)], [.ref l0, .int l3, .ref (jpt l0 29)], (jE0, M))) 1 rfl ?_
        refine g_gp rfl rfl rfl pl0 (jp_ok (kd := 8) pl0 (by decide) (by decide) rfl rfl).1 ?_
        refine g_pure (c' := (113, [(0, .ref l0), (1, .int l1), (2, .int l2), (3, .int l3)], [.int l3, .ref (jpt l0 29), .int l3, .ref (jpt l0 29)], (jE0, M))) 1 rfl ?_
        refine g_ia rfl (jk_ok (kd := 8) pl0 (by decide) (by decide) rfl rfl) (fun v22 => ?_)
        exact (c199_114 h60 H60 (f199_79 h60 n) (c199_79 h60 H60 n) l0 l1 l2 l3 v22 l3 (jpt l0 29) M pl0 (jk_ok (kd := 8) pl0 (by decide) (by decide) rfl rfl))
    · refine g_pure (c' := (177, [(0, .ref l0), (1, .int l1), (2, .int l2), (3, .int l3)], [.ref l0, .ref l0], (jE0, M))) 2 rfl ?_
      refine g_gf (ci := 7) (k := 30) rfl rfl rfl pl0 ?_
      refine g_pure (c' := (182, [(0, .ref l0), (1, .int l1), (2, .int l2), (3, .int l3)], [.int ((M l0 30) + (1 : Int32)), .ref l0], (jE0, M))) 2 rfl ?_
      refine g_pf (ci := 7) (k := 30) rfl rfl rfl rfl pl0 (fun M23 => ?_)
      refine g_weakk (lv := [(0, .ref l0), (1, .int l1), (2, .int l2)]) ⟨rfl, rfl, rfl, trivial⟩ [0, 1, 2] rfl (by decide) [0, 1, 2, 3] rfl (by decide) ?_
      exact (c199_185 h60 H60 l0 l1 l2 M23 pl0)
def f199_193  : Nat → Nat → Int32 → JM → Option JM
  | 0, _, _, _ => none
  | n + 1, l0, l2, M => (if l2 < (M l0 13) then ((jla (jpt l0 28) l2 M).bind fun v26 => ((jsa (jpt l0 14) l2 v26 M).bind fun M27 => ((f199_193 n) l0 (l2 + (1 : Int32)) M27))) else (some M))
set_option maxRecDepth 100000 in
theorem c199_193 {xs : Option (List Int32)} : ∀ (n : Nat) (l0 : Nat) (l2 : Int32) (M : JM) (pl0 : jok jE0 l0 7 = true), JG xs 7 199 (f199_193 n l0 l2 M) (fun x r => r = (none, (jE0, x))) (193, [(0, .ref l0), (2, .int l2)], [], (jE0, M))
  | 0, _, _, _, _ => by rw [f199_193]; exact g_none
  | n + 1, l0, l2, M, pl0 => by
    rw [f199_193]
    refine g_pure (c' := (195, [(0, .ref l0), (2, .int l2)], [.ref l0, .int l2], (jE0, M))) 2 rfl ?_
    refine g_gf (ci := 7) (k := 13) rfl rfl rfl pl0 ?_
    refine g_ic_ge (tgt := 219) rfl rfl (fun q25 => ?_) (fun q25 => ?_)
    · refine g_pure (c' := (202, [(0, .ref l0), (2, .int l2)], [.ref l0], (jE0, M))) 1 rfl ?_
      refine g_gp rfl rfl rfl pl0 (jp_ok (kd := 8) pl0 (by decide) (by decide) rfl rfl).1 ?_
      refine g_pure (c' := (207, [(0, .ref l0), (2, .int l2)], [.ref l0, .int l2, .ref (jpt l0 14)], (jE0, M))) 2 rfl ?_
      refine g_gp rfl rfl rfl pl0 (jp_ok (kd := 8) pl0 (by decide) (by decide) rfl rfl).1 ?_
      refine g_pure (c' := (211, [(0, .ref l0), (2, .int l2)], [.int l2, .ref (jpt l0 28), .int l2, .ref (jpt l0 14)], (jE0, M))) 1 rfl ?_
      refine g_ia rfl (jk_ok (kd := 8) pl0 (by decide) (by decide) rfl rfl) (fun v26 => ?_)
      refine g_is rfl (jk_ok (kd := 8) pl0 (by decide) (by decide) rfl rfl) (fun M27 => ?_)
      refine g_pure (c' := (193, [(2, .int (l2 + (1 : Int32))), (0, .ref l0)], [], (jE0, M27))) 2 rfl ?_
      refine g_weakk (lv := [(0, .ref l0), (2, .int (l2 + (1 : Int32)))]) ⟨rfl, rfl, trivial⟩ [0, 2] rfl (by decide) [2, 0] rfl (by decide) ?_
      exact ((c199_193 n) l0 (l2 + (1 : Int32)) M27 pl0)
    · exact g_ret rfl rfl (fun _ h => h)
def f199_60  : Nat → Nat → Int32 → Int32 → JM → Option JM
  | 0, _, _, _, _ => none
  | n + 1, l0, l1, l2, M => (if l2 < l1 then ((f198 l0 l2 M).bind fun M9 => ((f197 l0 M9).bind fun z24 => (if z24.1 = (0 : Int32) then (f199_185 (f199_60 n) l0 l1 l2 z24.2) else (f199_79 (f199_60 n) 1000 l0 l1 l2 (0 : Int32) z24.2)))) else (f199_193 1000 l0 (0 : Int32) M))
set_option maxRecDepth 100000 in
theorem c199_60 {xs : Option (List Int32)} : ∀ (n : Nat) (l0 : Nat) (l1 : Int32) (l2 : Int32) (M : JM) (pl0 : jok jE0 l0 7 = true), JG xs 7 199 (f199_60 n l0 l1 l2 M) (fun x r => r = (none, (jE0, x))) (60, [(0, .ref l0), (1, .int l1), (2, .int l2)], [], (jE0, M))
  | 0, _, _, _, _, _ => by rw [f199_60]; exact g_none
  | n + 1, l0, l1, l2, M, pl0 => by
    rw [f199_60]
    refine g_pure (c' := (62, [(0, .ref l0), (1, .int l1), (2, .int l2)], [.int l1, .int l2], (jE0, M))) 2 rfl ?_
    refine g_ic_ge (tgt := 191) rfl rfl (fun q8 => ?_) (fun q8 => ?_)
    · refine g_pure (c' := (67, [(0, .ref l0), (1, .int l1), (2, .int l2)], [.int l2, .ref l0], (jE0, M))) 2 rfl ?_
      refine g_wV rfl (jc_v rfl rfl (jv_o pl0 rfl) rfl) (c198 l0 l2 M pl0) (by decide) (fun M9 => ?_)
      refine g_pure (c' := (71, [(0, .ref l0), (1, .int l1), (2, .int l2)], [.ref l0], (jE0, M9))) 1 rfl ?_
      refine g_wI rfl (jc_v rfl rfl (jv_o pl0 rfl) rfl) (c197 l0 M9 pl0) (by decide) (fun v11 M10 qv11 => ?_)
      refine g_if_eq (tgt := 185) rfl rfl (fun q12 => ?_) (fun q12 => ?_)
      · exact (c199_185 (f199_60 n) (c199_60 n) l0 l1 l2 M10 pl0)
      · refine g_pure (c' := (79, [(3, .int (0 : Int32)), (0, .ref l0), (1, .int l1), (2, .int l2)], [], (jE0, M10))) 2 rfl ?_
        refine g_weakk (lv := [(0, .ref l0), (1, .int l1), (2, .int l2), (3, .int (0 : Int32))]) ⟨rfl, rfl, rfl, rfl, trivial⟩ [0, 1, 2, 3] rfl (by decide) [3, 0, 1, 2] rfl (by decide) ?_
        exact (c199_79 (f199_60 n) (c199_60 n) 1000 l0 l1 l2 (0 : Int32) M10 pl0)
    · refine g_pure (c' := (193, [(2, .int (0 : Int32)), (0, .ref l0), (1, .int l1)], [], (jE0, M))) 2 rfl ?_
      refine g_weakk (lv := [(0, .ref l0), (2, .int (0 : Int32))]) ⟨rfl, rfl, trivial⟩ [0, 2] rfl (by decide) [2, 0, 1] rfl (by decide) ?_
      exact (c199_193 1000 l0 (0 : Int32) M pl0)
def f199_14  : Nat → Nat → Int32 → Int32 → JM → Option JM
  | 0, _, _, _, _ => none
  | n + 1, l0, l1, l2, M => (if l2 < (M l0 13) then ((jla (jpt l0 14) l2 M).bind fun v4 => ((jsa (jpt l0 28) l2 v4 M).bind fun M5 => ((jla (jpt l0 14) l2 M5).bind fun v6 => (if v6 = (3 : Int32) then (f199_50 (f199_14 n) l0 l2 (1 : Int32) l1 M5) else (f199_50 (f199_14 n) l0 l2 (3 : Int32) l1 M5))))) else (f199_60 1000 l0 l1 (0 : Int32) M))
set_option maxRecDepth 100000 in
theorem c199_14 {xs : Option (List Int32)} : ∀ (n : Nat) (l0 : Nat) (l1 : Int32) (l2 : Int32) (M : JM) (pl0 : jok jE0 l0 7 = true), JG xs 7 199 (f199_14 n l0 l1 l2 M) (fun x r => r = (none, (jE0, x))) (14, [(0, .ref l0), (1, .int l1), (2, .int l2)], [], (jE0, M))
  | 0, _, _, _, _, _ => by rw [f199_14]; exact g_none
  | n + 1, l0, l1, l2, M, pl0 => by
    rw [f199_14]
    refine g_pure (c' := (16, [(0, .ref l0), (1, .int l1), (2, .int l2)], [.ref l0, .int l2], (jE0, M))) 2 rfl ?_
    refine g_gf (ci := 7) (k := 13) rfl rfl rfl pl0 ?_
    refine g_ic_ge (tgt := 58) rfl rfl (fun q3 => ?_) (fun q3 => ?_)
    · refine g_pure (c' := (23, [(0, .ref l0), (1, .int l1), (2, .int l2)], [.ref l0], (jE0, M))) 1 rfl ?_
      refine g_gp rfl rfl rfl pl0 (jp_ok (kd := 8) pl0 (by decide) (by decide) rfl rfl).1 ?_
      refine g_pure (c' := (28, [(0, .ref l0), (1, .int l1), (2, .int l2)], [.ref l0, .int l2, .ref (jpt l0 28)], (jE0, M))) 2 rfl ?_
      refine g_gp rfl rfl rfl pl0 (jp_ok (kd := 8) pl0 (by decide) (by decide) rfl rfl).1 ?_
      refine g_pure (c' := (32, [(0, .ref l0), (1, .int l1), (2, .int l2)], [.int l2, .ref (jpt l0 14), .int l2, .ref (jpt l0 28)], (jE0, M))) 1 rfl ?_
      refine g_ia rfl (jk_ok (kd := 8) pl0 (by decide) (by decide) rfl rfl) (fun v4 => ?_)
      refine g_is rfl (jk_ok (kd := 8) pl0 (by decide) (by decide) rfl rfl) (fun M5 => ?_)
      refine g_pure (c' := (36, [(0, .ref l0), (1, .int l1), (2, .int l2)], [.ref l0, .int l1], (jE0, M5))) 2 rfl ?_
      refine g_gp rfl rfl rfl pl0 (jp_ok (kd := 8) pl0 (by decide) (by decide) rfl rfl).1 ?_
      refine g_pure (c' := (40, [(0, .ref l0), (1, .int l1), (2, .int l2)], [.int l2, .ref (jpt l0 14), .int l1], (jE0, M5))) 1 rfl ?_
      refine g_ia rfl (jk_ok (kd := 8) pl0 (by decide) (by decide) rfl rfl) (fun v6 => ?_)
      refine g_pure (c' := (42, [(0, .ref l0), (1, .int l1), (2, .int l2)], [.int (3 : Int32), .int v6, .int l1], (jE0, M5))) 1 rfl ?_
      refine g_ic_ne (tgt := 49) rfl rfl (fun q7 => ?_) (fun q7 => ?_)
      · refine g_pure (c' := (50, [(0, .ref l0), (1, .int l1), (2, .int l2)], [.int (1 : Int32), .int l1], (jE0, M5))) 2 rfl ?_
        refine g_weakk (lv := [(0, .ref l0), (2, .int l2)]) ⟨rfl, rfl, trivial⟩ [0, 2] rfl (by decide) [0, 1, 2] rfl (by decide) ?_
        exact (c199_50 (f199_14 n) (c199_14 n) l0 l2 (1 : Int32) l1 M5 pl0)
      · refine g_pure (c' := (50, [(0, .ref l0), (1, .int l1), (2, .int l2)], [.int (3 : Int32), .int l1], (jE0, M5))) 1 rfl ?_
        refine g_weakk (lv := [(0, .ref l0), (2, .int l2)]) ⟨rfl, rfl, trivial⟩ [0, 2] rfl (by decide) [0, 1, 2] rfl (by decide) ?_
        exact (c199_50 (f199_14 n) (c199_14 n) l0 l2 (3 : Int32) l1 M5 pl0)
    · refine g_pure (c' := (60, [(2, .int (0 : Int32)), (0, .ref l0), (1, .int l1)], [], (jE0, M))) 2 rfl ?_
      refine g_weakk (lv := [(0, .ref l0), (1, .int l1), (2, .int (0 : Int32))]) ⟨rfl, rfl, rfl, trivial⟩ [0, 1, 2] rfl (by decide) [2, 0, 1] rfl (by decide) ?_
      exact (c199_60 1000 l0 l1 (0 : Int32) M pl0)
/-- CometKinModel.layTruths -/
def f199  (l0 : Nat) (M : JM) : Option JM := ((some (jup M l0 30 (0 : Int32))).bind fun M1 => ((some (jup M1 l0 31 (0 : Int32))).bind fun M2 => (f199_14 1000 l0 (1 : Int32) (0 : Int32) M2)))
set_option maxRecDepth 100000 in
theorem c199 {xs : Option (List Int32)} (l0 : Nat) (M : JM) (pl0 : jok jE0 l0 7 = true) : JG xs 7 199 (f199 l0 M) (fun x r => r = (none, (jE0, x))) (0, [(0, .ref l0)], [], (jE0, M)) := by
    unfold f199
    refine g_pure (c' := (4, [(1, .int (1 : Int32)), (0, .ref l0)], [.int (0 : Int32), .ref l0], (jE0, M))) 4 rfl ?_
    refine g_pf (ci := 7) (k := 30) rfl rfl rfl rfl pl0 (fun M1 => ?_)
    refine g_pure (c' := (9, [(1, .int (1 : Int32)), (0, .ref l0)], [.int (0 : Int32), .ref l0], (jE0, M1))) 2 rfl ?_
    refine g_pf (ci := 7) (k := 31) rfl rfl rfl rfl pl0 (fun M2 => ?_)
    refine g_pure (c' := (14, [(2, .int (0 : Int32)), (1, .int (1 : Int32)), (0, .ref l0)], [], (jE0, M2))) 2 rfl ?_
    refine g_weakk (lv := [(0, .ref l0), (1, .int (1 : Int32)), (2, .int (0 : Int32))]) ⟨rfl, rfl, rfl, trivial⟩ [0, 1, 2] rfl (by decide) [2, 1, 0] rfl (by decide) ?_
    exact (c199_14 1000 l0 (1 : Int32) (0 : Int32) M2 pl0)
/-- CometKinModel.truths -/
def f200  (l0 : Nat) (l1 : Int32) (M : JM) : Option (Int32 × JM) := ((f125 ((l1).toInt64) (0 : Int64) (1 : Int64)).bind fun v1 => (if v1 = (0 : Int32) then (some ((-3 : Int32), M)) else ((f199 l0 M).bind fun M3 => (if l1 = (0 : Int32) then (some ((M3 l0 30), M3)) else (some ((M3 l0 31), M3))))))
set_option maxRecDepth 100000 in
theorem c200 {xs : Option (List Int32)} (l0 : Nat) (l1 : Int32) (M : JM) (pl0 : jok jE0 l0 7 = true) : JG xs 8 200 (f200 l0 l1 M) (fun x r => r = (some (.int x.1), (jE0, x.2))) (0, [(0, .ref l0), (1, .int l1)], [], (jE0, M)) := by
    unfold f200
    refine g_pure (c' := (4, [(0, .ref l0), (1, .int l1)], [.long (1 : Int64), .long (0 : Int64), .long ((l1).toInt64)], (jE0, M))) 4 rfl ?_
    refine g_cI rfl (jc_s rfl rfl) (c125 ((l1).toInt64) (0 : Int64) (1 : Int64)) (by decide) (fun v1 qv1 => ?_)
    refine g_if_ne (tgt := 13) rfl rfl (fun q2 => ?_) (fun q2 => ?_)
    · refine g_pure (c' := (12, [(0, .ref l0), (1, .int l1)], [.int (-3 : Int32)], (jE0, M))) 1 rfl ?_
      exact g_ret rfl rfl (fun _ h => h)
    · refine g_pure (c' := (14, [(0, .ref l0), (1, .int l1)], [.ref l0], (jE0, M))) 1 rfl ?_
      refine g_wV rfl (jc_v rfl rfl (jv_o pl0 rfl) rfl) (c199 l0 M pl0) (by decide) (fun M3 => ?_)
      refine g_pure (c' := (18, [(0, .ref l0), (1, .int l1)], [.int l1], (jE0, M3))) 1 rfl ?_
      refine g_if_ne (tgt := 28) rfl rfl (fun q4 => ?_) (fun q4 => ?_)
      · refine g_pure (c' := (22, [(0, .ref l0), (1, .int l1)], [.ref l0], (jE0, M3))) 1 rfl ?_
        refine g_gf (ci := 7) (k := 30) rfl rfl rfl pl0 ?_
        refine g_pure (c' := (32, [(0, .ref l0), (1, .int l1)], [.int (M3 l0 30)], (jE0, M3))) 1 rfl ?_
        exact g_ret rfl rfl (fun _ h => h)
      · refine g_pure (c' := (29, [(0, .ref l0), (1, .int l1)], [.ref l0], (jE0, M3))) 1 rfl ?_
        refine g_gf (ci := 7) (k := 31) rfl rfl rfl pl0 ?_
        exact g_ret rfl rfl (fun _ h => h)
/-- CometKin.truth -/
def f96  (l0 : Nat) (l1 : Int32) (M : JM) : Option (Int32 × JM) := ((f5 M (jpt l0 1) l1).bind fun v1 => (if v1 = (0 : Int32) then (some ((-2 : Int32), M)) else ((f120 l0 M).bind fun M3 => (if (M3 (jpt l0 9) 6) = (0 : Int32) then (some ((-1 : Int32), M3)) else ((f42 M3 (jpt (jpt l0 9) 7) l1).bind fun v5 => (some (v5, M3)))))))
set_option maxRecDepth 100000 in
theorem c96 {xs : Option (List Int32)} (l0 : Nat) (l1 : Int32) (M : JM) (pl0 : jok jE0 l0 6 = true) : JG xs 6 96 (f96 l0 l1 M) (fun x r => r = (some (.int x.1), (jE0, x.2))) (0, [(0, .ref l0), (1, .int l1)], [], (jE0, M)) := by
    unfold f96
    refine g_pure (c' := (1, [(0, .ref l0), (1, .int l1)], [.ref l0], (jE0, M))) 1 rfl ?_
    refine g_gp rfl rfl rfl pl0 (jp_ok (kd := 0) pl0 (by decide) (by decide) rfl rfl).1 ?_
    refine g_pure (c' := (5, [(0, .ref l0), (1, .int l1)], [.int l1, .ref (jpt l0 1)], (jE0, M))) 1 rfl ?_
    refine g_cI rfl (jc_v rfl rfl (jv_o (jk_ok (kd := 0) pl0 (by decide) (by decide) rfl rfl) rfl) rfl) (c5 (jpt l0 1) l1 (jk_ok (kd := 0) pl0 (by decide) (by decide) rfl rfl)) (by decide) (fun v1 qv1 => ?_)
    refine g_if_ne (tgt := 14) rfl rfl (fun q2 => ?_) (fun q2 => ?_)
    · refine g_pure (c' := (13, [(0, .ref l0), (1, .int l1)], [.int (-2 : Int32)], (jE0, M))) 1 rfl ?_
      exact g_ret rfl rfl (fun _ h => h)
    · refine g_pure (c' := (15, [(0, .ref l0), (1, .int l1)], [.ref l0], (jE0, M))) 1 rfl ?_
      refine g_wV rfl (jc_v rfl rfl (jv_o pl0 rfl) rfl) (c120 l0 M pl0) (by decide) (fun M3 => ?_)
      refine g_pure (c' := (19, [(0, .ref l0), (1, .int l1)], [.ref l0], (jE0, M3))) 1 rfl ?_
      refine g_gp rfl rfl rfl pl0 (jp_ok (kd := 1) pl0 (by decide) (by decide) rfl rfl).1 ?_
      refine g_gf (ci := 1) (k := 6) rfl rfl rfl (jk_ok (kd := 1) pl0 (by decide) (by decide) rfl rfl) ?_
      refine g_if_ne (tgt := 32) rfl rfl (fun q4 => ?_) (fun q4 => ?_)
      · refine g_pure (c' := (43, [(0, .ref l0), (1, .int l1)], [.int (-1 : Int32)], (jE0, M3))) 2 rfl ?_
        exact g_ret rfl rfl (fun _ h => h)
      · refine g_pure (c' := (33, [(0, .ref l0), (1, .int l1)], [.ref l0], (jE0, M3))) 1 rfl ?_
        refine g_gp rfl rfl rfl pl0 (jp_ok (kd := 1) pl0 (by decide) (by decide) rfl rfl).1 ?_
        refine g_gp rfl rfl rfl (jk_ok (kd := 1) pl0 (by decide) (by decide) rfl rfl) (jp_ok (kd := 3) (jk_ok (kd := 1) pl0 (by decide) (by decide) rfl rfl) (by decide) (by decide) rfl rfl).1 ?_
        refine g_pure (c' := (40, [(0, .ref l0), (1, .int l1)], [.int l1, .ref (jpt (jpt l0 9) 7)], (jE0, M3))) 1 rfl ?_
        refine g_cI rfl (jc_v rfl rfl (jv_o (jk_ok (kd := 3) (jk_ok (kd := 1) pl0 (by decide) (by decide) rfl rfl) (by decide) (by decide) rfl rfl) rfl) rfl) (c42 (jpt (jpt l0 9) 7) l1 (jk_ok (kd := 3) (jk_ok (kd := 1) pl0 (by decide) (by decide) rfl rfl) (by decide) (by decide) rfl rfl)) (by decide) (fun v5 qv5 => ?_)
        exact g_ret rfl rfl (fun _ h => h)
/-- CometKinModel.truth -/
def f201  (l0 : Nat) (l1 : Int32) (M : JM) : Option (Int32 × JM) := ((f161 M l0 l1).bind fun v1 => (if v1 = (0 : Int32) then (some ((-2 : Int32), M)) else ((f199 l0 M).bind fun M3 => (if (M3 l0 30) = (0 : Int32) then (some ((-1 : Int32), M3)) else ((jla (jpt l0 29) l1 M3).bind fun v5 => (some (v5, M3)))))))
set_option maxRecDepth 100000 in
theorem c201 {xs : Option (List Int32)} (l0 : Nat) (l1 : Int32) (M : JM) (pl0 : jok jE0 l0 7 = true) : JG xs 8 201 (f201 l0 l1 M) (fun x r => r = (some (.int x.1), (jE0, x.2))) (0, [(0, .ref l0), (1, .int l1)], [], (jE0, M)) := by
    unfold f201
    refine g_pure (c' := (2, [(0, .ref l0), (1, .int l1)], [.int l1, .ref l0], (jE0, M))) 2 rfl ?_
    refine g_cI rfl (jc_v rfl rfl (jv_o pl0 rfl) rfl) (c161 l0 l1 pl0) (by decide) (fun v1 qv1 => ?_)
    refine g_if_ne (tgt := 11) rfl rfl (fun q2 => ?_) (fun q2 => ?_)
    · refine g_pure (c' := (10, [(0, .ref l0), (1, .int l1)], [.int (-2 : Int32)], (jE0, M))) 1 rfl ?_
      exact g_ret rfl rfl (fun _ h => h)
    · refine g_pure (c' := (12, [(0, .ref l0), (1, .int l1)], [.ref l0], (jE0, M))) 1 rfl ?_
      refine g_wV rfl (jc_v rfl rfl (jv_o pl0 rfl) rfl) (c199 l0 M pl0) (by decide) (fun M3 => ?_)
      refine g_pure (c' := (16, [(0, .ref l0), (1, .int l1)], [.ref l0], (jE0, M3))) 1 rfl ?_
      refine g_gf (ci := 7) (k := 30) rfl rfl rfl pl0 ?_
      refine g_if_ne (tgt := 26) rfl rfl (fun q4 => ?_) (fun q4 => ?_)
      · refine g_pure (c' := (32, [(0, .ref l0), (1, .int l1)], [.int (-1 : Int32)], (jE0, M3))) 2 rfl ?_
        exact g_ret rfl rfl (fun _ h => h)
      · refine g_pure (c' := (27, [(0, .ref l0), (1, .int l1)], [.ref l0], (jE0, M3))) 1 rfl ?_
        refine g_gp rfl rfl rfl pl0 (jp_ok (kd := 8) pl0 (by decide) (by decide) rfl rfl).1 ?_
        refine g_pure (c' := (31, [(0, .ref l0), (1, .int l1)], [.int l1, .ref (jpt l0 29)], (jE0, M3))) 1 rfl ?_
        refine g_ia rfl (jk_ok (kd := 8) pl0 (by decide) (by decide) rfl rfl) (fun v5 => ?_)
        exact g_ret rfl rfl (fun _ h => h)
def f121_5  : Nat → Int32 → Int32 → Int64 → Int32 → Option Int64
  | 0, _, _, _, _ => none
  | n + 1, l0, l1, l2, l4 => (if l0 < l4 then (some l2) else ((jldv (l2 * ((((l1 - l0) + l4)).toInt64)) ((l4).toInt64)).bind fun v2 => ((f121_5 n) l0 l1 v2 (l4 + (1 : Int32)))))
set_option maxRecDepth 100000 in
theorem c121_5 {xs : Option (List Int32)} {M : JM} : ∀ (n : Nat) (l0 : Int32) (l1 : Int32) (l2 : Int64) (l4 : Int32), JG xs 0 121 (f121_5 n l0 l1 l2 l4) (fun x r => r = (some (.long x), (jE0, M))) (5, [(0, .int l0), (1, .int l1), (2, .long l2), (4, .int l4)], [], (jE0, M))
  | 0, _, _, _, _ => by rw [f121_5]; exact g_none
  | n + 1, l0, l1, l2, l4 => by
    rw [f121_5]
    refine g_pure (c' := (8, [(0, .int l0), (1, .int l1), (2, .long l2), (4, .int l4)], [.int l0, .int l4], (jE0, M))) 2 rfl ?_
    refine g_ic_gt (tgt := 31) rfl rfl (fun q1 => ?_) (fun q1 => ?_)
    · refine g_pure (c' := (32, [(0, .int l0), (1, .int l1), (2, .long l2), (4, .int l4)], [.long l2], (jE0, M))) 1 rfl ?_
      exact g_ret rfl rfl (fun _ h => h)
    · refine g_pure (c' := (23, [(0, .int l0), (1, .int l1), (2, .long l2), (4, .int l4)], [.long ((l4).toInt64), .long (l2 * ((((l1 - l0) + l4)).toInt64))], (jE0, M))) 10 rfl ?_
      refine g_d3 rfl (fun v2 => ?_)
      refine g_pure (c' := (5, [(4, .int (l4 + (1 : Int32))), (2, .long v2), (0, .int l0), (1, .int l1)], [], (jE0, M))) 3 rfl ?_
      refine g_weakk (lv := [(0, .int l0), (1, .int l1), (2, .long v2), (4, .int (l4 + (1 : Int32)))]) ⟨rfl, rfl, rfl, rfl, trivial⟩ [0, 1, 2, 4] rfl (by decide) [4, 2, 0, 1] rfl (by decide) ?_
      exact ((c121_5 n) l0 l1 v2 (l4 + (1 : Int32)))
/-- CometKin.waysToChoose -/
def f121  (l0 : Int32) (l1 : Int32) : Option Int64 := (f121_5 1000 l0 l1 (1 : Int64) (1 : Int32))
set_option maxRecDepth 100000 in
theorem c121 {xs : Option (List Int32)} {M : JM} (l0 : Int32) (l1 : Int32) : JG xs 0 121 (f121 l0 l1) (fun x r => r = (some (.long x), (jE0, M))) (0, [(0, .int l0), (1, .int l1)], [], (jE0, M)) := by
    unfold f121
    refine g_pure (c' := (5, [(4, .int (1 : Int32)), (2, .long (1 : Int64)), (0, .int l0), (1, .int l1)], [], (jE0, M))) 4 rfl ?_
    refine g_weakk (lv := [(0, .int l0), (1, .int l1), (2, .long (1 : Int64)), (4, .int (1 : Int32))]) ⟨rfl, rfl, rfl, rfl, trivial⟩ [0, 1, 2, 4] rfl (by decide) [4, 2, 0, 1] rfl (by decide) ?_
    exact (c121_5 1000 l0 l1 (1 : Int64) (1 : Int32))
def f122_5  : Nat → Int32 → Int32 → Int64 → Int32 → Option Int64
  | 0, _, _, _, _ => none
  | n + 1, l0, l1, l2, l4 => (if l4 < l1 then ((f122_5 n) l0 l1 (l2 * ((l0).toInt64)) (l4 + (1 : Int32))) else (some l2))
set_option maxRecDepth 100000 in
theorem c122_5 {xs : Option (List Int32)} {M : JM} : ∀ (n : Nat) (l0 : Int32) (l1 : Int32) (l2 : Int64) (l4 : Int32), JG xs 0 122 (f122_5 n l0 l1 l2 l4) (fun x r => r = (some (.long x), (jE0, M))) (5, [(0, .int l0), (1, .int l1), (2, .long l2), (4, .int l4)], [], (jE0, M))
  | 0, _, _, _, _ => by rw [f122_5]; exact g_none
  | n + 1, l0, l1, l2, l4 => by
    rw [f122_5]
    refine g_pure (c' := (8, [(0, .int l0), (1, .int l1), (2, .long l2), (4, .int l4)], [.int l1, .int l4], (jE0, M))) 2 rfl ?_
    refine g_ic_ge (tgt := 22) rfl rfl (fun q1 => ?_) (fun q1 => ?_)
    · refine g_pure (c' := (5, [(4, .int (l4 + (1 : Int32))), (2, .long (l2 * ((l0).toInt64))), (0, .int l0), (1, .int l1)], [], (jE0, M))) 7 rfl ?_
      refine g_weakk (lv := [(0, .int l0), (1, .int l1), (2, .long (l2 * ((l0).toInt64))), (4, .int (l4 + (1 : Int32)))]) ⟨rfl, rfl, rfl, rfl, trivial⟩ [0, 1, 2, 4] rfl (by decide) [4, 2, 0, 1] rfl (by decide) ?_
      exact ((c122_5 n) l0 l1 (l2 * ((l0).toInt64)) (l4 + (1 : Int32)))
    · refine g_pure (c' := (23, [(0, .int l0), (1, .int l1), (2, .long l2), (4, .int l4)], [.long l2], (jE0, M))) 1 rfl ?_
      exact g_ret rfl rfl (fun _ h => h)
/-- CometKin.power -/
def f122  (l0 : Int32) (l1 : Int32) : Option Int64 := (f122_5 1000 l0 l1 (1 : Int64) (0 : Int32))
set_option maxRecDepth 100000 in
theorem c122 {xs : Option (List Int32)} {M : JM} (l0 : Int32) (l1 : Int32) : JG xs 0 122 (f122 l0 l1) (fun x r => r = (some (.long x), (jE0, M))) (0, [(0, .int l0), (1, .int l1)], [], (jE0, M)) := by
    unfold f122
    refine g_pure (c' := (5, [(4, .int (0 : Int32)), (2, .long (1 : Int64)), (0, .int l0), (1, .int l1)], [], (jE0, M))) 4 rfl ?_
    refine g_weakk (lv := [(0, .int l0), (1, .int l1), (2, .long (1 : Int64)), (4, .int (0 : Int32))]) ⟨rfl, rfl, rfl, rfl, trivial⟩ [0, 1, 2, 4] rfl (by decide) [4, 2, 0, 1] rfl (by decide) ?_
    exact (c122_5 1000 l0 l1 (1 : Int64) (0 : Int32))
def f123_9  : Nat → Int64 → Int64 → Int32 → Option Int64
  | 0, _, _, _ => none
  | n + 1, l4, l6, l8 => (if l8 < (200 : Int32) then (if (0 : Int32) < (lg_cmp l6 (0 : Int64)) then ((jlir l4 l6).bind fun v3 => ((f123_9 n) l6 v3 (l8 + (1 : Int32)))) else (some l4)) else (some l4))
set_option maxRecDepth 100000 in
theorem c123_9 {xs : Option (List Int32)} {M : JM} : ∀ (n : Nat) (l4 : Int64) (l6 : Int64) (l8 : Int32), JG xs 0 123 (f123_9 n l4 l6 l8) (fun x r => r = (some (.long x), (jE0, M))) (9, [(4, .long l4), (6, .long l6), (8, .int l8)], [], (jE0, M))
  | 0, _, _, _ => by rw [f123_9]; exact g_none
  | n + 1, l4, l6, l8 => by
    rw [f123_9]
    refine g_pure (c' := (14, [(4, .long l4), (6, .long l6), (8, .int l8)], [.int (200 : Int32), .int l8], (jE0, M))) 2 rfl ?_
    refine g_ic_ge (tgt := 45) rfl rfl (fun q1 => ?_) (fun q1 => ?_)
    · refine g_pure (c' := (21, [(4, .long l4), (6, .long l6), (8, .int l8)], [.int (lg_cmp l6 (0 : Int64))], (jE0, M))) 3 rfl ?_
      refine g_if_le (tgt := 45) rfl rfl (fun q2 => ?_) (fun q2 => ?_)
      · refine g_pure (c' := (28, [(4, .long l4), (6, .long l6), (8, .int l8)], [.long l6, .long l4], (jE0, M))) 2 rfl ?_
        refine g_d4 rfl (fun v3 => ?_)
        refine g_pure (c' := (9, [(8, .int (l8 + (1 : Int32))), (6, .long v3), (4, .long l6), (9, .long v3)], [], (jE0, M))) 7 rfl ?_
        refine g_weakk (lv := [(4, .long l6), (6, .long v3), (8, .int (l8 + (1 : Int32)))]) ⟨rfl, rfl, rfl, trivial⟩ [4, 6, 8] rfl (by decide) [8, 6, 4, 9] rfl (by decide) ?_
        exact ((c123_9 n) l6 v3 (l8 + (1 : Int32)))
      · refine g_pure (c' := (47, [(4, .long l4), (6, .long l6), (8, .int l8)], [.long l4], (jE0, M))) 1 rfl ?_
        exact g_ret rfl rfl (fun _ h => h)
    · refine g_pure (c' := (47, [(4, .long l4), (6, .long l6), (8, .int l8)], [.long l4], (jE0, M))) 1 rfl ?_
      exact g_ret rfl rfl (fun _ h => h)
/-- CometKin.commonDivisor -/
def f123  (l0 : Int64) (l2 : Int64) : Option Int64 := (f123_9 1000 l0 l2 (0 : Int32))
set_option maxRecDepth 100000 in
theorem c123 {xs : Option (List Int32)} {M : JM} (l0 : Int64) (l2 : Int64) : JG xs 0 123 (f123 l0 l2) (fun x r => r = (some (.long x), (jE0, M))) (0, [(0, .long l0), (2, .long l2)], [], (jE0, M)) := by
    unfold f123
    refine g_pure (c' := (9, [(8, .int (0 : Int32)), (6, .long l2), (4, .long l0), (0, .long l0), (2, .long l2)], [], (jE0, M))) 6 rfl ?_
    refine g_weakk (lv := [(4, .long l0), (6, .long l2), (8, .int (0 : Int32))]) ⟨rfl, rfl, rfl, trivial⟩ [4, 6, 8] rfl (by decide) [8, 6, 4, 0, 2] rfl (by decide) ?_
    exact (c123_9 1000 l0 l2 (0 : Int32))
def f97_170 (M : JM) (l10 : Int64) (s0 : Int64) : Option Int64 := ((jldv s0 l10).bind fun v16 => (some v16))
set_option maxRecDepth 100000 in
theorem c97_170 {xs : Option (List Int32)} {M : JM} : ∀ (l10 : Int64) (s0 : Int64), JG xs 4 97 (f97_170 M l10 s0) (fun x r => r = (some (.long x), (jE0, M))) (170, [(10, .long l10)], [.long s0], (jE0, M)) := by
    intro l10 s0
    unfold f97_170
    refine g_pure (c' := (172, [(10, .long l10)], [.long l10, .long s0], (jE0, M))) 1 rfl ?_
    refine g_d3 rfl (fun v16 => ?_)
    exact g_ret rfl rfl (fun _ h => h)
def f97_84 (M : JM) : Nat → Int32 → Int32 → Int32 → Int64 → Int32 → Option Int64
  | 0, _, _, _, _, _ => none
  | n + 1, l3, l4, l5, l6, l8 => (if l5 < l8 then ((f122 (10 : Int32) l5).bind fun v12 => ((f123 v12 l6).bind fun v13 => (if (0 : Int32) < (lg_cmp v13 (0 : Int64)) then (if l4 = (0 : Int32) then (f97_170 M v13 l6) else (f97_170 M v13 v12)) else (some (-1 : Int64))))) else ((f121 l8 l5).bind fun v17 => ((f122 ((10 : Int32) - l3) l8).bind fun v18 => ((f122 l3 (l5 - l8)).bind fun v19 => ((f97_84 M n) l3 l4 l5 (l6 + ((v17 * v18) * v19)) (l8 + (1 : Int32)))))))
set_option maxRecDepth 100000 in
theorem c97_84 {xs : Option (List Int32)} {M : JM} : ∀ (n : Nat) (l3 : Int32) (l4 : Int32) (l5 : Int32) (l6 : Int64) (l8 : Int32), JG xs 4 97 (f97_84 M n l3 l4 l5 l6 l8) (fun x r => r = (some (.long x), (jE0, M))) (84, [(3, .int l3), (4, .int l4), (5, .int l5), (6, .long l6), (8, .int l8)], [], (jE0, M))
  | 0, _, _, _, _, _ => by rw [f97_84]; exact g_none
  | n + 1, l3, l4, l5, l6, l8 => by
    rw [f97_84]
    refine g_pure (c' := (88, [(3, .int l3), (4, .int l4), (5, .int l5), (6, .long l6), (8, .int l8)], [.int l5, .int l8], (jE0, M))) 2 rfl ?_
    refine g_ic_gt (tgt := 129) rfl rfl (fun q11 => ?_) (fun q11 => ?_)
    · refine g_pure (c' := (133, [(3, .int l3), (4, .int l4), (5, .int l5), (6, .long l6), (8, .int l8)], [.int l5, .int (10 : Int32)], (jE0, M))) 2 rfl ?_
      refine g_cL rfl (jc_s rfl rfl) (c122 (10 : Int32) l5) (by decide) (fun v12 qv12 => ?_)
      refine g_pure (c' := (142, [(8, .long v12), (3, .int l3), (4, .int l4), (5, .int l5), (6, .long l6)], [.long l6, .long v12], (jE0, M))) 3 rfl ?_
      refine g_cL rfl (jc_s rfl rfl) (c123 v12 l6) (by decide) (fun v13 qv13 => ?_)
      refine g_pure (c' := (151, [(10, .long v13), (8, .long v12), (3, .int l3), (4, .int l4), (5, .int l5), (6, .long l6)], [.int (lg_cmp v13 (0 : Int64))], (jE0, M))) 4 rfl ?_
      refine g_if_gt (tgt := 158) rfl rfl (fun q14 => ?_) (fun q14 => ?_)
      · refine g_pure (c' := (160, [(10, .long v13), (8, .long v12), (3, .int l3), (4, .int l4), (5, .int l5), (6, .long l6)], [.int l4], (jE0, M))) 1 rfl ?_
        refine g_if_ne (tgt := 168) rfl rfl (fun q15 => ?_) (fun q15 => ?_)
        · refine g_pure (c' := (170, [(10, .long v13), (8, .long v12), (3, .int l3), (4, .int l4), (5, .int l5), (6, .long l6)], [.long l6], (jE0, M))) 2 rfl ?_
          refine g_weakk (lv := [(10, .long v13)]) ⟨rfl, trivial⟩ [10] rfl (by decide) [10, 8, 3, 4, 5, 6] rfl (by decide) ?_
          exact (c97_170 v13 l6)
        · refine g_pure (c' := (170, [(10, .long v13), (8, .long v12), (3, .int l3), (4, .int l4), (5, .int l5), (6, .long l6)], [.long v12], (jE0, M))) 1 rfl ?_
          refine g_weakk (lv := [(10, .long v13)]) ⟨rfl, trivial⟩ [10] rfl (by decide) [10, 8, 3, 4, 5, 6] rfl (by decide) ?_
          exact (c97_170 v13 v12)
      · refine g_pure (c' := (157, [(10, .long v13), (8, .long v12), (3, .int l3), (4, .int l4), (5, .int l5), (6, .long l6)], [.long (-1 : Int64)], (jE0, M))) 1 rfl ?_
        exact g_ret rfl rfl (fun _ h => h)
    · refine g_pure (c' := (97, [(3, .int l3), (4, .int l4), (5, .int l5), (6, .long l6), (8, .int l8)], [.int l5, .int l8, .long l6], (jE0, M))) 3 rfl ?_
      refine g_cL rfl (jc_s rfl rfl) (c121 l8 l5) (by decide) (fun v17 qv17 => ?_)
      refine g_pure (c' := (106, [(3, .int l3), (4, .int l4), (5, .int l5), (6, .long l6), (8, .int l8)], [.int l8, .int ((10 : Int32) - l3), .long v17, .long l6], (jE0, M))) 4 rfl ?_
      refine g_cL rfl (jc_s rfl rfl) (c122 ((10 : Int32) - l3) l8) (by decide) (fun v18 qv18 => ?_)
      refine g_pure (c' := (116, [(3, .int l3), (4, .int l4), (5, .int l5), (6, .long l6), (8, .int l8)], [.int (l5 - l8), .int l3, .long (v17 * v18), .long l6], (jE0, M))) 5 rfl ?_
      refine g_cL rfl (jc_s rfl rfl) (c122 l3 (l5 - l8)) (by decide) (fun v19 qv19 => ?_)
      refine g_pure (c' := (84, [(8, .int (l8 + (1 : Int32))), (6, .long (l6 + ((v17 * v18) * v19))), (3, .int l3), (4, .int l4), (5, .int l5)], [], (jE0, M))) 5 rfl ?_
      refine g_weakk (lv := [(3, .int l3), (4, .int l4), (5, .int l5), (6, .long (l6 + ((v17 * v18) * v19))), (8, .int (l8 + (1 : Int32)))]) ⟨rfl, rfl, rfl, rfl, rfl, trivial⟩ [3, 4, 5, 6, 8] rfl (by decide) [8, 6, 3, 4, 5] rfl (by decide) ?_
      exact ((c97_84 n) l3 l4 l5 (l6 + ((v17 * v18) * v19)) (l8 + (1 : Int32)))
/-- CometKin.left -/
def f97 (M : JM) (l0 : Nat) (l1 : Int32) (l2 : Int32) (l3 : Int32) (l4 : Int32) : Option Int64 := ((f3 M (jpt l0 1) l1).bind fun v1 => (if v1 = (0 : Int32) then (some (-2 : Int64)) else (if l2 < (0 : Int32) then (some (-3 : Int64)) else (if l2 < (9 : Int32) then (if l3 < (0 : Int32) then (some (-3 : Int64)) else (if (10 : Int32) < l3 then (some (-3 : Int64)) else (if l4 < (0 : Int32) then (some (-3 : Int64)) else (if (1 : Int32) < l4 then (some (-3 : Int64)) else ((f21 M (jpt l0 1) l1 (M (jpt l0 3) 0)).bind fun v9 => ((f207 (v9 &&& (M (jpt l0 3) 1))).bind fun v10 => (f97_84 M 1000 l3 l4 v10 (0 : Int64) l2))))))) else (some (-3 : Int64))))))
set_option maxRecDepth 100000 in
theorem c97 {xs : Option (List Int32)} {M : JM} (l0 : Nat) (l1 : Int32) (l2 : Int32) (l3 : Int32) (l4 : Int32) (pl0 : jok jE0 l0 6 = true) : JG xs 4 97 (f97 M l0 l1 l2 l3 l4) (fun x r => r = (some (.long x), (jE0, M))) (0, [(0, .ref l0), (1, .int l1), (2, .int l2), (3, .int l3), (4, .int l4)], [], (jE0, M)) := by
    unfold f97
    refine g_pure (c' := (1, [(0, .ref l0), (1, .int l1), (2, .int l2), (3, .int l3), (4, .int l4)], [.ref l0], (jE0, M))) 1 rfl ?_
    refine g_gp rfl rfl rfl pl0 (jp_ok (kd := 0) pl0 (by decide) (by decide) rfl rfl).1 ?_
    refine g_pure (c' := (5, [(0, .ref l0), (1, .int l1), (2, .int l2), (3, .int l3), (4, .int l4)], [.int l1, .ref (jpt l0 1)], (jE0, M))) 1 rfl ?_
    refine g_cI rfl (jc_v rfl rfl (jv_o (jk_ok (kd := 0) pl0 (by decide) (by decide) rfl rfl) rfl) rfl) (c3 (jpt l0 1) l1 (jk_ok (kd := 0) pl0 (by decide) (by decide) rfl rfl)) (by decide) (fun v1 qv1 => ?_)
    refine g_if_ne (tgt := 15) rfl rfl (fun q2 => ?_) (fun q2 => ?_)
    · refine g_pure (c' := (14, [(0, .ref l0), (1, .int l1), (2, .int l2), (3, .int l3), (4, .int l4)], [.long (-2 : Int64)], (jE0, M))) 1 rfl ?_
      exact g_ret rfl rfl (fun _ h => h)
    · refine g_pure (c' := (16, [(0, .ref l0), (1, .int l1), (2, .int l2), (3, .int l3), (4, .int l4)], [.int l2], (jE0, M))) 1 rfl ?_
      refine g_if_lt (tgt := 46) rfl rfl (fun q3 => ?_) (fun q3 => ?_)
      · refine g_pure (c' := (49, [(0, .ref l0), (1, .int l1), (2, .int l2), (3, .int l3), (4, .int l4)], [.long (-3 : Int64)], (jE0, M))) 1 rfl ?_
        exact g_ret rfl rfl (fun _ h => h)
      · refine g_pure (c' := (22, [(0, .ref l0), (1, .int l1), (2, .int l2), (3, .int l3), (4, .int l4)], [.int (9 : Int32), .int l2], (jE0, M))) 2 rfl ?_
        refine g_ic_ge (tgt := 46) rfl rfl (fun q4 => ?_) (fun q4 => ?_)
        · refine g_pure (c' := (26, [(0, .ref l0), (1, .int l1), (2, .int l2), (3, .int l3), (4, .int l4)], [.int l3], (jE0, M))) 1 rfl ?_
          refine g_if_lt (tgt := 46) rfl rfl (fun q5 => ?_) (fun q5 => ?_)
          · refine g_pure (c' := (49, [(0, .ref l0), (1, .int l1), (2, .int l2), (3, .int l3), (4, .int l4)], [.long (-3 : Int64)], (jE0, M))) 1 rfl ?_
            exact g_ret rfl rfl (fun _ h => h)
          · refine g_pure (c' := (32, [(0, .ref l0), (1, .int l1), (2, .int l2), (3, .int l3), (4, .int l4)], [.int (10 : Int32), .int l3], (jE0, M))) 2 rfl ?_
            refine g_ic_gt (tgt := 46) rfl rfl (fun q6 => ?_) (fun q6 => ?_)
            · refine g_pure (c' := (49, [(0, .ref l0), (1, .int l1), (2, .int l2), (3, .int l3), (4, .int l4)], [.long (-3 : Int64)], (jE0, M))) 1 rfl ?_
              exact g_ret rfl rfl (fun _ h => h)
            · refine g_pure (c' := (37, [(0, .ref l0), (1, .int l1), (2, .int l2), (3, .int l3), (4, .int l4)], [.int l4], (jE0, M))) 1 rfl ?_
              refine g_if_lt (tgt := 46) rfl rfl (fun q7 => ?_) (fun q7 => ?_)
              · refine g_pure (c' := (49, [(0, .ref l0), (1, .int l1), (2, .int l2), (3, .int l3), (4, .int l4)], [.long (-3 : Int64)], (jE0, M))) 1 rfl ?_
                exact g_ret rfl rfl (fun _ h => h)
              · refine g_pure (c' := (43, [(0, .ref l0), (1, .int l1), (2, .int l2), (3, .int l3), (4, .int l4)], [.int (1 : Int32), .int l4], (jE0, M))) 2 rfl ?_
                refine g_ic_le (tgt := 50) rfl rfl (fun q8 => ?_) (fun q8 => ?_)
                · refine g_pure (c' := (49, [(0, .ref l0), (1, .int l1), (2, .int l2), (3, .int l3), (4, .int l4)], [.long (-3 : Int64)], (jE0, M))) 1 rfl ?_
                  exact g_ret rfl rfl (fun _ h => h)
                · refine g_pure (c' := (51, [(0, .ref l0), (1, .int l1), (2, .int l2), (3, .int l3), (4, .int l4)], [.ref l0], (jE0, M))) 1 rfl ?_
                  refine g_gp rfl rfl rfl pl0 (jp_ok (kd := 0) pl0 (by decide) (by decide) rfl rfl).1 ?_
                  refine g_pure (c' := (56, [(0, .ref l0), (1, .int l1), (2, .int l2), (3, .int l3), (4, .int l4)], [.ref l0, .int l1, .ref (jpt l0 1)], (jE0, M))) 2 rfl ?_
                  refine g_gp rfl rfl rfl pl0 (jp_ok (kd := 2) pl0 (by decide) (by decide) rfl rfl).1 ?_
                  refine g_gf (ci := 2) (k := 0) rfl rfl rfl (jk_ok (kd := 2) pl0 (by decide) (by decide) rfl rfl) ?_
                  refine g_cI rfl (jc_v rfl rfl (jv_o (jk_ok (kd := 0) pl0 (by decide) (by decide) rfl rfl) rfl) rfl) (c21 (jpt l0 1) l1 (M (jpt l0 3) 0) (jk_ok (kd := 0) pl0 (by decide) (by decide) rfl rfl)) (by decide) (fun v9 qv9 => ?_)
                  refine g_pure (c' := (66, [(0, .ref l0), (1, .int l1), (2, .int l2), (3, .int l3), (4, .int l4)], [.ref l0, .int v9], (jE0, M))) 1 rfl ?_
                  refine g_gp rfl rfl rfl pl0 (jp_ok (kd := 2) pl0 (by decide) (by decide) rfl rfl).1 ?_
                  refine g_gf (ci := 2) (k := 1) rfl rfl rfl (jk_ok (kd := 2) pl0 (by decide) (by decide) rfl rfl) ?_
                  refine g_pure (c' := (73, [(0, .ref l0), (1, .int l1), (2, .int l2), (3, .int l3), (4, .int l4)], [.int (v9 &&& (M (jpt l0 3) 1))], (jE0, M))) 1 rfl ?_
                  refine g_cI rfl (jc_s rfl rfl) (c207 (v9 &&& (M (jpt l0 3) 1))) (by decide) (fun v10 qv10 => ?_)
                  refine g_pure (c' := (84, [(8, .int l2), (6, .long (0 : Int64)), (5, .int v10), (0, .ref l0), (1, .int l1), (2, .int l2), (3, .int l3), (4, .int l4)], [], (jE0, M))) 5 rfl ?_
                  refine g_weakk (lv := [(3, .int l3), (4, .int l4), (5, .int v10), (6, .long (0 : Int64)), (8, .int l2)]) ⟨rfl, rfl, rfl, rfl, rfl, trivial⟩ [3, 4, 5, 6, 8] rfl (by decide) [8, 6, 5, 0, 1, 2, 3, 4] rfl (by decide) ?_
                  exact (c97_84 1000 l3 l4 v10 (0 : Int64) l2)
        · refine g_pure (c' := (49, [(0, .ref l0), (1, .int l1), (2, .int l2), (3, .int l3), (4, .int l4)], [.long (-3 : Int64)], (jE0, M))) 1 rfl ?_
          exact g_ret rfl rfl (fun _ h => h)
def f203_5  : Nat → Int64 → Int32 → Int64 → Int32 → Option Int64
  | 0, _, _, _, _ => none
  | n + 1, l0, l2, l3, l5 => (if l5 < l2 then ((f203_5 n) l0 l2 (l3 * l0) (l5 + (1 : Int32))) else (some l3))
set_option maxRecDepth 100000 in
theorem c203_5 {xs : Option (List Int32)} {M : JM} : ∀ (n : Nat) (l0 : Int64) (l2 : Int32) (l3 : Int64) (l5 : Int32), JG xs 0 203 (f203_5 n l0 l2 l3 l5) (fun x r => r = (some (.long x), (jE0, M))) (5, [(0, .long l0), (2, .int l2), (3, .long l3), (5, .int l5)], [], (jE0, M))
  | 0, _, _, _, _ => by rw [f203_5]; exact g_none
  | n + 1, l0, l2, l3, l5 => by
    rw [f203_5]
    refine g_pure (c' := (8, [(0, .long l0), (2, .int l2), (3, .long l3), (5, .int l5)], [.int l2, .int l5], (jE0, M))) 2 rfl ?_
    refine g_ic_ge (tgt := 21) rfl rfl (fun q1 => ?_) (fun q1 => ?_)
    · refine g_pure (c' := (5, [(5, .int (l5 + (1 : Int32))), (3, .long (l3 * l0)), (0, .long l0), (2, .int l2)], [], (jE0, M))) 6 rfl ?_
      refine g_weakk (lv := [(0, .long l0), (2, .int l2), (3, .long (l3 * l0)), (5, .int (l5 + (1 : Int32)))]) ⟨rfl, rfl, rfl, rfl, trivial⟩ [0, 2, 3, 5] rfl (by decide) [5, 3, 0, 2] rfl (by decide) ?_
      exact ((c203_5 n) l0 l2 (l3 * l0) (l5 + (1 : Int32)))
    · refine g_pure (c' := (22, [(0, .long l0), (2, .int l2), (3, .long l3), (5, .int l5)], [.long l3], (jE0, M))) 1 rfl ?_
      exact g_ret rfl rfl (fun _ h => h)
/-- CometKinModel.power -/
def f203  (l0 : Int64) (l2 : Int32) : Option Int64 := (f203_5 1000 l0 l2 (1 : Int64) (0 : Int32))
set_option maxRecDepth 100000 in
theorem c203 {xs : Option (List Int32)} {M : JM} (l0 : Int64) (l2 : Int32) : JG xs 0 203 (f203 l0 l2) (fun x r => r = (some (.long x), (jE0, M))) (0, [(0, .long l0), (2, .int l2)], [], (jE0, M)) := by
    unfold f203
    refine g_pure (c' := (5, [(5, .int (0 : Int32)), (3, .long (1 : Int64)), (0, .long l0), (2, .int l2)], [], (jE0, M))) 4 rfl ?_
    refine g_weakk (lv := [(0, .long l0), (2, .int l2), (3, .long (1 : Int64)), (5, .int (0 : Int32))]) ⟨rfl, rfl, rfl, rfl, trivial⟩ [0, 2, 3, 5] rfl (by decide) [5, 3, 0, 2] rfl (by decide) ?_
    exact (c203_5 1000 l0 l2 (1 : Int64) (0 : Int32))
def f202_6  : Nat → Int64 → Int64 → Option Int64
  | 0, _, _ => none
  | n + 1, l4, l6 => (if (lg_cmp l6 (0 : Int64)) = (0 : Int32) then (some l4) else ((jlir l4 l6).bind fun v2 => ((f202_6 n) l6 v2)))
set_option maxRecDepth 100000 in
theorem c202_6 {xs : Option (List Int32)} {M : JM} : ∀ (n : Nat) (l4 : Int64) (l6 : Int64), JG xs 0 202 (f202_6 n l4 l6) (fun x r => r = (some (.long x), (jE0, M))) (6, [(4, .long l4), (6, .long l6)], [], (jE0, M))
  | 0, _, _ => by rw [f202_6]; exact g_none
  | n + 1, l4, l6 => by
    rw [f202_6]
    refine g_pure (c' := (10, [(4, .long l4), (6, .long l6)], [.int (lg_cmp l6 (0 : Int64))], (jE0, M))) 3 rfl ?_
    refine g_if_eq (tgt := 31) rfl rfl (fun q1 => ?_) (fun q1 => ?_)
    · refine g_pure (c' := (33, [(4, .long l4), (6, .long l6)], [.long l4], (jE0, M))) 1 rfl ?_
      exact g_ret rfl rfl (fun _ h => h)
    · refine g_pure (c' := (17, [(4, .long l4), (6, .long l6)], [.long l6, .long l4], (jE0, M))) 2 rfl ?_
      refine g_d4 rfl (fun v2 => ?_)
      refine g_pure (c' := (6, [(6, .long v2), (4, .long l6), (8, .long v2)], [], (jE0, M))) 6 rfl ?_
      refine g_weakk (lv := [(4, .long l6), (6, .long v2)]) ⟨rfl, rfl, trivial⟩ [4, 6] rfl (by decide) [6, 4, 8] rfl (by decide) ?_
      exact ((c202_6 n) l6 v2)
/-- CometKinModel.divisor -/
def f202  (l0 : Int64) (l2 : Int64) : Option Int64 := (f202_6 1000 l0 l2)
set_option maxRecDepth 100000 in
theorem c202 {xs : Option (List Int32)} {M : JM} (l0 : Int64) (l2 : Int64) : JG xs 0 202 (f202 l0 l2) (fun x r => r = (some (.long x), (jE0, M))) (0, [(0, .long l0), (2, .long l2)], [], (jE0, M)) := by
    unfold f202
    refine g_pure (c' := (6, [(6, .long l2), (4, .long l0), (0, .long l0), (2, .long l2)], [], (jE0, M))) 4 rfl ?_
    refine g_weakk (lv := [(4, .long l0), (6, .long l2)]) ⟨rfl, rfl, trivial⟩ [4, 6] rfl (by decide) [6, 4, 0, 2] rfl (by decide) ?_
    exact (c202_6 1000 l0 l2)
def f204_127 (h84 : Int32 → Int32 → Int32 → Int32 → Int64 → Int64 → Int32 → JM → Option (Int64 × JM)) (l2 : Int32) (l3 : Int32) (l4 : Int32) (l5 : Int32) (l8 : Int64) (l10 : Int32) (s0 : Int64) (s1 : Int64) (M : JM) : Option (Int64 × JM) := ((jldv (l8 * (((l5 - l10)).toInt64)) (((l10 + (1 : Int32))).toInt64)).bind fun v21 => (h84 l2 l3 l4 l5 (s1 + s0) v21 (l10 + (1 : Int32)) M))
set_option maxRecDepth 100000 in
theorem c204_127 {xs : Option (List Int32)} (h84 : Int32 → Int32 → Int32 → Int32 → Int64 → Int64 → Int32 → JM → Option (Int64 × JM)) (H84 : ∀ (l2 : Int32) (l3 : Int32) (l4 : Int32) (l5 : Int32) (l6 : Int64) (l8 : Int64) (l10 : Int32) (M : JM), JG xs 7 204 (h84 l2 l3 l4 l5 l6 l8 l10 M) (fun x r => r = (some (.long x.1), (jE0, x.2))) (84, [(2, .int l2), (3, .int l3), (4, .int l4), (5, .int l5), (6, .long l6), (8, .long l8), (10, .int l10)], [], (jE0, M))) : ∀ (l2 : Int32) (l3 : Int32) (l4 : Int32) (l5 : Int32) (l8 : Int64) (l10 : Int32) (s0 : Int64) (s1 : Int64) (M : JM), JG xs 7 204 (f204_127 h84 l2 l3 l4 l5 l8 l10 s0 s1 M) (fun x r => r = (some (.long x.1), (jE0, x.2))) (127, [(2, .int l2), (3, .int l3), (4, .int l4), (5, .int l5), (8, .long l8), (10, .int l10)], [.long s0, .long s1], (jE0, M)) := by
    intro l2 l3 l4 l5 l8 l10 s0 s1 M
    unfold f204_127
    refine g_pure (c' := (144, [(6, .long (s1 + s0)), (2, .int l2), (3, .int l3), (4, .int l4), (5, .int l5), (8, .long l8), (10, .int l10)], [.long (((l10 + (1 : Int32))).toInt64), .long (l8 * (((l5 - l10)).toInt64))], (jE0, M))) 12 rfl ?_
    refine g_d3 rfl (fun v21 => ?_)
    refine g_pure (c' := (84, [(10, .int (l10 + (1 : Int32))), (8, .long v21), (6, .long (s1 + s0)), (2, .int l2), (3, .int l3), (4, .int l4), (5, .int l5)], [], (jE0, M))) 3 rfl ?_
    refine g_weakk (lv := [(2, .int l2), (3, .int l3), (4, .int l4), (5, .int l5), (6, .long (s1 + s0)), (8, .long v21), (10, .int (l10 + (1 : Int32)))]) ⟨rfl, rfl, rfl, rfl, rfl, rfl, rfl, trivial⟩ [2, 3, 4, 5, 6, 8, 10] rfl (by decide) [10, 8, 6, 2, 3, 4, 5] rfl (by decide) ?_
    exact (H84 l2 l3 l4 l5 (s1 + s0) v21 (l10 + (1 : Int32)) M)
def f204_84  : Nat → Int32 → Int32 → Int32 → Int32 → Int64 → Int64 → Int32 → JM → Option (Int64 × JM)
  | 0, _, _, _, _, _, _, _, _ => none
  | n + 1, l2, l3, l4, l5, l6, l8, l10, M => (if l5 < l10 then ((f203 (10 : Int64) l5).bind fun v15 => ((f202 l6 v15).bind fun v16 => (if l4 = (0 : Int32) then ((jldv l6 v16).bind fun v18 => (some (v18, M))) else ((jldv v15 v16).bind fun v19 => (some (v19, M)))))) else (if l10 < l2 then (f204_127 (f204_84 n) l2 l3 l4 l5 l8 l10 (0 : Int64) l6 M) else ((f203 ((((10 : Int32) - l3)).toInt64) l10).bind fun v22 => ((f203 ((l3).toInt64) (l5 - l10)).bind fun v23 => (f204_127 (f204_84 n) l2 l3 l4 l5 l8 l10 ((l8 * v22) * v23) l6 M)))))
set_option maxRecDepth 100000 in
theorem c204_84 {xs : Option (List Int32)} : ∀ (n : Nat) (l2 : Int32) (l3 : Int32) (l4 : Int32) (l5 : Int32) (l6 : Int64) (l8 : Int64) (l10 : Int32) (M : JM), JG xs 7 204 (f204_84 n l2 l3 l4 l5 l6 l8 l10 M) (fun x r => r = (some (.long x.1), (jE0, x.2))) (84, [(2, .int l2), (3, .int l3), (4, .int l4), (5, .int l5), (6, .long l6), (8, .long l8), (10, .int l10)], [], (jE0, M))
  | 0, _, _, _, _, _, _, _, _ => by rw [f204_84]; exact g_none
  | n + 1, l2, l3, l4, l5, l6, l8, l10, M => by
    rw [f204_84]
    refine g_pure (c' := (88, [(2, .int l2), (3, .int l3), (4, .int l4), (5, .int l5), (6, .long l6), (8, .long l8), (10, .int l10)], [.int l5, .int l10], (jE0, M))) 2 rfl ?_
    refine g_ic_gt (tgt := 153) rfl rfl (fun q14 => ?_) (fun q14 => ?_)
    · refine g_pure (c' := (158, [(2, .int l2), (3, .int l3), (4, .int l4), (5, .int l5), (6, .long l6), (8, .long l8), (10, .int l10)], [.int l5, .long (10 : Int64)], (jE0, M))) 2 rfl ?_
      refine g_cL rfl (jc_s rfl rfl) (c203 (10 : Int64) l5) (by decide) (fun v15 qv15 => ?_)
      refine g_pure (c' := (167, [(10, .long v15), (2, .int l2), (3, .int l3), (4, .int l4), (5, .int l5), (6, .long l6), (8, .long l8)], [.long v15, .long l6], (jE0, M))) 3 rfl ?_
      refine g_cL rfl (jc_s rfl rfl) (c202 l6 v15) (by decide) (fun v16 qv16 => ?_)
      refine g_pure (c' := (174, [(12, .long v16), (10, .long v15), (2, .int l2), (3, .int l3), (4, .int l4), (5, .int l5), (6, .long l6), (8, .long l8)], [.int l4], (jE0, M))) 2 rfl ?_
      refine g_if_ne (tgt := 185) rfl rfl (fun q17 => ?_) (fun q17 => ?_)
      · refine g_pure (c' := (181, [(12, .long v16), (10, .long v15), (2, .int l2), (3, .int l3), (4, .int l4), (5, .int l5), (6, .long l6), (8, .long l8)], [.long v16, .long l6], (jE0, M))) 2 rfl ?_
        refine g_d3 rfl (fun v18 => ?_)
        refine g_pure (c' := (190, [(12, .long v16), (10, .long v15), (2, .int l2), (3, .int l3), (4, .int l4), (5, .int l5), (6, .long l6), (8, .long l8)], [.long v18], (jE0, M))) 1 rfl ?_
        exact g_ret rfl rfl (fun _ h => h)
      · refine g_pure (c' := (189, [(12, .long v16), (10, .long v15), (2, .int l2), (3, .int l3), (4, .int l4), (5, .int l5), (6, .long l6), (8, .long l8)], [.long v16, .long v15], (jE0, M))) 2 rfl ?_
        refine g_d3 rfl (fun v19 => ?_)
        exact g_ret rfl rfl (fun _ h => h)
    · refine g_pure (c' := (96, [(2, .int l2), (3, .int l3), (4, .int l4), (5, .int l5), (6, .long l6), (8, .long l8), (10, .int l10)], [.int l2, .int l10, .long l6], (jE0, M))) 3 rfl ?_
      refine g_ic_lt (tgt := 126) rfl rfl (fun q20 => ?_) (fun q20 => ?_)
      · refine g_pure (c' := (127, [(2, .int l2), (3, .int l3), (4, .int l4), (5, .int l5), (6, .long l6), (8, .long l8), (10, .int l10)], [.long (0 : Int64), .long l6], (jE0, M))) 1 rfl ?_
        refine g_weakk (lv := [(2, .int l2), (3, .int l3), (4, .int l4), (5, .int l5), (8, .long l8), (10, .int l10)]) ⟨rfl, rfl, rfl, rfl, rfl, rfl, trivial⟩ [2, 3, 4, 5, 8, 10] rfl (by decide) [2, 3, 4, 5, 6, 8, 10] rfl (by decide) ?_
        exact (c204_127 (f204_84 n) (c204_84 n) l2 l3 l4 l5 l8 l10 (0 : Int64) l6 M)
      · refine g_pure (c' := (108, [(2, .int l2), (3, .int l3), (4, .int l4), (5, .int l5), (6, .long l6), (8, .long l8), (10, .int l10)], [.int l10, .long ((((10 : Int32) - l3)).toInt64), .long l8, .long l6], (jE0, M))) 6 rfl ?_
        refine g_cL rfl (jc_s rfl rfl) (c203 ((((10 : Int32) - l3)).toInt64) l10) (by decide) (fun v22 qv22 => ?_)
        refine g_pure (c' := (119, [(2, .int l2), (3, .int l3), (4, .int l4), (5, .int l5), (6, .long l6), (8, .long l8), (10, .int l10)], [.int (l5 - l10), .long ((l3).toInt64), .long (l8 * v22), .long l6], (jE0, M))) 6 rfl ?_
        refine g_cL rfl (jc_s rfl rfl) (c203 ((l3).toInt64) (l5 - l10)) (by decide) (fun v23 qv23 => ?_)
        refine g_pure (c' := (127, [(2, .int l2), (3, .int l3), (4, .int l4), (5, .int l5), (6, .long l6), (8, .long l8), (10, .int l10)], [.long ((l8 * v22) * v23), .long l6], (jE0, M))) 2 rfl ?_
        refine g_weakk (lv := [(2, .int l2), (3, .int l3), (4, .int l4), (5, .int l5), (8, .long l8), (10, .int l10)]) ⟨rfl, rfl, rfl, rfl, rfl, rfl, trivial⟩ [2, 3, 4, 5, 8, 10] rfl (by decide) [2, 3, 4, 5, 6, 8, 10] rfl (by decide) ?_
        exact (c204_127 (f204_84 n) (c204_84 n) l2 l3 l4 l5 l8 l10 ((l8 * v22) * v23) l6 M)
/-- CometKinModel.left -/
def f204  (l0 : Nat) (l1 : Int32) (l2 : Int32) (l3 : Int32) (l4 : Int32) (M : JM) : Option (Int64 × JM) := ((f159 M l0 l1).bind fun v1 => (if v1 = (0 : Int32) then (some ((-2 : Int64), M)) else ((f125 ((l2).toInt64) (0 : Int64) (8 : Int64)).bind fun v3 => (if v3 = (0 : Int32) then (some ((-3 : Int64), M)) else ((f125 ((l3).toInt64) (0 : Int64) (10 : Int64)).bind fun v5 => (if v5 = (0 : Int32) then (some ((-3 : Int64), M)) else ((f125 ((l4).toInt64) (0 : Int64) (1 : Int64)).bind fun v7 => (if v7 = (0 : Int32) then (some ((-3 : Int64), M)) else ((jla (jpt l0 0) (0 : Int32) M).bind fun v9 => ((f157 l0 l1 v9 M).bind fun z24 => ((jla (jpt l0 0) (10 : Int32) z24.2).bind fun v12 => ((f127 (z24.1 &&& v12)).bind fun v13 => (f204_84 1000 l2 l3 l4 v13 (0 : Int64) (1 : Int64) (0 : Int32) z24.2)))))))))))))
set_option maxRecDepth 100000 in
theorem c204 {xs : Option (List Int32)} (l0 : Nat) (l1 : Int32) (l2 : Int32) (l3 : Int32) (l4 : Int32) (M : JM) (pl0 : jok jE0 l0 7 = true) : JG xs 7 204 (f204 l0 l1 l2 l3 l4 M) (fun x r => r = (some (.long x.1), (jE0, x.2))) (0, [(0, .ref l0), (1, .int l1), (2, .int l2), (3, .int l3), (4, .int l4)], [], (jE0, M)) := by
    unfold f204
    refine g_pure (c' := (2, [(0, .ref l0), (1, .int l1), (2, .int l2), (3, .int l3), (4, .int l4)], [.int l1, .ref l0], (jE0, M))) 2 rfl ?_
    refine g_cI rfl (jc_v rfl rfl (jv_o pl0 rfl) rfl) (c159 l0 l1 pl0) (by decide) (fun v1 qv1 => ?_)
    refine g_if_ne (tgt := 12) rfl rfl (fun q2 => ?_) (fun q2 => ?_)
    · refine g_pure (c' := (11, [(0, .ref l0), (1, .int l1), (2, .int l2), (3, .int l3), (4, .int l4)], [.long (-2 : Int64)], (jE0, M))) 1 rfl ?_
      exact g_ret rfl rfl (fun _ h => h)
    · refine g_pure (c' := (18, [(0, .ref l0), (1, .int l1), (2, .int l2), (3, .int l3), (4, .int l4)], [.long (8 : Int64), .long (0 : Int64), .long ((l2).toInt64)], (jE0, M))) 4 rfl ?_
      refine g_cI rfl (jc_s rfl rfl) (c125 ((l2).toInt64) (0 : Int64) (8 : Int64)) (by decide) (fun v3 qv3 => ?_)
      refine g_if_eq (tgt := 47) rfl rfl (fun q4 => ?_) (fun q4 => ?_)
      · refine g_pure (c' := (50, [(0, .ref l0), (1, .int l1), (2, .int l2), (3, .int l3), (4, .int l4)], [.long (-3 : Int64)], (jE0, M))) 1 rfl ?_
        exact g_ret rfl rfl (fun _ h => h)
      · refine g_pure (c' := (30, [(0, .ref l0), (1, .int l1), (2, .int l2), (3, .int l3), (4, .int l4)], [.long (10 : Int64), .long (0 : Int64), .long ((l3).toInt64)], (jE0, M))) 4 rfl ?_
        refine g_cI rfl (jc_s rfl rfl) (c125 ((l3).toInt64) (0 : Int64) (10 : Int64)) (by decide) (fun v5 qv5 => ?_)
        refine g_if_eq (tgt := 47) rfl rfl (fun q6 => ?_) (fun q6 => ?_)
        · refine g_pure (c' := (50, [(0, .ref l0), (1, .int l1), (2, .int l2), (3, .int l3), (4, .int l4)], [.long (-3 : Int64)], (jE0, M))) 1 rfl ?_
          exact g_ret rfl rfl (fun _ h => h)
        · refine g_pure (c' := (41, [(0, .ref l0), (1, .int l1), (2, .int l2), (3, .int l3), (4, .int l4)], [.long (1 : Int64), .long (0 : Int64), .long ((l4).toInt64)], (jE0, M))) 4 rfl ?_
          refine g_cI rfl (jc_s rfl rfl) (c125 ((l4).toInt64) (0 : Int64) (1 : Int64)) (by decide) (fun v7 qv7 => ?_)
          refine g_if_ne (tgt := 51) rfl rfl (fun q8 => ?_) (fun q8 => ?_)
          · refine g_pure (c' := (50, [(0, .ref l0), (1, .int l1), (2, .int l2), (3, .int l3), (4, .int l4)], [.long (-3 : Int64)], (jE0, M))) 1 rfl ?_
            exact g_ret rfl rfl (fun _ h => h)
          · refine g_pure (c' := (54, [(0, .ref l0), (1, .int l1), (2, .int l2), (3, .int l3), (4, .int l4)], [.ref l0, .int l1, .ref l0], (jE0, M))) 3 rfl ?_
            refine g_gp rfl rfl rfl pl0 (jp_ok (kd := 8) pl0 (by decide) (by decide) rfl rfl).1 ?_
            refine g_pure (c' := (58, [(0, .ref l0), (1, .int l1), (2, .int l2), (3, .int l3), (4, .int l4)], [.int (0 : Int32), .ref (jpt l0 0), .int l1, .ref l0], (jE0, M))) 1 rfl ?_
            refine g_ia rfl (jk_ok (kd := 8) pl0 (by decide) (by decide) rfl rfl) (fun v9 => ?_)
            refine g_wI rfl (jc_v rfl rfl (jv_o pl0 rfl) rfl) (c157 l0 l1 v9 M pl0) (by decide) (fun v11 M10 qv11 => ?_)
            refine g_pure (c' := (63, [(0, .ref l0), (1, .int l1), (2, .int l2), (3, .int l3), (4, .int l4)], [.ref l0, .int v11], (jE0, M10))) 1 rfl ?_
            refine g_gp rfl rfl rfl pl0 (jp_ok (kd := 8) pl0 (by decide) (by decide) rfl rfl).1 ?_
            refine g_pure (c' := (68, [(0, .ref l0), (1, .int l1), (2, .int l2), (3, .int l3), (4, .int l4)], [.int (10 : Int32), .ref (jpt l0 0), .int v11], (jE0, M10))) 1 rfl ?_
            refine g_ia rfl (jk_ok (kd := 8) pl0 (by decide) (by decide) rfl rfl) (fun v12 => ?_)
            refine g_pure (c' := (70, [(0, .ref l0), (1, .int l1), (2, .int l2), (3, .int l3), (4, .int l4)], [.int (v11 &&& v12)], (jE0, M10))) 1 rfl ?_
            refine g_cI rfl (jc_s rfl rfl) (c127 (v11 &&& v12)) (by decide) (fun v13 qv13 => ?_)
            refine g_pure (c' := (84, [(10, .int (0 : Int32)), (8, .long (1 : Int64)), (6, .long (0 : Int64)), (5, .int v13), (0, .ref l0), (1, .int l1), (2, .int l2), (3, .int l3), (4, .int l4)], [], (jE0, M10))) 7 rfl ?_
            refine g_weakk (lv := [(2, .int l2), (3, .int l3), (4, .int l4), (5, .int v13), (6, .long (0 : Int64)), (8, .long (1 : Int64)), (10, .int (0 : Int32))]) ⟨rfl, rfl, rfl, rfl, rfl, rfl, rfl, trivial⟩ [2, 3, 4, 5, 6, 8, 10] rfl (by decide) [10, 8, 6, 5, 0, 1, 2, 3, 4] rfl (by decide) ?_
            exact (c204_84 1000 l2 l3 l4 v13 (0 : Int64) (1 : Int64) (0 : Int32) M10)
