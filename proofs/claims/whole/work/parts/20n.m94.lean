/-- CometKin.forget -/
def f94  (l0 : Nat) (M : JM) : Option (Int32 × JM) := ((f26 (jpt l0 9) M).bind fun z3 => (some (z3.1, z3.2)))
set_option maxRecDepth 100000 in
theorem c94 {xs : Option (List Int32)} (l0 : Nat) (M : JM) (pl0 : jok jE0 l0 6 = true) : JG xs 1 94 (f94 l0 M) (fun x r => r = (some (.int x.1), (jE0, x.2))) (0, [(0, .ref l0)], [], (jE0, M)) := by
    unfold f94
    refine g_pure (c' := (1, [(0, .ref l0)], [.ref l0], (jE0, M))) 1 rfl ?_
    refine g_gp rfl rfl rfl pl0 (jp_ok (kd := 1) pl0 (by decide) (by decide) rfl rfl).1 ?_
    refine g_wI rfl (jc_v rfl rfl (jv_o (jk_ok (kd := 1) pl0 (by decide) (by decide) rfl rfl) rfl) rfl) (c26 (jpt l0 9) M (jk_ok (kd := 1) pl0 (by decide) (by decide) rfl rfl)) (by decide) (fun v2 M1 qv2 => ?_)
    exact g_ret rfl rfl (fun _ h => h)
/-- CometKinModel.forget -/
def f196  (l0 : Nat) (M : JM) : Option (Int32 × JM) := ((some (jup M l0 27 (0 : Int32))).bind fun M1 => (some ((M l0 27), M1)))
set_option maxRecDepth 100000 in
theorem c196 {xs : Option (List Int32)} (l0 : Nat) (M : JM) (pl0 : jok jE0 l0 7 = true) : JG xs 0 196 (f196 l0 M) (fun x r => r = (some (.int x.1), (jE0, x.2))) (0, [(0, .ref l0)], [], (jE0, M)) := by
    unfold f196
    refine g_pure (c' := (1, [(0, .ref l0)], [.ref l0], (jE0, M))) 1 rfl ?_
    refine g_gf (ci := 7) (k := 27) rfl rfl rfl pl0 ?_
    refine g_pure (c' := (7, [(1, .int (M l0 27)), (0, .ref l0)], [.int (0 : Int32), .ref l0], (jE0, M))) 3 rfl ?_
    refine g_pf (ci := 7) (k := 27) rfl rfl rfl rfl pl0 (fun M1 => ?_)
    refine g_pure (c' := (11, [(1, .int (M l0 27)), (0, .ref l0)], [.int (M l0 27)], (jE0, M1))) 1 rfl ?_
    exact g_ret rfl rfl (fun _ h => h)
def f23_56 (M : JM) (h6 : Nat → Int32 → Int32 → Int32 → Int32 → Int32 → Option Int32) (l0 : Nat) (l1 : Int32) (l2 : Int32) (l3 : Int32) (l4 : Int32) (l5 : Int32) : Option Int32 := (h6 l0 l1 l2 l3 l4 (l5 + (1 : Int32)))
set_option maxRecDepth 100000 in
theorem c23_56 {xs : Option (List Int32)} {M : JM} (h6 : Nat → Int32 → Int32 → Int32 → Int32 → Int32 → Option Int32) (H6 : ∀ (l0 : Nat) (l1 : Int32) (l2 : Int32) (l3 : Int32) (l4 : Int32) (l5 : Int32) (pl0 : jok jE0 l0 0 = true), JG xs 3 23 (h6 l0 l1 l2 l3 l4 l5) (fun x r => r = (some (.int x), (jE0, M))) (6, [(0, .ref l0), (1, .int l1), (2, .int l2), (3, .int l3), (4, .int l4), (5, .int l5)], [], (jE0, M))) : ∀ (l0 : Nat) (l1 : Int32) (l2 : Int32) (l3 : Int32) (l4 : Int32) (l5 : Int32) (pl0 : jok jE0 l0 0 = true), JG xs 3 23 (f23_56 M h6 l0 l1 l2 l3 l4 l5) (fun x r => r = (some (.int x), (jE0, M))) (56, [(0, .ref l0), (1, .int l1), (2, .int l2), (3, .int l3), (4, .int l4), (5, .int l5)], [], (jE0, M)) := by
    intro l0 l1 l2 l3 l4 l5 pl0
    unfold f23_56
    refine g_pure (c' := (6, [(5, .int (l5 + (1 : Int32))), (0, .ref l0), (1, .int l1), (2, .int l2), (3, .int l3), (4, .int l4)], [], (jE0, M))) 2 rfl ?_
    refine g_weakk (lv := [(0, .ref l0), (1, .int l1), (2, .int l2), (3, .int l3), (4, .int l4), (5, .int (l5 + (1 : Int32)))]) ⟨rfl, rfl, rfl, rfl, rfl, rfl, trivial⟩ [0, 1, 2, 3, 4, 5] rfl (by decide) [5, 0, 1, 2, 3, 4] rfl (by decide) ?_
    exact (H6 l0 l1 l2 l3 l4 (l5 + (1 : Int32)) pl0)
def f23_6 (M : JM) : Nat → Nat → Int32 → Int32 → Int32 → Int32 → Int32 → Option Int32
  | 0, _, _, _, _, _, _ => none
  | n + 1, l0, l1, l2, l3, l4, l5 => (if l5 < (M l0 1) then ((f42 M (jpt l0 9) l5).bind fun v2 => (if l3 < v2 then (f23_56 M (f23_6 M n) l0 l1 l2 l3 l4 l5) else ((f19 M l0 l1 v2).bind fun v4 => ((f101 v4 l2).bind fun v5 => (if v5 = (0 : Int32) then (f23_56 M (f23_6 M n) l0 l1 l2 l3 l4 l5) else ((f100 l5).bind fun v7 => (f23_56 M (f23_6 M n) l0 l1 l2 l3 (l4 ||| v7) l5))))))) else (some l4))
set_option maxRecDepth 100000 in
theorem c23_6 {xs : Option (List Int32)} {M : JM} : ∀ (n : Nat) (l0 : Nat) (l1 : Int32) (l2 : Int32) (l3 : Int32) (l4 : Int32) (l5 : Int32) (pl0 : jok jE0 l0 0 = true), JG xs 3 23 (f23_6 M n l0 l1 l2 l3 l4 l5) (fun x r => r = (some (.int x), (jE0, M))) (6, [(0, .ref l0), (1, .int l1), (2, .int l2), (3, .int l3), (4, .int l4), (5, .int l5)], [], (jE0, M))
  | 0, _, _, _, _, _, _, _ => by rw [f23_6]; exact g_none
  | n + 1, l0, l1, l2, l3, l4, l5, pl0 => by
    rw [f23_6]
    refine g_pure (c' := (9, [(0, .ref l0), (1, .int l1), (2, .int l2), (3, .int l3), (4, .int l4), (5, .int l5)], [.ref l0, .int l5], (jE0, M))) 2 rfl ?_
    refine g_gf (ci := 0) (k := 1) rfl rfl rfl pl0 ?_
    refine g_ic_ge (tgt := 62) rfl rfl (fun q1 => ?_) (fun q1 => ?_)
    · refine g_pure (c' := (16, [(0, .ref l0), (1, .int l1), (2, .int l2), (3, .int l3), (4, .int l4), (5, .int l5)], [.ref l0], (jE0, M))) 1 rfl ?_
      refine g_gp rfl rfl rfl pl0 (jp_ok (kd := 3) pl0 (by decide) (by decide) rfl rfl).1 ?_
      refine g_pure (c' := (21, [(0, .ref l0), (1, .int l1), (2, .int l2), (3, .int l3), (4, .int l4), (5, .int l5)], [.int l5, .ref (jpt l0 9)], (jE0, M))) 1 rfl ?_
      refine g_cI rfl (jc_v rfl rfl (jv_o (jk_ok (kd := 3) pl0 (by decide) (by decide) rfl rfl) rfl) rfl) (c42 (jpt l0 9) l5 (jk_ok (kd := 3) pl0 (by decide) (by decide) rfl rfl)) (by decide) (fun v2 qv2 => ?_)
      refine g_pure (c' := (29, [(6, .int v2), (0, .ref l0), (1, .int l1), (2, .int l2), (3, .int l3), (4, .int l4), (5, .int l5)], [.int l3, .int v2], (jE0, M))) 3 rfl ?_
      refine g_ic_gt (tgt := 56) rfl rfl (fun q3 => ?_) (fun q3 => ?_)
      · refine g_weakk (lv := [(0, .ref l0), (1, .int l1), (2, .int l2), (3, .int l3), (4, .int l4), (5, .int l5)]) ⟨rfl, rfl, rfl, rfl, rfl, rfl, trivial⟩ [0, 1, 2, 3, 4, 5] rfl (by decide) [6, 0, 1, 2, 3, 4, 5] rfl (by decide) ?_
        exact (c23_56 (f23_6 M n) (c23_6 n) l0 l1 l2 l3 l4 l5 pl0)
      · refine g_pure (c' := (36, [(6, .int v2), (0, .ref l0), (1, .int l1), (2, .int l2), (3, .int l3), (4, .int l4), (5, .int l5)], [.int v2, .int l1, .ref l0], (jE0, M))) 3 rfl ?_
        refine g_cI rfl (jc_v rfl rfl (jv_o pl0 rfl) rfl) (c19 l0 l1 v2 pl0) (by decide) (fun v4 qv4 => ?_)
        refine g_pure (c' := (40, [(6, .int v2), (0, .ref l0), (1, .int l1), (2, .int l2), (3, .int l3), (4, .int l4), (5, .int l5)], [.int l2, .int v4], (jE0, M))) 1 rfl ?_
        refine g_cI rfl (jc_s rfl rfl) (c101 v4 l2) (by decide) (fun v5 qv5 => ?_)
        refine g_if_eq (tgt := 56) rfl rfl (fun q6 => ?_) (fun q6 => ?_)
        · refine g_weakk (lv := [(0, .ref l0), (1, .int l1), (2, .int l2), (3, .int l3), (4, .int l4), (5, .int l5)]) ⟨rfl, rfl, rfl, rfl, rfl, rfl, trivial⟩ [0, 1, 2, 3, 4, 5] rfl (by decide) [6, 0, 1, 2, 3, 4, 5] rfl (by decide) ?_
          exact (c23_56 (f23_6 M n) (c23_6 n) l0 l1 l2 l3 l4 l5 pl0)
        · refine g_pure (c' := (50, [(6, .int v2), (0, .ref l0), (1, .int l1), (2, .int l2), (3, .int l3), (4, .int l4), (5, .int l5)], [.int l5, .int l4], (jE0, M))) 2 rfl ?_
          refine g_cI rfl (jc_s rfl rfl) (c100 l5) (by decide) (fun v7 qv7 => ?_)
          refine g_pure (c' := (56, [(4, .int (l4 ||| v7)), (6, .int v2), (0, .ref l0), (1, .int l1), (2, .int l2), (3, .int l3), (5, .int l5)], [], (jE0, M))) 2 rfl ?_
          refine g_weakk (lv := [(0, .ref l0), (1, .int l1), (2, .int l2), (3, .int l3), (4, .int (l4 ||| v7)), (5, .int l5)]) ⟨rfl, rfl, rfl, rfl, rfl, rfl, trivial⟩ [0, 1, 2, 3, 4, 5] rfl (by decide) [4, 6, 0, 1, 2, 3, 5] rfl (by decide) ?_
          exact (c23_56 (f23_6 M n) (c23_6 n) l0 l1 l2 l3 (l4 ||| v7) l5 pl0)
    · refine g_pure (c' := (64, [(0, .ref l0), (1, .int l1), (2, .int l2), (3, .int l3), (4, .int l4), (5, .int l5)], [.int l4], (jE0, M))) 1 rfl ?_
      exact g_ret rfl rfl (fun _ h => h)
/-- CometKin$Country.makersOfKin -/
def f23 (M : JM) (l0 : Nat) (l1 : Int32) (l2 : Int32) (l3 : Int32) : Option Int32 := (f23_6 M 1000 l0 l1 l2 l3 (0 : Int32) (0 : Int32))
set_option maxRecDepth 100000 in
theorem c23 {xs : Option (List Int32)} {M : JM} (l0 : Nat) (l1 : Int32) (l2 : Int32) (l3 : Int32) (pl0 : jok jE0 l0 0 = true) : JG xs 3 23 (f23 M l0 l1 l2 l3) (fun x r => r = (some (.int x), (jE0, M))) (0, [(0, .ref l0), (1, .int l1), (2, .int l2), (3, .int l3)], [], (jE0, M)) := by
    unfold f23
    refine g_pure (c' := (6, [(5, .int (0 : Int32)), (4, .int (0 : Int32)), (0, .ref l0), (1, .int l1), (2, .int l2), (3, .int l3)], [], (jE0, M))) 4 rfl ?_
    refine g_weakk (lv := [(0, .ref l0), (1, .int l1), (2, .int l2), (3, .int l3), (4, .int (0 : Int32)), (5, .int (0 : Int32))]) ⟨rfl, rfl, rfl, rfl, rfl, rfl, trivial⟩ [0, 1, 2, 3, 4, 5] rfl (by decide) [5, 4, 0, 1, 2, 3] rfl (by decide) ?_
    exact (c23_6 1000 l0 l1 l2 l3 (0 : Int32) (0 : Int32) pl0)
def f28_30 (M : JM) (h4 : Nat → Int32 → Int32 → Option Int32) (l0 : Nat) (l2 : Int32) (s0 : Int32) (s1 : Int32) : Option Int32 := (h4 l0 (s1 * s0) (l2 + (1 : Int32)))
set_option maxRecDepth 100000 in
theorem c28_30 {xs : Option (List Int32)} {M : JM} (h4 : Nat → Int32 → Int32 → Option Int32) (H4 : ∀ (l0 : Nat) (l1 : Int32) (l2 : Int32) (pl0 : jok jE0 l0 0 = true), JG xs 1 28 (h4 l0 l1 l2) (fun x r => r = (some (.int x), (jE0, M))) (4, [(0, .ref l0), (1, .int l1), (2, .int l2)], [], (jE0, M))) : ∀ (l0 : Nat) (l2 : Int32) (s0 : Int32) (s1 : Int32) (pl0 : jok jE0 l0 0 = true), JG xs 1 28 (f28_30 M h4 l0 l2 s0 s1) (fun x r => r = (some (.int x), (jE0, M))) (30, [(0, .ref l0), (2, .int l2)], [.int s0, .int s1], (jE0, M)) := by
    intro l0 l2 s0 s1 pl0
    unfold f28_30
    refine g_pure (c' := (4, [(2, .int (l2 + (1 : Int32))), (1, .int (s1 * s0)), (0, .ref l0)], [], (jE0, M))) 4 rfl ?_
    refine g_weakk (lv := [(0, .ref l0), (1, .int (s1 * s0)), (2, .int (l2 + (1 : Int32)))]) ⟨rfl, rfl, rfl, trivial⟩ [0, 1, 2] rfl (by decide) [2, 1, 0] rfl (by decide) ?_
    exact (H4 l0 (s1 * s0) (l2 + (1 : Int32)) pl0)
def f28_4 (M : JM) : Nat → Nat → Int32 → Int32 → Option Int32
  | 0, _, _, _ => none
  | n + 1, l0, l1, l2 => (if l2 < (M l0 1) then ((f42 M (jpt l0 8) l2).bind fun v2 => (if v2 = (3 : Int32) then (f28_30 M (f28_4 M n) l0 l2 (1 : Int32) l1) else (f28_30 M (f28_4 M n) l0 l2 (3 : Int32) l1))) else (some l1))
set_option maxRecDepth 100000 in
theorem c28_4 {xs : Option (List Int32)} {M : JM} : ∀ (n : Nat) (l0 : Nat) (l1 : Int32) (l2 : Int32) (pl0 : jok jE0 l0 0 = true), JG xs 1 28 (f28_4 M n l0 l1 l2) (fun x r => r = (some (.int x), (jE0, M))) (4, [(0, .ref l0), (1, .int l1), (2, .int l2)], [], (jE0, M))
  | 0, _, _, _, _ => by rw [f28_4]; exact g_none
  | n + 1, l0, l1, l2, pl0 => by
    rw [f28_4]
    refine g_pure (c' := (6, [(0, .ref l0), (1, .int l1), (2, .int l2)], [.ref l0, .int l2], (jE0, M))) 2 rfl ?_
    refine g_gf (ci := 0) (k := 1) rfl rfl rfl pl0 ?_
    refine g_ic_ge (tgt := 38) rfl rfl (fun q1 => ?_) (fun q1 => ?_)
    · refine g_pure (c' := (14, [(0, .ref l0), (1, .int l1), (2, .int l2)], [.ref l0, .int l1], (jE0, M))) 2 rfl ?_
      refine g_gp rfl rfl rfl pl0 (jp_ok (kd := 3) pl0 (by decide) (by decide) rfl rfl).1 ?_
      refine g_pure (c' := (18, [(0, .ref l0), (1, .int l1), (2, .int l2)], [.int l2, .ref (jpt l0 8), .int l1], (jE0, M))) 1 rfl ?_
      refine g_cI rfl (jc_v rfl rfl (jv_o (jk_ok (kd := 3) pl0 (by decide) (by decide) rfl rfl) rfl) rfl) (c42 (jpt l0 8) l2 (jk_ok (kd := 3) pl0 (by decide) (by decide) rfl rfl)) (by decide) (fun v2 qv2 => ?_)
      refine g_pure (c' := (22, [(0, .ref l0), (1, .int l1), (2, .int l2)], [.int (3 : Int32), .int v2, .int l1], (jE0, M))) 1 rfl ?_
      refine g_ic_ne (tgt := 29) rfl rfl (fun q3 => ?_) (fun q3 => ?_)
      · refine g_pure (c' := (30, [(0, .ref l0), (1, .int l1), (2, .int l2)], [.int (1 : Int32), .int l1], (jE0, M))) 2 rfl ?_
        refine g_weakk (lv := [(0, .ref l0), (2, .int l2)]) ⟨rfl, rfl, trivial⟩ [0, 2] rfl (by decide) [0, 1, 2] rfl (by decide) ?_
        exact (c28_30 (f28_4 M n) (c28_4 n) l0 l2 (1 : Int32) l1 pl0)
      · refine g_pure (c' := (30, [(0, .ref l0), (1, .int l1), (2, .int l2)], [.int (3 : Int32), .int l1], (jE0, M))) 1 rfl ?_
        refine g_weakk (lv := [(0, .ref l0), (2, .int l2)]) ⟨rfl, rfl, trivial⟩ [0, 2] rfl (by decide) [0, 1, 2] rfl (by decide) ?_
        exact (c28_30 (f28_4 M n) (c28_4 n) l0 l2 (3 : Int32) l1 pl0)
    · refine g_pure (c' := (39, [(0, .ref l0), (1, .int l1), (2, .int l2)], [.int l1], (jE0, M))) 1 rfl ?_
      exact g_ret rfl rfl (fun _ h => h)
/-- CometKin$Feasts.waysOf -/
def f28 (M : JM) (l0 : Nat) : Option Int32 := (f28_4 M 1000 l0 (1 : Int32) (0 : Int32))
set_option maxRecDepth 100000 in
theorem c28 {xs : Option (List Int32)} {M : JM} (l0 : Nat) (pl0 : jok jE0 l0 0 = true) : JG xs 1 28 (f28 M l0) (fun x r => r = (some (.int x), (jE0, M))) (0, [(0, .ref l0)], [], (jE0, M)) := by
    unfold f28
    refine g_pure (c' := (4, [(2, .int (0 : Int32)), (1, .int (1 : Int32)), (0, .ref l0)], [], (jE0, M))) 4 rfl ?_
    refine g_weakk (lv := [(0, .ref l0), (1, .int (1 : Int32)), (2, .int (0 : Int32))]) ⟨rfl, rfl, rfl, trivial⟩ [0, 1, 2] rfl (by decide) [2, 1, 0] rfl (by decide) ?_
    exact (c28_4 1000 l0 (1 : Int32) (0 : Int32) pl0)
def f29_40 (h9 : Nat → Int32 → Int32 → JM → Option JM) (l0 : Nat) (l2 : Int32) (l3 : Int32) (M : JM) : Option JM := (h9 l0 l2 (l3 + (-1 : Int32)) M)
set_option maxRecDepth 100000 in
theorem c29_40 {xs : Option (List Int32)} (h9 : Nat → Int32 → Int32 → JM → Option JM) (H9 : ∀ (l0 : Nat) (l2 : Int32) (l3 : Int32) (M : JM) (pl0 : jok jE0 l0 0 = true), JG xs 2 29 (h9 l0 l2 l3 M) (fun x r => r = (none, (jE0, x))) (9, [(0, .ref l0), (2, .int l2), (3, .int l3)], [], (jE0, M))) : ∀ (l0 : Nat) (l2 : Int32) (l3 : Int32) (M : JM) (pl0 : jok jE0 l0 0 = true), JG xs 2 29 (f29_40 h9 l0 l2 l3 M) (fun x r => r = (none, (jE0, x))) (40, [(0, .ref l0), (2, .int l2), (3, .int l3)], [], (jE0, M)) := by
    intro l0 l2 l3 M pl0
    unfold f29_40
    refine g_pure (c' := (9, [(3, .int (l3 + (-1 : Int32))), (0, .ref l0), (2, .int l2)], [], (jE0, M))) 2 rfl ?_
    refine g_weakk (lv := [(0, .ref l0), (2, .int l2), (3, .int (l3 + (-1 : Int32)))]) ⟨rfl, rfl, rfl, trivial⟩ [0, 2, 3] rfl (by decide) [3, 0, 2] rfl (by decide) ?_
    exact (H9 l0 l2 (l3 + (-1 : Int32)) M pl0)
def f29_9  : Nat → Nat → Int32 → Int32 → JM → Option JM
  | 0, _, _, _, _ => none
  | n + 1, l0, l2, l3, M => (if l3 < (0 : Int32) then ((f13 l0 M).bind fun M2 => (some M2)) else ((f42 M (jpt l0 8) l3).bind fun v3 => (if v3 = (3 : Int32) then (f29_40 (f29_9 n) l0 l2 l3 M) else ((jir l2 (3 : Int32)).bind fun v5 => ((f43 (jpt l0 8) l3 v5 M).bind fun M6 => ((jdv l2 (3 : Int32)).bind fun v7 => (f29_40 (f29_9 n) l0 v7 l3 M6)))))))
set_option maxRecDepth 100000 in
theorem c29_9 {xs : Option (List Int32)} : ∀ (n : Nat) (l0 : Nat) (l2 : Int32) (l3 : Int32) (M : JM) (pl0 : jok jE0 l0 0 = true), JG xs 2 29 (f29_9 n l0 l2 l3 M) (fun x r => r = (none, (jE0, x))) (9, [(0, .ref l0), (2, .int l2), (3, .int l3)], [], (jE0, M))
  | 0, _, _, _, _, _ => by rw [f29_9]; exact g_none
  | n + 1, l0, l2, l3, M, pl0 => by
    rw [f29_9]
    refine g_pure (c' := (10, [(0, .ref l0), (2, .int l2), (3, .int l3)], [.int l3], (jE0, M))) 1 rfl ?_
    refine g_if_lt (tgt := 46) rfl rfl (fun q1 => ?_) (fun q1 => ?_)
    · refine g_pure (c' := (47, [(0, .ref l0), (2, .int l2), (3, .int l3)], [.ref l0], (jE0, M))) 1 rfl ?_
      refine g_wV rfl (jc_v rfl rfl (jv_o pl0 rfl) rfl) (c13 l0 M pl0) (by decide) (fun M2 => ?_)
      exact g_ret rfl rfl (fun _ h => h)
    · refine g_pure (c' := (14, [(0, .ref l0), (2, .int l2), (3, .int l3)], [.ref l0], (jE0, M))) 1 rfl ?_
      refine g_gp rfl rfl rfl pl0 (jp_ok (kd := 3) pl0 (by decide) (by decide) rfl rfl).1 ?_
      refine g_pure (c' := (18, [(0, .ref l0), (2, .int l2), (3, .int l3)], [.int l3, .ref (jpt l0 8)], (jE0, M))) 1 rfl ?_
      refine g_cI rfl (jc_v rfl rfl (jv_o (jk_ok (kd := 3) pl0 (by decide) (by decide) rfl rfl) rfl) rfl) (c42 (jpt l0 8) l3 (jk_ok (kd := 3) pl0 (by decide) (by decide) rfl rfl)) (by decide) (fun v3 qv3 => ?_)
      refine g_pure (c' := (22, [(0, .ref l0), (2, .int l2), (3, .int l3)], [.int (3 : Int32), .int v3], (jE0, M))) 1 rfl ?_
      refine g_ic_eq (tgt := 40) rfl rfl (fun q4 => ?_) (fun q4 => ?_)
      · exact (c29_40 (f29_9 n) (c29_9 n) l0 l2 l3 M pl0)
      · refine g_pure (c' := (26, [(0, .ref l0), (2, .int l2), (3, .int l3)], [.ref l0], (jE0, M))) 1 rfl ?_
        refine g_gp rfl rfl rfl pl0 (jp_ok (kd := 3) pl0 (by decide) (by decide) rfl rfl).1 ?_
        refine g_pure (c' := (32, [(0, .ref l0), (2, .int l2), (3, .int l3)], [.int (3 : Int32), .int l2, .int l3, .ref (jpt l0 8)], (jE0, M))) 3 rfl ?_
        refine g_d2 rfl (fun v5 => ?_)
        refine g_wV rfl (jc_v rfl rfl (jv_o (jk_ok (kd := 3) pl0 (by decide) (by decide) rfl rfl) rfl) rfl) (c43 (jpt l0 8) l3 v5 M (jk_ok (kd := 3) pl0 (by decide) (by decide) rfl rfl)) (by decide) (fun M6 => ?_)
        refine g_pure (c' := (38, [(0, .ref l0), (2, .int l2), (3, .int l3)], [.int (3 : Int32), .int l2], (jE0, M6))) 2 rfl ?_
        refine g_d1 rfl (fun v7 => ?_)
        refine g_pure (c' := (40, [(2, .int v7), (0, .ref l0), (3, .int l3)], [], (jE0, M6))) 1 rfl ?_
        refine g_weakk (lv := [(0, .ref l0), (2, .int v7), (3, .int l3)]) ⟨rfl, rfl, rfl, trivial⟩ [0, 2, 3] rfl (by decide) [2, 0, 3] rfl (by decide) ?_
        exact (c29_40 (f29_9 n) (c29_9 n) l0 v7 l3 M6 pl0)
/-- CometKin$Feasts.tryWay -/
def f29  (l0 : Nat) (l1 : Int32) (M : JM) : Option JM := (f29_9 1000 l0 l1 ((M l0 1) - (1 : Int32)) M)
set_option maxRecDepth 100000 in
theorem c29 {xs : Option (List Int32)} (l0 : Nat) (l1 : Int32) (M : JM) (pl0 : jok jE0 l0 0 = true) : JG xs 2 29 (f29 l0 l1 M) (fun x r => r = (none, (jE0, x))) (0, [(0, .ref l0), (1, .int l1)], [], (jE0, M)) := by
    unfold f29
    refine g_pure (c' := (3, [(2, .int l1), (0, .ref l0), (1, .int l1)], [.ref l0], (jE0, M))) 3 rfl ?_
    refine g_gf (ci := 0) (k := 1) rfl rfl rfl pl0 ?_
    refine g_pure (c' := (9, [(3, .int ((M l0 1) - (1 : Int32))), (2, .int l1), (0, .ref l0), (1, .int l1)], [], (jE0, M))) 3 rfl ?_
    refine g_weakk (lv := [(0, .ref l0), (2, .int l1), (3, .int ((M l0 1) - (1 : Int32)))]) ⟨rfl, rfl, rfl, trivial⟩ [0, 2, 3] rfl (by decide) [3, 2, 0, 1] rfl (by decide) ?_
    exact (c29_9 1000 l0 l1 ((M l0 1) - (1 : Int32)) M pl0)
def f30_54 (M : JM) (h2 : Nat → Nat → Int32 → Option Int32) (l0 : Nat) (l1 : Nat) (l2 : Int32) (s0 : Int32) : Option Int32 := ((f42 M (jpt l0 4) l2).bind fun v8 => (if s0 = v8 then (h2 l0 l1 (l2 + (1 : Int32))) else (some (0 : Int32))))
set_option maxRecDepth 100000 in
theorem c30_54 {xs : Option (List Int32)} {M : JM} (h2 : Nat → Nat → Int32 → Option Int32) (H2 : ∀ (l0 : Nat) (l1 : Nat) (l2 : Int32) (pl0 : jok jE0 l0 1 = true) (pl1 : jok jE0 l1 0 = true), JG xs 2 30 (h2 l0 l1 l2) (fun x r => r = (some (.int x), (jE0, M))) (2, [(0, .ref l0), (1, .ref l1), (2, .int l2)], [], (jE0, M))) : ∀ (l0 : Nat) (l1 : Nat) (l2 : Int32) (s0 : Int32) (pl0 : jok jE0 l0 1 = true) (pl1 : jok jE0 l1 0 = true), JG xs 2 30 (f30_54 M h2 l0 l1 l2 s0) (fun x r => r = (some (.int x), (jE0, M))) (54, [(0, .ref l0), (1, .ref l1), (2, .int l2)], [.int s0], (jE0, M)) := by
    intro l0 l1 l2 s0 pl0 pl1
    unfold f30_54
    refine g_pure (c' := (59, [(4, .int s0), (0, .ref l0), (1, .ref l1), (2, .int l2)], [.ref l0, .int s0], (jE0, M))) 3 rfl ?_
    refine g_gp rfl rfl rfl pl0 (jp_ok (kd := 3) pl0 (by decide) (by decide) rfl rfl).1 ?_
    refine g_pure (c' := (63, [(4, .int s0), (0, .ref l0), (1, .ref l1), (2, .int l2)], [.int l2, .ref (jpt l0 4), .int s0], (jE0, M))) 1 rfl ?_
    refine g_cI rfl (jc_v rfl rfl (jv_o (jk_ok (kd := 3) pl0 (by decide) (by decide) rfl rfl) rfl) rfl) (c42 (jpt l0 4) l2 (jk_ok (kd := 3) pl0 (by decide) (by decide) rfl rfl)) (by decide) (fun v8 qv8 => ?_)
    refine g_ic_eq (tgt := 71) rfl rfl (fun q9 => ?_) (fun q9 => ?_)
    · refine g_pure (c' := (2, [(2, .int (l2 + (1 : Int32))), (4, .int s0), (0, .ref l0), (1, .ref l1)], [], (jE0, M))) 2 rfl ?_
      refine g_weakk (lv := [(0, .ref l0), (1, .ref l1), (2, .int (l2 + (1 : Int32)))]) ⟨rfl, rfl, rfl, trivial⟩ [0, 1, 2] rfl (by decide) [2, 4, 0, 1] rfl (by decide) ?_
      exact (H2 l0 l1 (l2 + (1 : Int32)) pl0 pl1)
    · refine g_pure (c' := (70, [(4, .int s0), (0, .ref l0), (1, .ref l1), (2, .int l2)], [.int (0 : Int32)], (jE0, M))) 1 rfl ?_
      exact g_ret rfl rfl (fun _ h => h)
def f30_2 (M : JM) : Nat → Nat → Nat → Int32 → Option Int32
  | 0, _, _, _ => none
  | n + 1, l0, l1, l2 => (if l2 < (M l0 0) then ((f42 M (jpt l0 1) l2).bind fun v2 => ((f14 M l1 v2).bind fun v3 => ((f42 M (jpt l0 2) l2).bind fun v4 => ((f14 M l1 v4).bind fun v5 => ((f42 M (jpt l0 5) l2).bind fun v6 => (if ((v3 &&& v5) &&& v6) = (0 : Int32) then (f30_54 M (f30_2 M n) l0 l1 l2 (0 : Int32)) else (f30_54 M (f30_2 M n) l0 l1 l2 (1 : Int32)))))))) else (some (1 : Int32)))
set_option maxRecDepth 100000 in
theorem c30_2 {xs : Option (List Int32)} {M : JM} : ∀ (n : Nat) (l0 : Nat) (l1 : Nat) (l2 : Int32) (pl0 : jok jE0 l0 1 = true) (pl1 : jok jE0 l1 0 = true), JG xs 2 30 (f30_2 M n l0 l1 l2) (fun x r => r = (some (.int x), (jE0, M))) (2, [(0, .ref l0), (1, .ref l1), (2, .int l2)], [], (jE0, M))
  | 0, _, _, _, _, _ => by rw [f30_2]; exact g_none
  | n + 1, l0, l1, l2, pl0, pl1 => by
    rw [f30_2]
    refine g_pure (c' := (4, [(0, .ref l0), (1, .ref l1), (2, .int l2)], [.ref l0, .int l2], (jE0, M))) 2 rfl ?_
    refine g_gf (ci := 1) (k := 0) rfl rfl rfl pl0 ?_
    refine g_ic_ge (tgt := 77) rfl rfl (fun q1 => ?_) (fun q1 => ?_)
    · refine g_pure (c' := (12, [(0, .ref l0), (1, .ref l1), (2, .int l2)], [.ref l0, .ref l1], (jE0, M))) 2 rfl ?_
      refine g_gp rfl rfl rfl pl0 (jp_ok (kd := 3) pl0 (by decide) (by decide) rfl rfl).1 ?_
      refine g_pure (c' := (16, [(0, .ref l0), (1, .ref l1), (2, .int l2)], [.int l2, .ref (jpt l0 1), .ref l1], (jE0, M))) 1 rfl ?_
      refine g_cI rfl (jc_v rfl rfl (jv_o (jk_ok (kd := 3) pl0 (by decide) (by decide) rfl rfl) rfl) rfl) (c42 (jpt l0 1) l2 (jk_ok (kd := 3) pl0 (by decide) (by decide) rfl rfl)) (by decide) (fun v2 qv2 => ?_)
      refine g_cI rfl (jc_v rfl rfl (jv_o pl1 rfl) rfl) (c14 l1 v2 pl1) (by decide) (fun v3 qv3 => ?_)
      refine g_pure (c' := (24, [(0, .ref l0), (1, .ref l1), (2, .int l2)], [.ref l0, .ref l1, .int v3], (jE0, M))) 2 rfl ?_
      refine g_gp rfl rfl rfl pl0 (jp_ok (kd := 3) pl0 (by decide) (by decide) rfl rfl).1 ?_
      refine g_pure (c' := (28, [(0, .ref l0), (1, .ref l1), (2, .int l2)], [.int l2, .ref (jpt l0 2), .ref l1, .int v3], (jE0, M))) 1 rfl ?_
      refine g_cI rfl (jc_v rfl rfl (jv_o (jk_ok (kd := 3) pl0 (by decide) (by decide) rfl rfl) rfl) rfl) (c42 (jpt l0 2) l2 (jk_ok (kd := 3) pl0 (by decide) (by decide) rfl rfl)) (by decide) (fun v4 qv4 => ?_)
      refine g_cI rfl (jc_v rfl rfl (jv_o pl1 rfl) rfl) (c14 l1 v4 pl1) (by decide) (fun v5 qv5 => ?_)
      refine g_pure (c' := (38, [(3, .int (v3 &&& v5)), (0, .ref l0), (1, .ref l1), (2, .int l2)], [.ref l0, .int (v3 &&& v5)], (jE0, M))) 4 rfl ?_
      refine g_gp rfl rfl rfl pl0 (jp_ok (kd := 3) pl0 (by decide) (by decide) rfl rfl).1 ?_
      refine g_pure (c' := (42, [(3, .int (v3 &&& v5)), (0, .ref l0), (1, .ref l1), (2, .int l2)], [.int l2, .ref (jpt l0 5), .int (v3 &&& v5)], (jE0, M))) 1 rfl ?_
      refine g_cI rfl (jc_v rfl rfl (jv_o (jk_ok (kd := 3) pl0 (by decide) (by decide) rfl rfl) rfl) rfl) (c42 (jpt l0 5) l2 (jk_ok (kd := 3) pl0 (by decide) (by decide) rfl rfl)) (by decide) (fun v6 qv6 => ?_)
      refine g_pure (c' := (46, [(3, .int (v3 &&& v5)), (0, .ref l0), (1, .ref l1), (2, .int l2)], [.int ((v3 &&& v5) &&& v6)], (jE0, M))) 1 rfl ?_
      refine g_if_eq (tgt := 53) rfl rfl (fun q7 => ?_) (fun q7 => ?_)
      · refine g_pure (c' := (54, [(3, .int (v3 &&& v5)), (0, .ref l0), (1, .ref l1), (2, .int l2)], [.int (0 : Int32)], (jE0, M))) 1 rfl ?_
        refine g_weakk (lv := [(0, .ref l0), (1, .ref l1), (2, .int l2)]) ⟨rfl, rfl, rfl, trivial⟩ [0, 1, 2] rfl (by decide) [3, 0, 1, 2] rfl (by decide) ?_
        exact (c30_54 (f30_2 M n) (c30_2 n) l0 l1 l2 (0 : Int32) pl0 pl1)
      · refine g_pure (c' := (54, [(3, .int (v3 &&& v5)), (0, .ref l0), (1, .ref l1), (2, .int l2)], [.int (1 : Int32)], (jE0, M))) 2 rfl ?_
        refine g_weakk (lv := [(0, .ref l0), (1, .ref l1), (2, .int l2)]) ⟨rfl, rfl, rfl, trivial⟩ [0, 1, 2] rfl (by decide) [3, 0, 1, 2] rfl (by decide) ?_
        exact (c30_54 (f30_2 M n) (c30_2 n) l0 l1 l2 (1 : Int32) pl0 pl1)
    · refine g_pure (c' := (78, [(0, .ref l0), (1, .ref l1), (2, .int l2)], [.int (1 : Int32)], (jE0, M))) 1 rfl ?_
      exact g_ret rfl rfl (fun _ h => h)
/-- CometKin$Feasts.allFit -/
def f30 (M : JM) (l0 : Nat) (l1 : Nat) : Option Int32 := (f30_2 M 1000 l0 l1 (0 : Int32))
set_option maxRecDepth 100000 in
theorem c30 {xs : Option (List Int32)} {M : JM} (l0 : Nat) (l1 : Nat) (pl0 : jok jE0 l0 1 = true) (pl1 : jok jE0 l1 0 = true) : JG xs 2 30 (f30 M l0 l1) (fun x r => r = (some (.int x), (jE0, M))) (0, [(0, .ref l0), (1, .ref l1)], [], (jE0, M)) := by
    unfold f30
    refine g_pure (c' := (2, [(2, .int (0 : Int32)), (0, .ref l0), (1, .ref l1)], [], (jE0, M))) 2 rfl ?_
    refine g_weakk (lv := [(0, .ref l0), (1, .ref l1), (2, .int (0 : Int32))]) ⟨rfl, rfl, rfl, trivial⟩ [0, 1, 2] rfl (by decide) [2, 0, 1] rfl (by decide) ?_
    exact (c30_2 1000 l0 l1 (0 : Int32) pl0 pl1)
def f31_30  : Nat → Nat → Nat → Int32 → JM → Option JM
  | 0, _, _, _, _ => none
  | n + 1, l0, l1, l2, M => (if l2 < (M l0 9) then ((f42 M (jpt l1 8) l2).bind fun v5 => ((f42 M (jpt l0 8) v5).bind fun v6 => ((f100 l2).bind fun v7 => ((f43 (jpt l0 8) v5 (v6 ||| v7) M).bind fun M8 => ((f31_30 n) l0 l1 (l2 + (1 : Int32)) M8))))) else (some M))
set_option maxRecDepth 100000 in
theorem c31_30 {xs : Option (List Int32)} : ∀ (n : Nat) (l0 : Nat) (l1 : Nat) (l2 : Int32) (M : JM) (pl0 : jok jE0 l0 1 = true) (pl1 : jok jE0 l1 0 = true), JG xs 2 31 (f31_30 n l0 l1 l2 M) (fun x r => r = (none, (jE0, x))) (30, [(0, .ref l0), (1, .ref l1), (2, .int l2)], [], (jE0, M))
  | 0, _, _, _, _, _, _ => by rw [f31_30]; exact g_none
  | n + 1, l0, l1, l2, M, pl0, pl1 => by
    rw [f31_30]
    refine g_pure (c' := (32, [(0, .ref l0), (1, .ref l1), (2, .int l2)], [.ref l0, .int l2], (jE0, M))) 2 rfl ?_
    refine g_gf (ci := 1) (k := 9) rfl rfl rfl pl0 ?_
    refine g_ic_ge (tgt := 74) rfl rfl (fun q4 => ?_) (fun q4 => ?_)
    · refine g_pure (c' := (39, [(0, .ref l0), (1, .ref l1), (2, .int l2)], [.ref l1], (jE0, M))) 1 rfl ?_
      refine g_gp rfl rfl rfl pl1 (jp_ok (kd := 3) pl1 (by decide) (by decide) rfl rfl).1 ?_
      refine g_pure (c' := (43, [(0, .ref l0), (1, .ref l1), (2, .int l2)], [.int l2, .ref (jpt l1 8)], (jE0, M))) 1 rfl ?_
      refine g_cI rfl (jc_v rfl rfl (jv_o (jk_ok (kd := 3) pl1 (by decide) (by decide) rfl rfl) rfl) rfl) (c42 (jpt l1 8) l2 (jk_ok (kd := 3) pl1 (by decide) (by decide) rfl rfl)) (by decide) (fun v5 qv5 => ?_)
      refine g_pure (c' := (48, [(3, .int v5), (0, .ref l0), (1, .ref l1), (2, .int l2)], [.ref l0], (jE0, M))) 2 rfl ?_
      refine g_gp rfl rfl rfl pl0 (jp_ok (kd := 3) pl0 (by decide) (by decide) rfl rfl).1 ?_
      refine g_pure (c' := (53, [(3, .int v5), (0, .ref l0), (1, .ref l1), (2, .int l2)], [.ref l0, .int v5, .ref (jpt l0 8)], (jE0, M))) 2 rfl ?_
      refine g_gp rfl rfl rfl pl0 (jp_ok (kd := 3) pl0 (by decide) (by decide) rfl rfl).1 ?_
      refine g_pure (c' := (57, [(3, .int v5), (0, .ref l0), (1, .ref l1), (2, .int l2)], [.int v5, .ref (jpt l0 8), .int v5, .ref (jpt l0 8)], (jE0, M))) 1 rfl ?_
      refine g_cI rfl (jc_v rfl rfl (jv_o (jk_ok (kd := 3) pl0 (by decide) (by decide) rfl rfl) rfl) rfl) (c42 (jpt l0 8) v5 (jk_ok (kd := 3) pl0 (by decide) (by decide) rfl rfl)) (by decide) (fun v6 qv6 => ?_)
      refine g_pure (c' := (61, [(3, .int v5), (0, .ref l0), (1, .ref l1), (2, .int l2)], [.int l2, .int v6, .int v5, .ref (jpt l0 8)], (jE0, M))) 1 rfl ?_
      refine g_cI rfl (jc_s rfl rfl) (c100 l2) (by decide) (fun v7 qv7 => ?_)
      refine g_pure (c' := (65, [(3, .int v5), (0, .ref l0), (1, .ref l1), (2, .int l2)], [.int (v6 ||| v7), .int v5, .ref (jpt l0 8)], (jE0, M))) 1 rfl ?_
      refine g_wV rfl (jc_v rfl rfl (jv_o (jk_ok (kd := 3) pl0 (by decide) (by decide) rfl rfl) rfl) rfl) (c43 (jpt l0 8) v5 (v6 ||| v7) M (jk_ok (kd := 3) pl0 (by decide) (by decide) rfl rfl)) (by decide) (fun M8 => ?_)
      refine g_pure (c' := (30, [(2, .int (l2 + (1 : Int32))), (3, .int v5), (0, .ref l0), (1, .ref l1)], [], (jE0, M8))) 2 rfl ?_
      refine g_weakk (lv := [(0, .ref l0), (1, .ref l1), (2, .int (l2 + (1 : Int32)))]) ⟨rfl, rfl, rfl, trivial⟩ [0, 1, 2] rfl (by decide) [2, 3, 0, 1] rfl (by decide) ?_
      exact ((c31_30 n) l0 l1 (l2 + (1 : Int32)) M8 pl0 pl1)
    · exact g_ret rfl rfl (fun _ h => h)
def f31_18  (l0 : Nat) (l1 : Nat) (M : JM) : Option JM := ((some (jup M l0 6 ((M l0 6) + (1 : Int32)))).bind fun M3 => (f31_30 1000 l0 l1 (0 : Int32) M3))
set_option maxRecDepth 100000 in
theorem c31_18 {xs : Option (List Int32)} : ∀ (l0 : Nat) (l1 : Nat) (M : JM) (pl0 : jok jE0 l0 1 = true) (pl1 : jok jE0 l1 0 = true), JG xs 2 31 (f31_18 l0 l1 M) (fun x r => r = (none, (jE0, x))) (18, [(0, .ref l0), (1, .ref l1)], [], (jE0, M)) := by
    intro l0 l1 M pl0 pl1
    unfold f31_18
    refine g_pure (c' := (20, [(0, .ref l0), (1, .ref l1)], [.ref l0, .ref l0], (jE0, M))) 2 rfl ?_
    refine g_gf (ci := 1) (k := 6) rfl rfl rfl pl0 ?_
    refine g_pure (c' := (25, [(0, .ref l0), (1, .ref l1)], [.int ((M l0 6) + (1 : Int32)), .ref l0], (jE0, M))) 2 rfl ?_
    refine g_pf (ci := 1) (k := 6) rfl rfl rfl rfl pl0 (fun M3 => ?_)
    refine g_pure (c' := (30, [(2, .int (0 : Int32)), (0, .ref l0), (1, .ref l1)], [], (jE0, M3))) 2 rfl ?_
    refine g_weakk (lv := [(0, .ref l0), (1, .ref l1), (2, .int (0 : Int32))]) ⟨rfl, rfl, rfl, trivial⟩ [0, 1, 2] rfl (by decide) [2, 0, 1] rfl (by decide) ?_
    exact (c31_30 1000 l0 l1 (0 : Int32) M3 pl0 pl1)
/-- CometKin$Feasts.takeTruth -/
def f31  (l0 : Nat) (l1 : Nat) (M : JM) : Option JM := (if (M l0 6) = (0 : Int32) then ((f46 (jpt l0 7) (jpt l1 8) M).bind fun M2 => (f31_18 l0 l1 M2)) else (f31_18 l0 l1 M))
set_option maxRecDepth 100000 in
theorem c31 {xs : Option (List Int32)} (l0 : Nat) (l1 : Nat) (M : JM) (pl0 : jok jE0 l0 1 = true) (pl1 : jok jE0 l1 0 = true) : JG xs 2 31 (f31 l0 l1 M) (fun x r => r = (none, (jE0, x))) (0, [(0, .ref l0), (1, .ref l1)], [], (jE0, M)) := by
    unfold f31
    refine g_pure (c' := (1, [(0, .ref l0), (1, .ref l1)], [.ref l0], (jE0, M))) 1 rfl ?_
    refine g_gf (ci := 1) (k := 6) rfl rfl rfl pl0 ?_
    refine g_if_ne (tgt := 18) rfl rfl (fun q1 => ?_) (fun q1 => ?_)
    · refine g_pure (c' := (8, [(0, .ref l0), (1, .ref l1)], [.ref l0], (jE0, M))) 1 rfl ?_
      refine g_gp rfl rfl rfl pl0 (jp_ok (kd := 3) pl0 (by decide) (by decide) rfl rfl).1 ?_
      refine g_pure (c' := (12, [(0, .ref l0), (1, .ref l1)], [.ref l1, .ref (jpt l0 7)], (jE0, M))) 1 rfl ?_
      refine g_gp rfl rfl rfl pl1 (jp_ok (kd := 3) pl1 (by decide) (by decide) rfl rfl).1 ?_
      refine g_wV rfl (jc_v rfl rfl (jv_o (jk_ok (kd := 3) pl0 (by decide) (by decide) rfl rfl) rfl) rfl) (c46 (jpt l0 7) (jpt l1 8) M (jk_ok (kd := 3) pl0 (by decide) (by decide) rfl rfl) (jk_ok (kd := 3) pl1 (by decide) (by decide) rfl rfl)) (by decide) (fun M2 => ?_)
      exact (c31_18 l0 l1 M2 pl0 pl1)
    · exact (c31_18 l0 l1 M pl0 pl1)
def f27_103 (h80 : Nat → Nat → Int32 → Int32 → JM → Option JM) (l0 : Nat) (l1 : Nat) (l2 : Int32) (l3 : Int32) (M : JM) : Option JM := (h80 l0 l1 l2 (l3 + (1 : Int32)) M)
set_option maxRecDepth 100000 in
theorem c27_103 {xs : Option (List Int32)} (h80 : Nat → Nat → Int32 → Int32 → JM → Option JM) (H80 : ∀ (l0 : Nat) (l1 : Nat) (l2 : Int32) (l3 : Int32) (M : JM) (pl0 : jok jE0 l0 1 = true) (pl1 : jok jE0 l1 0 = true), JG xs 4 27 (h80 l0 l1 l2 l3 M) (fun x r => r = (none, (jE0, x))) (80, [(0, .ref l0), (1, .ref l1), (2, .int l2), (3, .int l3)], [], (jE0, M))) : ∀ (l0 : Nat) (l1 : Nat) (l2 : Int32) (l3 : Int32) (M : JM) (pl0 : jok jE0 l0 1 = true) (pl1 : jok jE0 l1 0 = true), JG xs 4 27 (f27_103 h80 l0 l1 l2 l3 M) (fun x r => r = (none, (jE0, x))) (103, [(0, .ref l0), (1, .ref l1), (2, .int l2), (3, .int l3)], [], (jE0, M)) := by
    intro l0 l1 l2 l3 M pl0 pl1
    unfold f27_103
    refine g_pure (c' := (80, [(3, .int (l3 + (1 : Int32))), (0, .ref l0), (1, .ref l1), (2, .int l2)], [], (jE0, M))) 2 rfl ?_
    refine g_weakk (lv := [(0, .ref l0), (1, .ref l1), (2, .int l2), (3, .int (l3 + (1 : Int32)))]) ⟨rfl, rfl, rfl, rfl, trivial⟩ [0, 1, 2, 3] rfl (by decide) [3, 0, 1, 2] rfl (by decide) ?_
    exact (H80 l0 l1 l2 (l3 + (1 : Int32)) M pl0 pl1)
def f27_80  : Nat → Nat → Nat → Int32 → Int32 → JM → Option JM
  | 0, _, _, _, _, _ => none
  | n + 1, l0, l1, l2, l3, M => (if l3 < l2 then ((f29 l1 l3 M).bind fun M12 => ((f30 M12 l0 l1).bind fun v13 => (if v13 = (0 : Int32) then (f27_103 (f27_80 n) l0 l1 l2 l3 M12) else ((f31 l0 l1 M12).bind fun M15 => (f27_103 (f27_80 n) l0 l1 l2 l3 M15))))) else (some M))
set_option maxRecDepth 100000 in
theorem c27_80 {xs : Option (List Int32)} : ∀ (n : Nat) (l0 : Nat) (l1 : Nat) (l2 : Int32) (l3 : Int32) (M : JM) (pl0 : jok jE0 l0 1 = true) (pl1 : jok jE0 l1 0 = true), JG xs 4 27 (f27_80 n l0 l1 l2 l3 M) (fun x r => r = (none, (jE0, x))) (80, [(0, .ref l0), (1, .ref l1), (2, .int l2), (3, .int l3)], [], (jE0, M))
  | 0, _, _, _, _, _, _, _ => by rw [f27_80]; exact g_none
  | n + 1, l0, l1, l2, l3, M, pl0, pl1 => by
    rw [f27_80]
    refine g_pure (c' := (82, [(0, .ref l0), (1, .ref l1), (2, .int l2), (3, .int l3)], [.int l2, .int l3], (jE0, M))) 2 rfl ?_
    refine g_ic_ge (tgt := 109) rfl rfl (fun q11 => ?_) (fun q11 => ?_)
    · refine g_pure (c' := (87, [(0, .ref l0), (1, .ref l1), (2, .int l2), (3, .int l3)], [.int l3, .ref l1], (jE0, M))) 2 rfl ?_
      refine g_wV rfl (jc_s rfl rfl) (c29 l1 l3 M pl1) (by decide) (fun M12 => ?_)
      refine g_pure (c' := (92, [(0, .ref l0), (1, .ref l1), (2, .int l2), (3, .int l3)], [.ref l1, .ref l0], (jE0, M12))) 2 rfl ?_
      refine g_cI rfl (jc_v rfl rfl (jv_o pl0 rfl) rfl) (c30 l0 l1 pl0 pl1) (by decide) (fun v13 qv13 => ?_)
      refine g_if_eq (tgt := 103) rfl rfl (fun q14 => ?_) (fun q14 => ?_)
      · exact (c27_103 (f27_80 n) (c27_80 n) l0 l1 l2 l3 M12 pl0 pl1)
      · refine g_pure (c' := (100, [(0, .ref l0), (1, .ref l1), (2, .int l2), (3, .int l3)], [.ref l1, .ref l0], (jE0, M12))) 2 rfl ?_
        refine g_wV rfl (jc_v rfl rfl (jv_o pl0 rfl) rfl) (c31 l0 l1 M12 pl0 pl1) (by decide) (fun M15 => ?_)
        exact (c27_103 (f27_80 n) (c27_80 n) l0 l1 l2 l3 M15 pl0 pl1)
    · exact g_ret rfl rfl (fun _ h => h)
def f27_23  : Nat → Nat → Nat → Int32 → JM → Option JM
  | 0, _, _, _, _ => none
  | n + 1, l0, l1, l2, M => (if l2 < (M l0 0) then ((f42 M (jpt l0 1) l2).bind fun v5 => ((f42 M (jpt l0 2) l2).bind fun v6 => ((f42 M (jpt l0 3) l2).bind fun v7 => ((f23 M l1 v5 v6 v7).bind fun v8 => ((f43 (jpt l0 5) l2 v8 M).bind fun M9 => ((f27_23 n) l0 l1 (l2 + (1 : Int32)) M9)))))) else ((f28 M l1).bind fun v10 => (f27_80 1000 l0 l1 v10 (0 : Int32) M)))
set_option maxRecDepth 100000 in
theorem c27_23 {xs : Option (List Int32)} : ∀ (n : Nat) (l0 : Nat) (l1 : Nat) (l2 : Int32) (M : JM) (pl0 : jok jE0 l0 1 = true) (pl1 : jok jE0 l1 0 = true), JG xs 4 27 (f27_23 n l0 l1 l2 M) (fun x r => r = (none, (jE0, x))) (23, [(0, .ref l0), (1, .ref l1), (2, .int l2)], [], (jE0, M))
  | 0, _, _, _, _, _, _ => by rw [f27_23]; exact g_none
  | n + 1, l0, l1, l2, M, pl0, pl1 => by
    rw [f27_23]
    refine g_pure (c' := (25, [(0, .ref l0), (1, .ref l1), (2, .int l2)], [.ref l0, .int l2], (jE0, M))) 2 rfl ?_
    refine g_gf (ci := 1) (k := 0) rfl rfl rfl pl0 ?_
    refine g_ic_ge (tgt := 73) rfl rfl (fun q4 => ?_) (fun q4 => ?_)
    · refine g_pure (c' := (32, [(0, .ref l0), (1, .ref l1), (2, .int l2)], [.ref l0], (jE0, M))) 1 rfl ?_
      refine g_gp rfl rfl rfl pl0 (jp_ok (kd := 3) pl0 (by decide) (by decide) rfl rfl).1 ?_
      refine g_pure (c' := (38, [(0, .ref l0), (1, .ref l1), (2, .int l2)], [.ref l0, .ref l1, .int l2, .ref (jpt l0 5)], (jE0, M))) 3 rfl ?_
      refine g_gp rfl rfl rfl pl0 (jp_ok (kd := 3) pl0 (by decide) (by decide) rfl rfl).1 ?_
      refine g_pure (c' := (42, [(0, .ref l0), (1, .ref l1), (2, .int l2)], [.int l2, .ref (jpt l0 1), .ref l1, .int l2, .ref (jpt l0 5)], (jE0, M))) 1 rfl ?_
      refine g_cI rfl (jc_v rfl rfl (jv_o (jk_ok (kd := 3) pl0 (by decide) (by decide) rfl rfl) rfl) rfl) (c42 (jpt l0 1) l2 (jk_ok (kd := 3) pl0 (by decide) (by decide) rfl rfl)) (by decide) (fun v5 qv5 => ?_)
      refine g_pure (c' := (46, [(0, .ref l0), (1, .ref l1), (2, .int l2)], [.ref l0, .int v5, .ref l1, .int l2, .ref (jpt l0 5)], (jE0, M))) 1 rfl ?_
      refine g_gp rfl rfl rfl pl0 (jp_ok (kd := 3) pl0 (by decide) (by decide) rfl rfl).1 ?_
      refine g_pure (c' := (50, [(0, .ref l0), (1, .ref l1), (2, .int l2)], [.int l2, .ref (jpt l0 2), .int v5, .ref l1, .int l2, .ref (jpt l0 5)], (jE0, M))) 1 rfl ?_
      refine g_cI rfl (jc_v rfl rfl (jv_o (jk_ok (kd := 3) pl0 (by decide) (by decide) rfl rfl) rfl) rfl) (c42 (jpt l0 2) l2 (jk_ok (kd := 3) pl0 (by decide) (by decide) rfl rfl)) (by decide) (fun v6 qv6 => ?_)
      refine g_pure (c' := (54, [(0, .ref l0), (1, .ref l1), (2, .int l2)], [.ref l0, .int v6, .int v5, .ref l1, .int l2, .ref (jpt l0 5)], (jE0, M))) 1 rfl ?_
      refine g_gp rfl rfl rfl pl0 (jp_ok (kd := 3) pl0 (by decide) (by decide) rfl rfl).1 ?_
      refine g_pure (c' := (58, [(0, .ref l0), (1, .ref l1), (2, .int l2)], [.int l2, .ref (jpt l0 3), .int v6, .int v5, .ref l1, .int l2, .ref (jpt l0 5)], (jE0, M))) 1 rfl ?_
      refine g_cI rfl (jc_v rfl rfl (jv_o (jk_ok (kd := 3) pl0 (by decide) (by decide) rfl rfl) rfl) rfl) (c42 (jpt l0 3) l2 (jk_ok (kd := 3) pl0 (by decide) (by decide) rfl rfl)) (by decide) (fun v7 qv7 => ?_)
      refine g_cI rfl (jc_v rfl rfl (jv_o pl1 rfl) rfl) (c23 l1 v5 v6 v7 pl1) (by decide) (fun v8 qv8 => ?_)
      refine g_wV rfl (jc_v rfl rfl (jv_o (jk_ok (kd := 3) pl0 (by decide) (by decide) rfl rfl) rfl) rfl) (c43 (jpt l0 5) l2 v8 M (jk_ok (kd := 3) pl0 (by decide) (by decide) rfl rfl)) (by decide) (fun M9 => ?_)
      refine g_pure (c' := (23, [(2, .int (l2 + (1 : Int32))), (0, .ref l0), (1, .ref l1)], [], (jE0, M9))) 2 rfl ?_
      refine g_weakk (lv := [(0, .ref l0), (1, .ref l1), (2, .int (l2 + (1 : Int32)))]) ⟨rfl, rfl, rfl, trivial⟩ [0, 1, 2] rfl (by decide) [2, 0, 1] rfl (by decide) ?_
      exact ((c27_23 n) l0 l1 (l2 + (1 : Int32)) M9 pl0 pl1)
    · refine g_pure (c' := (74, [(0, .ref l0), (1, .ref l1), (2, .int l2)], [.ref l1], (jE0, M))) 1 rfl ?_
      refine g_cI rfl (jc_s rfl rfl) (c28 l1 pl1) (by decide) (fun v10 qv10 => ?_)
      refine g_pure (c' := (80, [(3, .int (0 : Int32)), (2, .int v10), (0, .ref l0), (1, .ref l1)], [], (jE0, M))) 3 rfl ?_
      refine g_weakk (lv := [(0, .ref l0), (1, .ref l1), (2, .int v10), (3, .int (0 : Int32))]) ⟨rfl, rfl, rfl, rfl, trivial⟩ [0, 1, 2, 3] rfl (by decide) [3, 2, 0, 1] rfl (by decide) ?_
      exact (c27_80 1000 l0 l1 v10 (0 : Int32) M pl0 pl1)
/-- CometKin$Feasts.weigh -/
def f27  (l0 : Nat) (l1 : Nat) (M : JM) : Option JM := ((some (jup M l0 6 (0 : Int32))).bind fun M1 => ((some (jup M1 l0 9 (M1 l1 1))).bind fun M2 => ((f45 (jpt l0 8) (0 : Int32) M2).bind fun M3 => (f27_23 1000 l0 l1 (0 : Int32) M3))))
set_option maxRecDepth 100000 in
theorem c27 {xs : Option (List Int32)} (l0 : Nat) (l1 : Nat) (M : JM) (pl0 : jok jE0 l0 1 = true) (pl1 : jok jE0 l1 0 = true) : JG xs 4 27 (f27 l0 l1 M) (fun x r => r = (none, (jE0, x))) (0, [(0, .ref l0), (1, .ref l1)], [], (jE0, M)) := by
    unfold f27
    refine g_pure (c' := (2, [(0, .ref l0), (1, .ref l1)], [.int (0 : Int32), .ref l0], (jE0, M))) 2 rfl ?_
    refine g_pf (ci := 1) (k := 6) rfl rfl rfl rfl pl0 (fun M1 => ?_)
    refine g_pure (c' := (7, [(0, .ref l0), (1, .ref l1)], [.ref l1, .ref l0], (jE0, M1))) 2 rfl ?_
    refine g_gf (ci := 0) (k := 1) rfl rfl rfl pl1 ?_
    refine g_pf (ci := 1) (k := 9) rfl rfl rfl rfl pl0 (fun M2 => ?_)
    refine g_pure (c' := (14, [(0, .ref l0), (1, .ref l1)], [.ref l0], (jE0, M2))) 1 rfl ?_
    refine g_gp rfl rfl rfl pl0 (jp_ok (kd := 3) pl0 (by decide) (by decide) rfl rfl).1 ?_
    refine g_pure (c' := (18, [(0, .ref l0), (1, .ref l1)], [.int (0 : Int32), .ref (jpt l0 8)], (jE0, M2))) 1 rfl ?_
    refine g_wV rfl (jc_v rfl rfl (jv_o (jk_ok (kd := 3) pl0 (by decide) (by decide) rfl rfl) rfl) rfl) (c45 (jpt l0 8) (0 : Int32) M2 (jk_ok (kd := 3) pl0 (by decide) (by decide) rfl rfl)) (by decide) (fun M3 => ?_)
    refine g_pure (c' := (23, [(2, .int (0 : Int32)), (0, .ref l0), (1, .ref l1)], [], (jE0, M3))) 2 rfl ?_
    refine g_weakk (lv := [(0, .ref l0), (1, .ref l1), (2, .int (0 : Int32))]) ⟨rfl, rfl, rfl, trivial⟩ [0, 1, 2] rfl (by decide) [2, 0, 1] rfl (by decide) ?_
    exact (c27_23 1000 l0 l1 (0 : Int32) M3 pl0 pl1)
/-- CometKin.weighFeasts -/
def f120  (l0 : Nat) (M : JM) : Option JM := ((f1 (jpt l0 2) (jpt l0 1) M).bind fun M1 => ((f27 (jpt l0 9) (jpt l0 2) M1).bind fun M2 => (some M2)))
set_option maxRecDepth 100000 in
theorem c120 {xs : Option (List Int32)} (l0 : Nat) (M : JM) (pl0 : jok jE0 l0 6 = true) : JG xs 5 120 (f120 l0 M) (fun x r => r = (none, (jE0, x))) (0, [(0, .ref l0)], [], (jE0, M)) := by
    unfold f120
    refine g_pure (c' := (1, [(0, .ref l0)], [.ref l0], (jE0, M))) 1 rfl ?_
    refine g_gp rfl rfl rfl pl0 (jp_ok (kd := 0) pl0 (by decide) (by decide) rfl rfl).1 ?_
    refine g_pure (c' := (5, [(0, .ref l0)], [.ref l0, .ref (jpt l0 2)], (jE0, M))) 1 rfl ?_
    refine g_gp rfl rfl rfl pl0 (jp_ok (kd := 0) pl0 (by decide) (by decide) rfl rfl).1 ?_
    refine g_wV rfl (jc_v rfl rfl (jv_o (jk_ok (kd := 0) pl0 (by decide) (by decide) rfl rfl) rfl) rfl) (c1 (jpt l0 2) (jpt l0 1) M (jk_ok (kd := 0) pl0 (by decide) (by decide) rfl rfl) (jk_ok (kd := 0) pl0 (by decide) (by decide) rfl rfl)) (by decide) (fun M1 => ?_)
    refine g_pure (c' := (12, [(0, .ref l0)], [.ref l0], (jE0, M1))) 1 rfl ?_
    refine g_gp rfl rfl rfl pl0 (jp_ok (kd := 1) pl0 (by decide) (by decide) rfl rfl).1 ?_
    refine g_pure (c' := (16, [(0, .ref l0)], [.ref l0, .ref (jpt l0 9)], (jE0, M1))) 1 rfl ?_
    refine g_gp rfl rfl rfl pl0 (jp_ok (kd := 0) pl0 (by decide) (by decide) rfl rfl).1 ?_
    refine g_wV rfl (jc_v rfl rfl (jv_o (jk_ok (kd := 1) pl0 (by decide) (by decide) rfl rfl) rfl) rfl) (c27 (jpt l0 9) (jpt l0 2) M1 (jk_ok (kd := 1) pl0 (by decide) (by decide) rfl rfl) (jk_ok (kd := 0) pl0 (by decide) (by decide) rfl rfl)) (by decide) (fun M2 => ?_)
    exact g_ret rfl rfl (fun _ h => h)
def f32_67 (M : JM) (h4 : Nat → Int32 → Int32 → Option Int32) (l0 : Nat) (l2 : Int32) (s0 : Int32) (s1 : Int32) : Option Int32 := (h4 l0 (s1 ||| s0) (l2 + (1 : Int32)))
set_option maxRecDepth 100000 in
theorem c32_67 {xs : Option (List Int32)} {M : JM} (h4 : Nat → Int32 → Int32 → Option Int32) (H4 : ∀ (l0 : Nat) (l1 : Int32) (l2 : Int32) (pl0 : jok jE0 l0 1 = true), JG xs 1 32 (h4 l0 l1 l2) (fun x r => r = (some (.int x), (jE0, M))) (4, [(0, .ref l0), (1, .int l1), (2, .int l2)], [], (jE0, M))) : ∀ (l0 : Nat) (l2 : Int32) (s0 : Int32) (s1 : Int32) (pl0 : jok jE0 l0 1 = true), JG xs 1 32 (f32_67 M h4 l0 l2 s0 s1) (fun x r => r = (some (.int x), (jE0, M))) (67, [(0, .ref l0), (2, .int l2)], [.int s0, .int s1], (jE0, M)) := by
    intro l0 l2 s0 s1 pl0
    unfold f32_67
    refine g_pure (c' := (4, [(2, .int (l2 + (1 : Int32))), (1, .int (s1 ||| s0)), (0, .ref l0)], [], (jE0, M))) 4 rfl ?_
    refine g_weakk (lv := [(0, .ref l0), (1, .int (s1 ||| s0)), (2, .int (l2 + (1 : Int32)))]) ⟨rfl, rfl, rfl, trivial⟩ [0, 1, 2] rfl (by decide) [2, 1, 0] rfl (by decide) ?_
    exact (H4 l0 (s1 ||| s0) (l2 + (1 : Int32)) pl0)
def f32_45 (M : JM) (h4 : Nat → Int32 → Int32 → Option Int32) (h17 : Nat → Int32 → Int32 → Int32 → Int32 → Option Int32) (l0 : Nat) (l1 : Int32) (l2 : Int32) (l4 : Int32) (s0 : Int32) (s1 : Int32) : Option Int32 := (h17 l0 l1 l2 (s1 + s0) (l4 + (1 : Int32)))
set_option maxRecDepth 100000 in
theorem c32_45 {xs : Option (List Int32)} {M : JM} (h4 : Nat → Int32 → Int32 → Option Int32) (H4 : ∀ (l0 : Nat) (l1 : Int32) (l2 : Int32) (pl0 : jok jE0 l0 1 = true), JG xs 1 32 (h4 l0 l1 l2) (fun x r => r = (some (.int x), (jE0, M))) (4, [(0, .ref l0), (1, .int l1), (2, .int l2)], [], (jE0, M))) (h17 : Nat → Int32 → Int32 → Int32 → Int32 → Option Int32) (H17 : ∀ (l0 : Nat) (l1 : Int32) (l2 : Int32) (l3 : Int32) (l4 : Int32) (pl0 : jok jE0 l0 1 = true), JG xs 1 32 (h17 l0 l1 l2 l3 l4) (fun x r => r = (some (.int x), (jE0, M))) (17, [(0, .ref l0), (1, .int l1), (2, .int l2), (3, .int l3), (4, .int l4)], [], (jE0, M))) : ∀ (l0 : Nat) (l1 : Int32) (l2 : Int32) (l4 : Int32) (s0 : Int32) (s1 : Int32) (pl0 : jok jE0 l0 1 = true), JG xs 1 32 (f32_45 M h4 h17 l0 l1 l2 l4 s0 s1) (fun x r => r = (some (.int x), (jE0, M))) (45, [(0, .ref l0), (1, .int l1), (2, .int l2), (4, .int l4)], [.int s0, .int s1], (jE0, M)) := by
    intro l0 l1 l2 l4 s0 s1 pl0
    unfold f32_45
    refine g_pure (c' := (17, [(4, .int (l4 + (1 : Int32))), (3, .int (s1 + s0)), (0, .ref l0), (1, .int l1), (2, .int l2)], [], (jE0, M))) 4 rfl ?_
    refine g_weakk (lv := [(0, .ref l0), (1, .int l1), (2, .int l2), (3, .int (s1 + s0)), (4, .int (l4 + (1 : Int32)))]) ⟨rfl, rfl, rfl, rfl, rfl, trivial⟩ [0, 1, 2, 3, 4] rfl (by decide) [4, 3, 0, 1, 2] rfl (by decide) ?_
    exact (H17 l0 l1 l2 (s1 + s0) (l4 + (1 : Int32)) pl0)
def f32_17 (M : JM) (h4 : Nat → Int32 → Int32 → Option Int32) : Nat → Nat → Int32 → Int32 → Int32 → Int32 → Option Int32
  | 0, _, _, _, _, _ => none
  | n + 1, l0, l1, l2, l3, l4 => (if (3 : Int32) < l4 then (if l3 = (1 : Int32) then ((f100 l2).bind fun v4 => (f32_67 M h4 l0 l2 v4 l1)) else (f32_67 M h4 l0 l2 (0 : Int32) l1)) else ((f42 M (jpt l0 8) l4).bind fun v5 => ((f101 v5 l2).bind fun v6 => (if v6 = (0 : Int32) then (f32_45 M h4 (f32_17 M h4 n) l0 l1 l2 l4 (0 : Int32) l3) else (f32_45 M h4 (f32_17 M h4 n) l0 l1 l2 l4 (1 : Int32) l3)))))
set_option maxRecDepth 100000 in
theorem c32_17 {xs : Option (List Int32)} {M : JM} (h4 : Nat → Int32 → Int32 → Option Int32) (H4 : ∀ (l0 : Nat) (l1 : Int32) (l2 : Int32) (pl0 : jok jE0 l0 1 = true), JG xs 1 32 (h4 l0 l1 l2) (fun x r => r = (some (.int x), (jE0, M))) (4, [(0, .ref l0), (1, .int l1), (2, .int l2)], [], (jE0, M))) : ∀ (n : Nat) (l0 : Nat) (l1 : Int32) (l2 : Int32) (l3 : Int32) (l4 : Int32) (pl0 : jok jE0 l0 1 = true), JG xs 1 32 (f32_17 M h4 n l0 l1 l2 l3 l4) (fun x r => r = (some (.int x), (jE0, M))) (17, [(0, .ref l0), (1, .int l1), (2, .int l2), (3, .int l3), (4, .int l4)], [], (jE0, M))
  | 0, _, _, _, _, _, _ => by rw [f32_17]; exact g_none
  | n + 1, l0, l1, l2, l3, l4, pl0 => by
    rw [f32_17]
    refine g_pure (c' := (20, [(0, .ref l0), (1, .int l1), (2, .int l2), (3, .int l3), (4, .int l4)], [.int (3 : Int32), .int l4], (jE0, M))) 2 rfl ?_
    refine g_ic_gt (tgt := 53) rfl rfl (fun q2 => ?_) (fun q2 => ?_)
    · refine g_pure (c' := (56, [(0, .ref l0), (1, .int l1), (2, .int l2), (3, .int l3), (4, .int l4)], [.int (1 : Int32), .int l3, .int l1], (jE0, M))) 3 rfl ?_
      refine g_ic_ne (tgt := 66) rfl rfl (fun q3 => ?_) (fun q3 => ?_)
      · refine g_pure (c' := (60, [(0, .ref l0), (1, .int l1), (2, .int l2), (3, .int l3), (4, .int l4)], [.int l2, .int l1], (jE0, M))) 1 rfl ?_
        refine g_cI rfl (jc_s rfl rfl) (c100 l2) (by decide) (fun v4 qv4 => ?_)
        refine g_pure (c' := (67, [(0, .ref l0), (1, .int l1), (2, .int l2), (3, .int l3), (4, .int l4)], [.int v4, .int l1], (jE0, M))) 1 rfl ?_
        refine g_weakk (lv := [(0, .ref l0), (2, .int l2)]) ⟨rfl, rfl, trivial⟩ [0, 2] rfl (by decide) [0, 1, 2, 3, 4] rfl (by decide) ?_
        exact (c32_67 h4 H4 l0 l2 v4 l1 pl0)
      · refine g_pure (c' := (67, [(0, .ref l0), (1, .int l1), (2, .int l2), (3, .int l3), (4, .int l4)], [.int (0 : Int32), .int l1], (jE0, M))) 1 rfl ?_
        refine g_weakk (lv := [(0, .ref l0), (2, .int l2)]) ⟨rfl, rfl, trivial⟩ [0, 2] rfl (by decide) [0, 1, 2, 3, 4] rfl (by decide) ?_
        exact (c32_67 h4 H4 l0 l2 (0 : Int32) l1 pl0)
    · refine g_pure (c' := (25, [(0, .ref l0), (1, .int l1), (2, .int l2), (3, .int l3), (4, .int l4)], [.ref l0, .int l3], (jE0, M))) 2 rfl ?_
      refine g_gp rfl rfl rfl pl0 (jp_ok (kd := 3) pl0 (by decide) (by decide) rfl rfl).1 ?_
      refine g_pure (c' := (30, [(0, .ref l0), (1, .int l1), (2, .int l2), (3, .int l3), (4, .int l4)], [.int l4, .ref (jpt l0 8), .int l3], (jE0, M))) 1 rfl ?_
      refine g_cI rfl (jc_v rfl rfl (jv_o (jk_ok (kd := 3) pl0 (by decide) (by decide) rfl rfl) rfl) rfl) (c42 (jpt l0 8) l4 (jk_ok (kd := 3) pl0 (by decide) (by decide) rfl rfl)) (by decide) (fun v5 qv5 => ?_)
      refine g_pure (c' := (34, [(0, .ref l0), (1, .int l1), (2, .int l2), (3, .int l3), (4, .int l4)], [.int l2, .int v5, .int l3], (jE0, M))) 1 rfl ?_
      refine g_cI rfl (jc_s rfl rfl) (c101 v5 l2) (by decide) (fun v6 qv6 => ?_)
      refine g_if_eq (tgt := 44) rfl rfl (fun q7 => ?_) (fun q7 => ?_)
      · refine g_pure (c' := (45, [(0, .ref l0), (1, .int l1), (2, .int l2), (3, .int l3), (4, .int l4)], [.int (0 : Int32), .int l3], (jE0, M))) 1 rfl ?_
        refine g_weakk (lv := [(0, .ref l0), (1, .int l1), (2, .int l2), (4, .int l4)]) ⟨rfl, rfl, rfl, rfl, trivial⟩ [0, 1, 2, 4] rfl (by decide) [0, 1, 2, 3, 4] rfl (by decide) ?_
        exact (c32_45 h4 H4 (f32_17 M h4 n) (c32_17 h4 H4 n) l0 l1 l2 l4 (0 : Int32) l3 pl0)
      · refine g_pure (c' := (45, [(0, .ref l0), (1, .int l1), (2, .int l2), (3, .int l3), (4, .int l4)], [.int (1 : Int32), .int l3], (jE0, M))) 2 rfl ?_
        refine g_weakk (lv := [(0, .ref l0), (1, .int l1), (2, .int l2), (4, .int l4)]) ⟨rfl, rfl, rfl, rfl, trivial⟩ [0, 1, 2, 4] rfl (by decide) [0, 1, 2, 3, 4] rfl (by decide) ?_
        exact (c32_45 h4 H4 (f32_17 M h4 n) (c32_17 h4 H4 n) l0 l1 l2 l4 (1 : Int32) l3 pl0)
def f32_4 (M : JM) : Nat → Nat → Int32 → Int32 → Option Int32
  | 0, _, _, _ => none
  | n + 1, l0, l1, l2 => (if l2 < (M l0 9) then (f32_17 M (f32_4 M n) 1000 l0 l1 l2 (0 : Int32) (0 : Int32)) else (some l1))
set_option maxRecDepth 100000 in
theorem c32_4 {xs : Option (List Int32)} {M : JM} : ∀ (n : Nat) (l0 : Nat) (l1 : Int32) (l2 : Int32) (pl0 : jok jE0 l0 1 = true), JG xs 1 32 (f32_4 M n l0 l1 l2) (fun x r => r = (some (.int x), (jE0, M))) (4, [(0, .ref l0), (1, .int l1), (2, .int l2)], [], (jE0, M))
  | 0, _, _, _, _ => by rw [f32_4]; exact g_none
  | n + 1, l0, l1, l2, pl0 => by
    rw [f32_4]
    refine g_pure (c' := (6, [(0, .ref l0), (1, .int l1), (2, .int l2)], [.ref l0, .int l2], (jE0, M))) 2 rfl ?_
    refine g_gf (ci := 1) (k := 9) rfl rfl rfl pl0 ?_
    refine g_ic_ge (tgt := 75) rfl rfl (fun q1 => ?_) (fun q1 => ?_)
    · refine g_pure (c' := (17, [(4, .int (0 : Int32)), (3, .int (0 : Int32)), (0, .ref l0), (1, .int l1), (2, .int l2)], [], (jE0, M))) 4 rfl ?_
      refine g_weakk (lv := [(0, .ref l0), (1, .int l1), (2, .int l2), (3, .int (0 : Int32)), (4, .int (0 : Int32))]) ⟨rfl, rfl, rfl, rfl, rfl, trivial⟩ [0, 1, 2, 3, 4] rfl (by decide) [4, 3, 0, 1, 2] rfl (by decide) ?_
      exact (c32_17 (f32_4 M n) (c32_4 n) 1000 l0 l1 l2 (0 : Int32) (0 : Int32) pl0)
    · refine g_pure (c' := (76, [(0, .ref l0), (1, .int l1), (2, .int l2)], [.int l1], (jE0, M))) 1 rfl ?_
      exact g_ret rfl rfl (fun _ h => h)
/-- CometKin$Feasts.alwaysOfOneKind -/
def f32 (M : JM) (l0 : Nat) : Option Int32 := (f32_4 M 1000 l0 (0 : Int32) (0 : Int32))
set_option maxRecDepth 100000 in
theorem c32 {xs : Option (List Int32)} {M : JM} (l0 : Nat) (pl0 : jok jE0 l0 1 = true) : JG xs 1 32 (f32 M l0) (fun x r => r = (some (.int x), (jE0, M))) (0, [(0, .ref l0)], [], (jE0, M)) := by
    unfold f32
    refine g_pure (c' := (4, [(2, .int (0 : Int32)), (1, .int (0 : Int32)), (0, .ref l0)], [], (jE0, M))) 4 rfl ?_
    refine g_weakk (lv := [(0, .ref l0), (1, .int (0 : Int32)), (2, .int (0 : Int32))]) ⟨rfl, rfl, rfl, trivial⟩ [0, 1, 2] rfl (by decide) [2, 1, 0] rfl (by decide) ?_
    exact (c32_4 1000 l0 (0 : Int32) (0 : Int32) pl0)
/-- CometKin.truths -/
def f95  (l0 : Nat) (l1 : Int32) (M : JM) : Option (Int32 × JM) := (if l1 < (0 : Int32) then (some ((-3 : Int32), M)) else (if (1 : Int32) < l1 then (some ((-3 : Int32), M)) else ((f120 l0 M).bind fun M3 => (if l1 = (0 : Int32) then (some ((M3 (jpt l0 9) 6), M3)) else ((f32 M3 (jpt l0 9)).bind fun v5 => (some (v5, M3)))))))
set_option maxRecDepth 100000 in
theorem c95 {xs : Option (List Int32)} (l0 : Nat) (l1 : Int32) (M : JM) (pl0 : jok jE0 l0 6 = true) : JG xs 6 95 (f95 l0 l1 M) (fun x r => r = (some (.int x.1), (jE0, x.2))) (0, [(0, .ref l0), (1, .int l1)], [], (jE0, M)) := by
    unfold f95
    refine g_pure (c' := (1, [(0, .ref l0), (1, .int l1)], [.int l1], (jE0, M))) 1 rfl ?_
    refine g_if_lt (tgt := 9) rfl rfl (fun q1 => ?_) (fun q1 => ?_)
    · refine g_pure (c' := (11, [(0, .ref l0), (1, .int l1)], [.int (-3 : Int32)], (jE0, M))) 1 rfl ?_
      exact g_ret rfl rfl (fun _ h => h)
    · refine g_pure (c' := (6, [(0, .ref l0), (1, .int l1)], [.int (1 : Int32), .int l1], (jE0, M))) 2 rfl ?_
      refine g_ic_le (tgt := 12) rfl rfl (fun q2 => ?_) (fun q2 => ?_)
      · refine g_pure (c' := (11, [(0, .ref l0), (1, .int l1)], [.int (-3 : Int32)], (jE0, M))) 1 rfl ?_
        exact g_ret rfl rfl (fun _ h => h)
      · refine g_pure (c' := (13, [(0, .ref l0), (1, .int l1)], [.ref l0], (jE0, M))) 1 rfl ?_
        refine g_wV rfl (jc_v rfl rfl (jv_o pl0 rfl) rfl) (c120 l0 M pl0) (by decide) (fun M3 => ?_)
        refine g_pure (c' := (17, [(0, .ref l0), (1, .int l1)], [.int l1], (jE0, M3))) 1 rfl ?_
        refine g_if_ne (tgt := 30) rfl rfl (fun q4 => ?_) (fun q4 => ?_)
        · refine g_pure (c' := (21, [(0, .ref l0), (1, .int l1)], [.ref l0], (jE0, M3))) 1 rfl ?_
          refine g_gp rfl rfl rfl pl0 (jp_ok (kd := 1) pl0 (by decide) (by decide) rfl rfl).1 ?_
          refine g_gf (ci := 1) (k := 6) rfl rfl rfl (jk_ok (kd := 1) pl0 (by decide) (by decide) rfl rfl) ?_
          refine g_pure (c' := (37, [(0, .ref l0), (1, .int l1)], [.int (M3 (jpt l0 9) 6)], (jE0, M3))) 1 rfl ?_
          exact g_ret rfl rfl (fun _ h => h)
        · refine g_pure (c' := (31, [(0, .ref l0), (1, .int l1)], [.ref l0], (jE0, M3))) 1 rfl ?_
          refine g_gp rfl rfl rfl pl0 (jp_ok (kd := 1) pl0 (by decide) (by decide) rfl rfl).1 ?_
          refine g_cI rfl (jc_v rfl rfl (jv_o (jk_ok (kd := 1) pl0 (by decide) (by decide) rfl rfl) rfl) rfl) (c32 (jpt l0 9) (jk_ok (kd := 1) pl0 (by decide) (by decide) rfl rfl)) (by decide) (fun v5 qv5 => ?_)
          exact g_ret rfl rfl (fun _ h => h)
def f198_36 (h9 : Nat → Int32 → Int32 → JM → Option JM) (l0 : Nat) (l2 : Int32) (l3 : Int32) (M : JM) : Option JM := (h9 l0 l2 (l3 + (-1 : Int32)) M)
set_option maxRecDepth 100000 in
theorem c198_36 {xs : Option (List Int32)} (h9 : Nat → Int32 → Int32 → JM → Option JM) (H9 : ∀ (l0 : Nat) (l2 : Int32) (l3 : Int32) (M : JM) (pl0 : jok jE0 l0 7 = true), JG xs 0 198 (h9 l0 l2 l3 M) (fun x r => r = (none, (jE0, x))) (9, [(0, .ref l0), (2, .int l2), (3, .int l3)], [], (jE0, M))) : ∀ (l0 : Nat) (l2 : Int32) (l3 : Int32) (M : JM) (pl0 : jok jE0 l0 7 = true), JG xs 0 198 (f198_36 h9 l0 l2 l3 M) (fun x r => r = (none, (jE0, x))) (36, [(0, .ref l0), (2, .int l2), (3, .int l3)], [], (jE0, M)) := by
    intro l0 l2 l3 M pl0
    unfold f198_36
    refine g_pure (c' := (9, [(3, .int (l3 + (-1 : Int32))), (0, .ref l0), (2, .int l2)], [], (jE0, M))) 2 rfl ?_
    refine g_weakk (lv := [(0, .ref l0), (2, .int l2), (3, .int (l3 + (-1 : Int32)))]) ⟨rfl, rfl, rfl, trivial⟩ [0, 2, 3] rfl (by decide) [3, 0, 2] rfl (by decide) ?_
    exact (H9 l0 l2 (l3 + (-1 : Int32)) M pl0)
def f198_9  : Nat → Nat → Int32 → Int32 → JM → Option JM
  | 0, _, _, _, _ => none
  | n + 1, l0, l2, l3, M => (if l3 < (0 : Int32) then (some M) else ((jla (jpt l0 28) l3 M).bind fun v2 => (if v2 = (3 : Int32) then (f198_36 (f198_9 n) l0 l2 l3 M) else ((jir l2 (3 : Int32)).bind fun v4 => ((jsa (jpt l0 14) l3 v4 M).bind fun M5 => ((jdv l2 (3 : Int32)).bind fun v6 => (f198_36 (f198_9 n) l0 v6 l3 M5)))))))
set_option maxRecDepth 100000 in
theorem c198_9 {xs : Option (List Int32)} : ∀ (n : Nat) (l0 : Nat) (l2 : Int32) (l3 : Int32) (M : JM) (pl0 : jok jE0 l0 7 = true), JG xs 0 198 (f198_9 n l0 l2 l3 M) (fun x r => r = (none, (jE0, x))) (9, [(0, .ref l0), (2, .int l2), (3, .int l3)], [], (jE0, M))
  | 0, _, _, _, _, _ => by rw [f198_9]; exact g_none
  | n + 1, l0, l2, l3, M, pl0 => by
    rw [f198_9]
    refine g_pure (c' := (10, [(0, .ref l0), (2, .int l2), (3, .int l3)], [.int l3], (jE0, M))) 1 rfl ?_
    refine g_if_lt (tgt := 42) rfl rfl (fun q1 => ?_) (fun q1 => ?_)
    · exact g_ret rfl rfl (fun _ h => h)
    · refine g_pure (c' := (14, [(0, .ref l0), (2, .int l2), (3, .int l3)], [.ref l0], (jE0, M))) 1 rfl ?_
      refine g_gp rfl rfl rfl pl0 (jp_ok (kd := 8) pl0 (by decide) (by decide) rfl rfl).1 ?_
      refine g_pure (c' := (18, [(0, .ref l0), (2, .int l2), (3, .int l3)], [.int l3, .ref (jpt l0 28)], (jE0, M))) 1 rfl ?_
      refine g_ia rfl (jk_ok (kd := 8) pl0 (by decide) (by decide) rfl rfl) (fun v2 => ?_)
      refine g_pure (c' := (20, [(0, .ref l0), (2, .int l2), (3, .int l3)], [.int (3 : Int32), .int v2], (jE0, M))) 1 rfl ?_
      refine g_ic_eq (tgt := 36) rfl rfl (fun q3 => ?_) (fun q3 => ?_)
      · exact (c198_36 (f198_9 n) (c198_9 n) l0 l2 l3 M pl0)
      · refine g_pure (c' := (24, [(0, .ref l0), (2, .int l2), (3, .int l3)], [.ref l0], (jE0, M))) 1 rfl ?_
        refine g_gp rfl rfl rfl pl0 (jp_ok (kd := 8) pl0 (by decide) (by decide) rfl rfl).1 ?_
        refine g_pure (c' := (30, [(0, .ref l0), (2, .int l2), (3, .int l3)], [.int (3 : Int32), .int l2, .int l3, .ref (jpt l0 14)], (jE0, M))) 3 rfl ?_
        refine g_d2 rfl (fun v4 => ?_)
        refine g_is rfl (jk_ok (kd := 8) pl0 (by decide) (by decide) rfl rfl) (fun M5 => ?_)
        refine g_pure (c' := (34, [(0, .ref l0), (2, .int l2), (3, .int l3)], [.int (3 : Int32), .int l2], (jE0, M5))) 2 rfl ?_
        refine g_d1 rfl (fun v6 => ?_)
        refine g_pure (c' := (36, [(2, .int v6), (0, .ref l0), (3, .int l3)], [], (jE0, M5))) 1 rfl ?_
        refine g_weakk (lv := [(0, .ref l0), (2, .int v6), (3, .int l3)]) ⟨rfl, rfl, rfl, trivial⟩ [0, 2, 3] rfl (by decide) [2, 0, 3] rfl (by decide) ?_
        exact (c198_36 (f198_9 n) (c198_9 n) l0 v6 l3 M5 pl0)
/-- CometKinModel.layWay -/
def f198  (l0 : Nat) (l1 : Int32) (M : JM) : Option JM := (f198_9 1000 l0 l1 ((M l0 13) - (1 : Int32)) M)
set_option maxRecDepth 100000 in
theorem c198 {xs : Option (List Int32)} (l0 : Nat) (l1 : Int32) (M : JM) (pl0 : jok jE0 l0 7 = true) : JG xs 0 198 (f198 l0 l1 M) (fun x r => r = (none, (jE0, x))) (0, [(0, .ref l0), (1, .int l1)], [], (jE0, M)) := by
    unfold f198
    refine g_pure (c' := (3, [(2, .int l1), (0, .ref l0), (1, .int l1)], [.ref l0], (jE0, M))) 3 rfl ?_
    refine g_gf (ci := 7) (k := 13) rfl rfl rfl pl0 ?_
    refine g_pure (c' := (9, [(3, .int ((M l0 13) - (1 : Int32))), (2, .int l1), (0, .ref l0), (1, .int l1)], [], (jE0, M))) 3 rfl ?_
    refine g_weakk (lv := [(0, .ref l0), (2, .int l1), (3, .int ((M l0 13) - (1 : Int32)))]) ⟨rfl, rfl, rfl, trivial⟩ [0, 2, 3] rfl (by decide) [3, 2, 0, 1] rfl (by decide) ?_
    exact (c198_9 1000 l0 l1 ((M l0 13) - (1 : Int32)) M pl0)
def f197_86 (h4 : Nat → Int32 → Int32 → JM → Option (Int32 × JM)) (l0 : Nat) (l2 : Int32) (s0 : Int32) (M : JM) : Option (Int32 × JM) := (h4 l0 s0 (l2 + (1 : Int32)) M)
set_option maxRecDepth 100000 in
theorem c197_86 {xs : Option (List Int32)} (h4 : Nat → Int32 → Int32 → JM → Option (Int32 × JM)) (H4 : ∀ (l0 : Nat) (l1 : Int32) (l2 : Int32) (M : JM) (pl0 : jok jE0 l0 7 = true), JG xs 6 197 (h4 l0 l1 l2 M) (fun x r => r = (some (.int x.1), (jE0, x.2))) (4, [(0, .ref l0), (1, .int l1), (2, .int l2)], [], (jE0, M))) : ∀ (l0 : Nat) (l2 : Int32) (s0 : Int32) (M : JM) (pl0 : jok jE0 l0 7 = true), JG xs 6 197 (f197_86 h4 l0 l2 s0 M) (fun x r => r = (some (.int x.1), (jE0, x.2))) (86, [(0, .ref l0), (2, .int l2)], [.int s0], (jE0, M)) := by
    intro l0 l2 s0 M pl0
    unfold f197_86
    refine g_pure (c' := (4, [(2, .int (l2 + (1 : Int32))), (1, .int s0), (0, .ref l0)], [], (jE0, M))) 3 rfl ?_
    refine g_weakk (lv := [(0, .ref l0), (1, .int s0), (2, .int (l2 + (1 : Int32)))]) ⟨rfl, rfl, rfl, trivial⟩ [0, 1, 2] rfl (by decide) [2, 1, 0] rfl (by decide) ?_
    exact (H4 l0 s0 (l2 + (1 : Int32)) M pl0)
def f197_78 (h4 : Nat → Int32 → Int32 → JM → Option (Int32 × JM)) (l0 : Nat) (l2 : Int32) (s0 : Int32) (s1 : Int32) (M : JM) : Option (Int32 × JM) := (if s1 = s0 then (f197_86 h4 l0 l2 (1 : Int32) M) else (f197_86 h4 l0 l2 (0 : Int32) M))
set_option maxRecDepth 100000 in
theorem c197_78 {xs : Option (List Int32)} (h4 : Nat → Int32 → Int32 → JM → Option (Int32 × JM)) (H4 : ∀ (l0 : Nat) (l1 : Int32) (l2 : Int32) (M : JM) (pl0 : jok jE0 l0 7 = true), JG xs 6 197 (h4 l0 l1 l2 M) (fun x r => r = (some (.int x.1), (jE0, x.2))) (4, [(0, .ref l0), (1, .int l1), (2, .int l2)], [], (jE0, M))) : ∀ (l0 : Nat) (l2 : Int32) (s0 : Int32) (s1 : Int32) (M : JM) (pl0 : jok jE0 l0 7 = true), JG xs 6 197 (f197_78 h4 l0 l2 s0 s1 M) (fun x r => r = (some (.int x.1), (jE0, x.2))) (78, [(0, .ref l0), (2, .int l2)], [.int s0, .int s1], (jE0, M)) := by
    intro l0 l2 s0 s1 M pl0
    unfold f197_78
    refine g_ic_ne (tgt := 85) rfl rfl (fun q11 => ?_) (fun q11 => ?_)
    · refine g_pure (c' := (86, [(0, .ref l0), (2, .int l2)], [.int (1 : Int32)], (jE0, M))) 2 rfl ?_
      exact (c197_86 h4 H4 l0 l2 (1 : Int32) M pl0)
    · refine g_pure (c' := (86, [(0, .ref l0), (2, .int l2)], [.int (0 : Int32)], (jE0, M))) 1 rfl ?_
      exact (c197_86 h4 H4 l0 l2 (0 : Int32) M pl0)
def f197_59 (h4 : Nat → Int32 → Int32 → JM → Option (Int32 × JM)) (l0 : Nat) (l2 : Int32) (s0 : Int32) (M : JM) : Option (Int32 × JM) := ((jla (jpt l0 26) (((4 : Int32) * l2) + (3 : Int32)) M).bind fun v9 => (if v9 = (1 : Int32) then (f197_78 h4 l0 l2 (1 : Int32) s0 M) else (f197_78 h4 l0 l2 (0 : Int32) s0 M)))
set_option maxRecDepth 100000 in
theorem c197_59 {xs : Option (List Int32)} (h4 : Nat → Int32 → Int32 → JM → Option (Int32 × JM)) (H4 : ∀ (l0 : Nat) (l1 : Int32) (l2 : Int32) (M : JM) (pl0 : jok jE0 l0 7 = true), JG xs 6 197 (h4 l0 l1 l2 M) (fun x r => r = (some (.int x.1), (jE0, x.2))) (4, [(0, .ref l0), (1, .int l1), (2, .int l2)], [], (jE0, M))) : ∀ (l0 : Nat) (l2 : Int32) (s0 : Int32) (M : JM) (pl0 : jok jE0 l0 7 = true), JG xs 6 197 (f197_59 h4 l0 l2 s0 M) (fun x r => r = (some (.int x.1), (jE0, x.2))) (59, [(0, .ref l0), (2, .int l2)], [.int s0], (jE0, M)) := by
    intro l0 l2 s0 M pl0
    unfold f197_59
    refine g_pure (c' := (60, [(0, .ref l0), (2, .int l2)], [.ref l0, .int s0], (jE0, M))) 1 rfl ?_
    refine g_gp rfl rfl rfl pl0 (jp_ok (kd := 8) pl0 (by decide) (by decide) rfl rfl).1 ?_
    refine g_pure (c' := (68, [(0, .ref l0), (2, .int l2)], [.int (((4 : Int32) * l2) + (3 : Int32)), .ref (jpt l0 26), .int s0], (jE0, M))) 5 rfl ?_
    refine g_ia rfl (jk_ok (kd := 8) pl0 (by decide) (by decide) rfl rfl) (fun v9 => ?_)
    refine g_pure (c' := (70, [(0, .ref l0), (2, .int l2)], [.int (1 : Int32), .int v9, .int s0], (jE0, M))) 1 rfl ?_
    refine g_ic_ne (tgt := 77) rfl rfl (fun q10 => ?_) (fun q10 => ?_)
    · refine g_pure (c' := (78, [(0, .ref l0), (2, .int l2)], [.int (1 : Int32), .int s0], (jE0, M))) 2 rfl ?_
      exact (c197_78 h4 H4 l0 l2 (1 : Int32) s0 M pl0)
    · refine g_pure (c' := (78, [(0, .ref l0), (2, .int l2)], [.int (0 : Int32), .int s0], (jE0, M))) 1 rfl ?_
      exact (c197_78 h4 H4 l0 l2 (0 : Int32) s0 M pl0)
def f197_4  : Nat → Nat → Int32 → Int32 → JM → Option (Int32 × JM)
  | 0, _, _, _, _ => none
  | n + 1, l0, l1, l2, M => (if l1 = (0 : Int32) then ((jbo 197 l1).bind fun u => some (u, M)) else (if l2 < (M l0 27) then ((jla (jpt l0 26) ((4 : Int32) * l2) M).bind fun v3 => ((jla (jpt l0 26) (((4 : Int32) * l2) + (1 : Int32)) M).bind fun v4 => ((jla (jpt l0 26) (((4 : Int32) * l2) + (2 : Int32)) M).bind fun v5 => ((f156 l0 v3 v4 v5 M).bind fun z12 => (if z12.1 = (-1 : Int32) then (f197_59 (f197_4 n) l0 l2 (0 : Int32) z12.2) else (f197_59 (f197_4 n) l0 l2 (1 : Int32) z12.2)))))) else ((jbo 197 l1).bind fun u => some (u, M))))
set_option maxRecDepth 100000 in
theorem c197_4 {xs : Option (List Int32)} : ∀ (n : Nat) (l0 : Nat) (l1 : Int32) (l2 : Int32) (M : JM) (pl0 : jok jE0 l0 7 = true), JG xs 6 197 (f197_4 n l0 l1 l2 M) (fun x r => r = (some (.int x.1), (jE0, x.2))) (4, [(0, .ref l0), (1, .int l1), (2, .int l2)], [], (jE0, M))
  | 0, _, _, _, _, _ => by rw [f197_4]; exact g_none
  | n + 1, l0, l1, l2, M, pl0 => by
    rw [f197_4]
    refine g_pure (c' := (5, [(0, .ref l0), (1, .int l1), (2, .int l2)], [.int l1], (jE0, M))) 1 rfl ?_
    refine g_if_eq (tgt := 93) rfl rfl (fun q1 => ?_) (fun q1 => ?_)
    · refine g_pure (c' := (94, [(0, .ref l0), (1, .int l1), (2, .int l2)], [.int l1], (jE0, M))) 1 rfl ?_
      exact g_rw rfl (fun _ _ h => h)
    · refine g_pure (c' := (10, [(0, .ref l0), (1, .int l1), (2, .int l2)], [.ref l0, .int l2], (jE0, M))) 2 rfl ?_
      refine g_gf (ci := 7) (k := 27) rfl rfl rfl pl0 ?_
      refine g_ic_ge (tgt := 93) rfl rfl (fun q2 => ?_) (fun q2 => ?_)
      · refine g_pure (c' := (18, [(0, .ref l0), (1, .int l1), (2, .int l2)], [.ref l0, .ref l0], (jE0, M))) 2 rfl ?_
        refine g_gp rfl rfl rfl pl0 (jp_ok (kd := 8) pl0 (by decide) (by decide) rfl rfl).1 ?_
        refine g_pure (c' := (24, [(0, .ref l0), (1, .int l1), (2, .int l2)], [.int ((4 : Int32) * l2), .ref (jpt l0 26), .ref l0], (jE0, M))) 3 rfl ?_
        refine g_ia rfl (jk_ok (kd := 8) pl0 (by decide) (by decide) rfl rfl) (fun v3 => ?_)
        refine g_pure (c' := (26, [(0, .ref l0), (1, .int l1), (2, .int l2)], [.ref l0, .int v3, .ref l0], (jE0, M))) 1 rfl ?_
        refine g_gp rfl rfl rfl pl0 (jp_ok (kd := 8) pl0 (by decide) (by decide) rfl rfl).1 ?_
        refine g_pure (c' := (34, [(0, .ref l0), (1, .int l1), (2, .int l2)], [.int (((4 : Int32) * l2) + (1 : Int32)), .ref (jpt l0 26), .int v3, .ref l0], (jE0, M))) 5 rfl ?_
        refine g_ia rfl (jk_ok (kd := 8) pl0 (by decide) (by decide) rfl rfl) (fun v4 => ?_)
        refine g_pure (c' := (36, [(0, .ref l0), (1, .int l1), (2, .int l2)], [.ref l0, .int v4, .int v3, .ref l0], (jE0, M))) 1 rfl ?_
        refine g_gp rfl rfl rfl pl0 (jp_ok (kd := 8) pl0 (by decide) (by decide) rfl rfl).1 ?_
        refine g_pure (c' := (44, [(0, .ref l0), (1, .int l1), (2, .int l2)], [.int (((4 : Int32) * l2) + (2 : Int32)), .ref (jpt l0 26), .int v4, .int v3, .ref l0], (jE0, M))) 5 rfl ?_
        refine g_ia rfl (jk_ok (kd := 8) pl0 (by decide) (by decide) rfl rfl) (fun v5 => ?_)
        refine g_wI rfl (jc_v rfl rfl (jv_o pl0 rfl) rfl) (c156 l0 v3 v4 v5 M pl0) (by decide) (fun v7 M6 qv7 => ?_)
        refine g_pure (c' := (51, [(3, .int v7), (0, .ref l0), (1, .int l1), (2, .int l2)], [.int (-1 : Int32), .int v7], (jE0, M6))) 3 rfl ?_
        refine g_ic_eq (tgt := 58) rfl rfl (fun q8 => ?_) (fun q8 => ?_)
        · refine g_pure (c' := (59, [(3, .int v7), (0, .ref l0), (1, .int l1), (2, .int l2)], [.int (0 : Int32)], (jE0, M6))) 1 rfl ?_
          refine g_weakk (lv := [(0, .ref l0), (2, .int l2)]) ⟨rfl, rfl, trivial⟩ [0, 2] rfl (by decide) [3, 0, 1, 2] rfl (by decide) ?_
          exact (c197_59 (f197_4 n) (c197_4 n) l0 l2 (0 : Int32) M6 pl0)
        · refine g_pure (c' := (59, [(3, .int v7), (0, .ref l0), (1, .int l1), (2, .int l2)], [.int (1 : Int32)], (jE0, M6))) 2 rfl ?_
          refine g_weakk (lv := [(0, .ref l0), (2, .int l2)]) ⟨rfl, rfl, trivial⟩ [0, 2] rfl (by decide) [3, 0, 1, 2] rfl (by decide) ?_
          exact (c197_59 (f197_4 n) (c197_4 n) l0 l2 (1 : Int32) M6 pl0)
      · refine g_pure (c' := (94, [(0, .ref l0), (1, .int l1), (2, .int l2)], [.int l1], (jE0, M))) 1 rfl ?_
        exact g_rw rfl (fun _ _ h => h)
/-- CometKinModel.isAllSo -/
def f197  (l0 : Nat) (M : JM) : Option (Int32 × JM) := (f197_4 1000 l0 (1 : Int32) (0 : Int32) M)
set_option maxRecDepth 100000 in
theorem c197 {xs : Option (List Int32)} (l0 : Nat) (M : JM) (pl0 : jok jE0 l0 7 = true) : JG xs 6 197 (f197 l0 M) (fun x r => r = (some (.int x.1), (jE0, x.2))) (0, [(0, .ref l0)], [], (jE0, M)) := by
    unfold f197
    refine g_pure (c' := (4, [(2, .int (0 : Int32)), (1, .int (1 : Int32)), (0, .ref l0)], [], (jE0, M))) 4 rfl ?_
    refine g_weakk (lv := [(0, .ref l0), (1, .int (1 : Int32)), (2, .int (0 : Int32))]) ⟨rfl, rfl, rfl, trivial⟩ [0, 1, 2] rfl (by decide) [2, 1, 0] rfl (by decide) ?_
    exact (c197_4 1000 l0 (1 : Int32) (0 : Int32) M pl0)
