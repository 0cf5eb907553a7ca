/-- CometKin$Row.add -/
def f44  (l0 : Nat) (l1 : Int32) (l2 : Int32) (M : JM) : Option JM := ((f42 M l0 l1).bind fun v1 => ((f43 l0 l1 (v1 + l2) M).bind fun M2 => (some M2)))
set_option maxRecDepth 100000 in
theorem c44 {xs : Option (List Int32)} (l0 : Nat) (l1 : Int32) (l2 : Int32) (M : JM) (pl0 : jok jE0 l0 3 = true) : JG xs 1 44 (f44 l0 l1 l2 M) (fun x r => r = (none, (jE0, x))) (0, [(0, .ref l0), (1, .int l1), (2, .int l2)], [], (jE0, M)) := by
    unfold f44
    refine g_pure (c' := (4, [(0, .ref l0), (1, .int l1), (2, .int l2)], [.int l1, .ref l0, .int l1, .ref l0], (jE0, M))) 4 rfl ?_
    refine g_cI rfl (jc_v rfl rfl (jv_o pl0 rfl) rfl) (c42 l0 l1 pl0) (by decide) (fun v1 qv1 => ?_)
    refine g_pure (c' := (9, [(0, .ref l0), (1, .int l1), (2, .int l2)], [.int (v1 + l2), .int l1, .ref l0], (jE0, M))) 2 rfl ?_
    refine g_wV rfl (jc_v rfl rfl (jv_o pl0 rfl) rfl) (c43 l0 l1 (v1 + l2) M pl0) (by decide) (fun M2 => ?_)
    exact g_ret rfl rfl (fun _ h => h)
/-- CometKin$Life.addGold -/
def f38  (l0 : Nat) (l1 : Int32) (l2 : Int32) (M : JM) : Option JM := ((f44 (jpt l0 5) l1 l2 M).bind fun M1 => (some M1))
set_option maxRecDepth 100000 in
theorem c38 {xs : Option (List Int32)} (l0 : Nat) (l1 : Int32) (l2 : Int32) (M : JM) (pl0 : jok jE0 l0 2 = true) : JG xs 2 38 (f38 l0 l1 l2 M) (fun x r => r = (none, (jE0, x))) (0, [(0, .ref l0), (1, .int l1), (2, .int l2)], [], (jE0, M)) := by
    unfold f38
    refine g_pure (c' := (1, [(0, .ref l0), (1, .int l1), (2, .int l2)], [.ref l0], (jE0, M))) 1 rfl ?_
    refine g_gp rfl rfl rfl pl0 (jp_ok (kd := 3) pl0 (by decide) (by decide) rfl rfl).1 ?_
    refine g_pure (c' := (6, [(0, .ref l0), (1, .int l1), (2, .int l2)], [.int l2, .int l1, .ref (jpt l0 5)], (jE0, M))) 2 rfl ?_
    refine g_wV rfl (jc_v rfl rfl (jv_o (jk_ok (kd := 3) pl0 (by decide) (by decide) rfl rfl) rfl) rfl) (c44 (jpt l0 5) l1 l2 M (jk_ok (kd := 3) pl0 (by decide) (by decide) rfl rfl)) (by decide) (fun M1 => ?_)
    exact g_ret rfl rfl (fun _ h => h)
def f111_99 (M : JM) (h7 : Nat → Int32 → Int32 → Int32 → Int32 → Option Int32) (l0 : Nat) (l1 : Int32) (l2 : Int32) (l3 : Int32) (l4 : Int32) : Option Int32 := (h7 l0 l1 l2 l3 (l4 + (1 : Int32)))
set_option maxRecDepth 100000 in
theorem c111_99 {xs : Option (List Int32)} {M : JM} (h7 : Nat → Int32 → Int32 → Int32 → Int32 → Option Int32) (H7 : ∀ (l0 : Nat) (l1 : Int32) (l2 : Int32) (l3 : Int32) (l4 : Int32) (pl0 : jok jE0 l0 6 = true), JG xs 3 111 (h7 l0 l1 l2 l3 l4) (fun x r => r = (some (.int x), (jE0, M))) (7, [(0, .ref l0), (1, .int l1), (2, .int l2), (3, .int l3), (4, .int l4)], [], (jE0, M))) : ∀ (l0 : Nat) (l1 : Int32) (l2 : Int32) (l3 : Int32) (l4 : Int32) (pl0 : jok jE0 l0 6 = true), JG xs 3 111 (f111_99 M h7 l0 l1 l2 l3 l4) (fun x r => r = (some (.int x), (jE0, M))) (99, [(0, .ref l0), (1, .int l1), (2, .int l2), (3, .int l3), (4, .int l4)], [], (jE0, M)) := by
    intro l0 l1 l2 l3 l4 pl0
    unfold f111_99
    refine g_pure (c' := (7, [(4, .int (l4 + (1 : Int32))), (0, .ref l0), (1, .int l1), (2, .int l2), (3, .int l3)], [], (jE0, M))) 2 rfl ?_
    refine g_weakk (lv := [(0, .ref l0), (1, .int l1), (2, .int l2), (3, .int l3), (4, .int (l4 + (1 : Int32)))]) ⟨rfl, rfl, rfl, rfl, rfl, trivial⟩ [0, 1, 2, 3, 4] rfl (by decide) [4, 0, 1, 2, 3] rfl (by decide) ?_
    exact (H7 l0 l1 l2 l3 (l4 + (1 : Int32)) pl0)
def f111_79 (M : JM) (h7 : Nat → Int32 → Int32 → Int32 → Int32 → Option Int32) (l0 : Nat) (l1 : Int32) (l2 : Int32) (l3 : Int32) (l4 : Int32) (l5 : Int32) : Option Int32 := (if l5 = (-1 : Int32) then (f111_99 M h7 l0 l1 l2 l3 l4) else (if l5 = l2 then ((f100 l4).bind fun v7 => (f111_99 M h7 l0 l1 l2 (l3 ||| v7) l4)) else (f111_99 M h7 l0 l1 l2 l3 l4)))
set_option maxRecDepth 100000 in
theorem c111_79 {xs : Option (List Int32)} {M : JM} (h7 : Nat → Int32 → Int32 → Int32 → Int32 → Option Int32) (H7 : ∀ (l0 : Nat) (l1 : Int32) (l2 : Int32) (l3 : Int32) (l4 : Int32) (pl0 : jok jE0 l0 6 = true), JG xs 3 111 (h7 l0 l1 l2 l3 l4) (fun x r => r = (some (.int x), (jE0, M))) (7, [(0, .ref l0), (1, .int l1), (2, .int l2), (3, .int l3), (4, .int l4)], [], (jE0, M))) : ∀ (l0 : Nat) (l1 : Int32) (l2 : Int32) (l3 : Int32) (l4 : Int32) (l5 : Int32) (pl0 : jok jE0 l0 6 = true), JG xs 3 111 (f111_79 M h7 l0 l1 l2 l3 l4 l5) (fun x r => r = (some (.int x), (jE0, M))) (79, [(0, .ref l0), (1, .int l1), (2, .int l2), (3, .int l3), (4, .int l4), (5, .int l5)], [], (jE0, M)) := by
    intro l0 l1 l2 l3 l4 l5 pl0
    unfold f111_79
    refine g_pure (c' := (82, [(0, .ref l0), (1, .int l1), (2, .int l2), (3, .int l3), (4, .int l4), (5, .int l5)], [.int (-1 : Int32), .int l5], (jE0, M))) 2 rfl ?_
    refine g_ic_eq (tgt := 99) rfl rfl (fun q5 => ?_) (fun q5 => ?_)
    · refine g_weakk (lv := [(0, .ref l0), (1, .int l1), (2, .int l2), (3, .int l3), (4, .int l4)]) ⟨rfl, rfl, rfl, rfl, rfl, trivial⟩ [0, 1, 2, 3, 4] rfl (by decide) [0, 1, 2, 3, 4, 5] rfl (by decide) ?_
      exact (c111_99 h7 H7 l0 l1 l2 l3 l4 pl0)
    · refine g_pure (c' := (88, [(0, .ref l0), (1, .int l1), (2, .int l2), (3, .int l3), (4, .int l4), (5, .int l5)], [.int l2, .int l5], (jE0, M))) 2 rfl ?_
      refine g_ic_ne (tgt := 99) rfl rfl (fun q6 => ?_) (fun q6 => ?_)
      · refine g_pure (c' := (94, [(0, .ref l0), (1, .int l1), (2, .int l2), (3, .int l3), (4, .int l4), (5, .int l5)], [.int l4, .int l3], (jE0, M))) 2 rfl ?_
        refine g_cI rfl (jc_s rfl rfl) (c100 l4) (by decide) (fun v7 qv7 => ?_)
        refine g_pure (c' := (99, [(3, .int (l3 ||| v7)), (0, .ref l0), (1, .int l1), (2, .int l2), (4, .int l4), (5, .int l5)], [], (jE0, M))) 2 rfl ?_
        refine g_weakk (lv := [(0, .ref l0), (1, .int l1), (2, .int l2), (3, .int (l3 ||| v7)), (4, .int l4)]) ⟨rfl, rfl, rfl, rfl, rfl, trivial⟩ [0, 1, 2, 3, 4] rfl (by decide) [3, 0, 1, 2, 4, 5] rfl (by decide) ?_
        exact (c111_99 h7 H7 l0 l1 l2 (l3 ||| v7) l4 pl0)
      · refine g_weakk (lv := [(0, .ref l0), (1, .int l1), (2, .int l2), (3, .int l3), (4, .int l4)]) ⟨rfl, rfl, rfl, rfl, rfl, trivial⟩ [0, 1, 2, 3, 4] rfl (by decide) [0, 1, 2, 3, 4, 5] rfl (by decide) ?_
        exact (c111_99 h7 H7 l0 l1 l2 l3 l4 pl0)
def f111_74 (M : JM) (h7 : Nat → Int32 → Int32 → Int32 → Int32 → Option Int32) (l0 : Nat) (l1 : Int32) (l4 : Int32) (l5 : Int32) : Option Int32 := (f111_79 M h7 l0 l1 l5 (0 : Int32) l4 l5)
set_option maxRecDepth 100000 in
theorem c111_74 {xs : Option (List Int32)} {M : JM} (h7 : Nat → Int32 → Int32 → Int32 → Int32 → Option Int32) (H7 : ∀ (l0 : Nat) (l1 : Int32) (l2 : Int32) (l3 : Int32) (l4 : Int32) (pl0 : jok jE0 l0 6 = true), JG xs 3 111 (h7 l0 l1 l2 l3 l4) (fun x r => r = (some (.int x), (jE0, M))) (7, [(0, .ref l0), (1, .int l1), (2, .int l2), (3, .int l3), (4, .int l4)], [], (jE0, M))) : ∀ (l0 : Nat) (l1 : Int32) (l4 : Int32) (l5 : Int32) (pl0 : jok jE0 l0 6 = true), JG xs 3 111 (f111_74 M h7 l0 l1 l4 l5) (fun x r => r = (some (.int x), (jE0, M))) (74, [(0, .ref l0), (1, .int l1), (4, .int l4), (5, .int l5)], [], (jE0, M)) := by
    intro l0 l1 l4 l5 pl0
    unfold f111_74
    refine g_pure (c' := (79, [(3, .int (0 : Int32)), (2, .int l5), (0, .ref l0), (1, .int l1), (4, .int l4), (5, .int l5)], [], (jE0, M))) 4 rfl ?_
    refine g_weakk (lv := [(0, .ref l0), (1, .int l1), (2, .int l5), (3, .int (0 : Int32)), (4, .int l4), (5, .int l5)]) ⟨rfl, rfl, rfl, rfl, rfl, rfl, trivial⟩ [0, 1, 2, 3, 4, 5] rfl (by decide) [3, 2, 0, 1, 4, 5] rfl (by decide) ?_
    exact (c111_79 h7 H7 l0 l1 l5 (0 : Int32) l4 l5 pl0)
def f111_55 (M : JM) (h7 : Nat → Int32 → Int32 → Int32 → Int32 → Option Int32) (l0 : Nat) (l1 : Int32) (l2 : Int32) (l3 : Int32) (l4 : Int32) (s0 : Int32) : Option Int32 := (if s0 = (-1 : Int32) then (f111_79 M h7 l0 l1 l2 l3 l4 s0) else (if l2 = (-1 : Int32) then (f111_74 M h7 l0 l1 l4 s0) else (if s0 < l2 then (f111_74 M h7 l0 l1 l4 s0) else (f111_79 M h7 l0 l1 l2 l3 l4 s0))))
set_option maxRecDepth 100000 in
theorem c111_55 {xs : Option (List Int32)} {M : JM} (h7 : Nat → Int32 → Int32 → Int32 → Int32 → Option Int32) (H7 : ∀ (l0 : Nat) (l1 : Int32) (l2 : Int32) (l3 : Int32) (l4 : Int32) (pl0 : jok jE0 l0 6 = true), JG xs 3 111 (h7 l0 l1 l2 l3 l4) (fun x r => r = (some (.int x), (jE0, M))) (7, [(0, .ref l0), (1, .int l1), (2, .int l2), (3, .int l3), (4, .int l4)], [], (jE0, M))) : ∀ (l0 : Nat) (l1 : Int32) (l2 : Int32) (l3 : Int32) (l4 : Int32) (s0 : Int32) (pl0 : jok jE0 l0 6 = true), JG xs 3 111 (f111_55 M h7 l0 l1 l2 l3 l4 s0) (fun x r => r = (some (.int x), (jE0, M))) (55, [(0, .ref l0), (1, .int l1), (2, .int l2), (3, .int l3), (4, .int l4)], [.int s0], (jE0, M)) := by
    intro l0 l1 l2 l3 l4 s0 pl0
    unfold f111_55
    refine g_pure (c' := (60, [(5, .int s0), (0, .ref l0), (1, .int l1), (2, .int l2), (3, .int l3), (4, .int l4)], [.int (-1 : Int32), .int s0], (jE0, M))) 3 rfl ?_
    refine g_ic_eq (tgt := 79) rfl rfl (fun q4 => ?_) (fun q4 => ?_)
    · refine g_weakk (lv := [(0, .ref l0), (1, .int l1), (2, .int l2), (3, .int l3), (4, .int l4), (5, .int s0)]) ⟨rfl, rfl, rfl, rfl, rfl, rfl, trivial⟩ [0, 1, 2, 3, 4, 5] rfl (by decide) [5, 0, 1, 2, 3, 4] rfl (by decide) ?_
      exact (c111_79 h7 H7 l0 l1 l2 l3 l4 s0 pl0)
    · refine g_pure (c' := (65, [(5, .int s0), (0, .ref l0), (1, .int l1), (2, .int l2), (3, .int l3), (4, .int l4)], [.int (-1 : Int32), .int l2], (jE0, M))) 2 rfl ?_
      refine g_ic_eq (tgt := 74) rfl rfl (fun q8 => ?_) (fun q8 => ?_)
      · refine g_weakk (lv := [(0, .ref l0), (1, .int l1), (4, .int l4), (5, .int s0)]) ⟨rfl, rfl, rfl, rfl, trivial⟩ [0, 1, 4, 5] rfl (by decide) [5, 0, 1, 2, 3, 4] rfl (by decide) ?_
        exact (c111_74 h7 H7 l0 l1 l4 s0 pl0)
      · refine g_pure (c' := (71, [(5, .int s0), (0, .ref l0), (1, .int l1), (2, .int l2), (3, .int l3), (4, .int l4)], [.int l2, .int s0], (jE0, M))) 2 rfl ?_
        refine g_ic_ge (tgt := 79) rfl rfl (fun q9 => ?_) (fun q9 => ?_)
        · refine g_weakk (lv := [(0, .ref l0), (1, .int l1), (4, .int l4), (5, .int s0)]) ⟨rfl, rfl, rfl, rfl, trivial⟩ [0, 1, 4, 5] rfl (by decide) [5, 0, 1, 2, 3, 4] rfl (by decide) ?_
          exact (c111_74 h7 H7 l0 l1 l4 s0 pl0)
        · refine g_weakk (lv := [(0, .ref l0), (1, .int l1), (2, .int l2), (3, .int l3), (4, .int l4), (5, .int s0)]) ⟨rfl, rfl, rfl, rfl, rfl, rfl, trivial⟩ [0, 1, 2, 3, 4, 5] rfl (by decide) [5, 0, 1, 2, 3, 4] rfl (by decide) ?_
          exact (c111_79 h7 H7 l0 l1 l2 l3 l4 s0 pl0)
def f111_7 (M : JM) : Nat → Nat → Int32 → Int32 → Int32 → Int32 → Option Int32
  | 0, _, _, _, _, _ => none
  | n + 1, l0, l1, l2, l3, l4 => (if l4 < (M (jpt l0 1) 0) then ((f101 (M (jpt l0 3) 1) l4).bind fun v2 => (if v2 = (0 : Int32) then (f111_55 M (f111_7 M n) l0 l1 l2 l3 l4 (-1 : Int32)) else ((f20 M (jpt l0 1) l1 l4 (M (jpt l0 3) 0)).bind fun v10 => (f111_55 M (f111_7 M n) l0 l1 l2 l3 l4 v10)))) else (some l3))
set_option maxRecDepth 100000 in
theorem c111_7 {xs : Option (List Int32)} {M : JM} : ∀ (n : Nat) (l0 : Nat) (l1 : Int32) (l2 : Int32) (l3 : Int32) (l4 : Int32) (pl0 : jok jE0 l0 6 = true), JG xs 3 111 (f111_7 M n l0 l1 l2 l3 l4) (fun x r => r = (some (.int x), (jE0, M))) (7, [(0, .ref l0), (1, .int l1), (2, .int l2), (3, .int l3), (4, .int l4)], [], (jE0, M))
  | 0, _, _, _, _, _, _ => by rw [f111_7]; exact g_none
  | n + 1, l0, l1, l2, l3, l4, pl0 => by
    rw [f111_7]
    refine g_pure (c' := (10, [(0, .ref l0), (1, .int l1), (2, .int l2), (3, .int l3), (4, .int l4)], [.ref l0, .int l4], (jE0, M))) 2 rfl ?_
    refine g_gp rfl rfl rfl pl0 (jp_ok (kd := 0) pl0 (by decide) (by decide) rfl rfl).1 ?_
    refine g_gf (ci := 0) (k := 0) rfl rfl rfl (jk_ok (kd := 0) pl0 (by decide) (by decide) rfl rfl) ?_
    refine g_ic_ge (tgt := 105) rfl rfl (fun q1 => ?_) (fun q1 => ?_)
    · refine g_pure (c' := (20, [(0, .ref l0), (1, .int l1), (2, .int l2), (3, .int l3), (4, .int l4)], [.ref l0], (jE0, M))) 1 rfl ?_
      refine g_gp rfl rfl rfl pl0 (jp_ok (kd := 2) pl0 (by decide) (by decide) rfl rfl).1 ?_
      refine g_gf (ci := 2) (k := 1) rfl rfl rfl (jk_ok (kd := 2) pl0 (by decide) (by decide) rfl rfl) ?_
      refine g_pure (c' := (28, [(0, .ref l0), (1, .int l1), (2, .int l2), (3, .int l3), (4, .int l4)], [.int l4, .int (M (jpt l0 3) 1)], (jE0, M))) 1 rfl ?_
      refine g_cI rfl (jc_s rfl rfl) (c101 (M (jpt l0 3) 1) l4) (by decide) (fun v2 qv2 => ?_)
      refine g_if_eq (tgt := 54) rfl rfl (fun q3 => ?_) (fun q3 => ?_)
      · refine g_pure (c' := (55, [(0, .ref l0), (1, .int l1), (2, .int l2), (3, .int l3), (4, .int l4)], [.int (-1 : Int32)], (jE0, M))) 1 rfl ?_
        exact (c111_55 (f111_7 M n) (c111_7 n) l0 l1 l2 l3 l4 (-1 : Int32) pl0)
      · refine g_pure (c' := (35, [(0, .ref l0), (1, .int l1), (2, .int l2), (3, .int l3), (4, .int l4)], [.ref l0], (jE0, M))) 1 rfl ?_
        refine g_gp rfl rfl rfl pl0 (jp_ok (kd := 0) pl0 (by decide) (by decide) rfl rfl).1 ?_
        refine g_pure (c' := (42, [(0, .ref l0), (1, .int l1), (2, .int l2), (3, .int l3), (4, .int l4)], [.ref l0, .int l4, .int l1, .ref (jpt l0 1)], (jE0, M))) 3 rfl ?_
        refine g_gp rfl rfl rfl pl0 (jp_ok (kd := 2) pl0 (by decide) (by decide) rfl rfl).1 ?_
        refine g_gf (ci := 2) (k := 0) rfl rfl rfl (jk_ok (kd := 2) pl0 (by decide) (by decide) rfl rfl) ?_
        refine g_cI rfl (jc_v rfl rfl (jv_o (jk_ok (kd := 0) pl0 (by decide) (by decide) rfl rfl) rfl) rfl) (c20 (jpt l0 1) l1 l4 (M (jpt l0 3) 0) (jk_ok (kd := 0) pl0 (by decide) (by decide) rfl rfl)) (by decide) (fun v10 qv10 => ?_)
        refine g_pure (c' := (55, [(0, .ref l0), (1, .int l1), (2, .int l2), (3, .int l3), (4, .int l4)], [.int v10], (jE0, M))) 1 rfl ?_
        exact (c111_55 (f111_7 M n) (c111_7 n) l0 l1 l2 l3 l4 v10 pl0)
    · refine g_pure (c' := (106, [(0, .ref l0), (1, .int l1), (2, .int l2), (3, .int l3), (4, .int l4)], [.int l3], (jE0, M))) 1 rfl ?_
      exact g_ret rfl rfl (fun _ h => h)
/-- CometKin.nearestLiving -/
def f111 (M : JM) (l0 : Nat) (l1 : Int32) : Option Int32 := (f111_7 M 1000 l0 l1 (-1 : Int32) (0 : Int32) (0 : Int32))
set_option maxRecDepth 100000 in
theorem c111 {xs : Option (List Int32)} {M : JM} (l0 : Nat) (l1 : Int32) (pl0 : jok jE0 l0 6 = true) : JG xs 3 111 (f111 M l0 l1) (fun x r => r = (some (.int x), (jE0, M))) (0, [(0, .ref l0), (1, .int l1)], [], (jE0, M)) := by
    unfold f111
    refine g_pure (c' := (7, [(4, .int (0 : Int32)), (3, .int (0 : Int32)), (2, .int (-1 : Int32)), (0, .ref l0), (1, .int l1)], [], (jE0, M))) 6 rfl ?_
    refine g_weakk (lv := [(0, .ref l0), (1, .int l1), (2, .int (-1 : Int32)), (3, .int (0 : Int32)), (4, .int (0 : Int32))]) ⟨rfl, rfl, rfl, rfl, rfl, trivial⟩ [0, 1, 2, 3, 4] rfl (by decide) [4, 3, 2, 0, 1] rfl (by decide) ?_
    exact (c111_7 1000 l0 l1 (-1 : Int32) (0 : Int32) (0 : Int32) pl0)
/-- Integer.bitCount -/
def f207  (l0 : Int32) : Option Int32 := (some ((((((((l0 - ((((l0).toUInt32 >>> (((1 : Int32)).toUInt32 &&& Int32.toUInt32 31)).toInt32) &&& (1431655765 : Int32))) &&& (858993459 : Int32)) + (((((l0 - ((((l0).toUInt32 >>> (((1 : Int32)).toUInt32 &&& Int32.toUInt32 31)).toInt32) &&& (1431655765 : Int32)))).toUInt32 >>> (((2 : Int32)).toUInt32 &&& Int32.toUInt32 31)).toInt32) &&& (858993459 : Int32))) + ((((((l0 - ((((l0).toUInt32 >>> (((1 : Int32)).toUInt32 &&& Int32.toUInt32 31)).toInt32) &&& (1431655765 : Int32))) &&& (858993459 : Int32)) + (((((l0 - ((((l0).toUInt32 >>> (((1 : Int32)).toUInt32 &&& Int32.toUInt32 31)).toInt32) &&& (1431655765 : Int32)))).toUInt32 >>> (((2 : Int32)).toUInt32 &&& Int32.toUInt32 31)).toInt32) &&& (858993459 : Int32)))).toUInt32 >>> (((4 : Int32)).toUInt32 &&& Int32.toUInt32 31)).toInt32)) &&& (252645135 : Int32)) + ((((((((l0 - ((((l0).toUInt32 >>> (((1 : Int32)).toUInt32 &&& Int32.toUInt32 31)).toInt32) &&& (1431655765 : Int32))) &&& (858993459 : Int32)) + (((((l0 - ((((l0).toUInt32 >>> (((1 : Int32)).toUInt32 &&& Int32.toUInt32 31)).toInt32) &&& (1431655765 : Int32)))).toUInt32 >>> (((2 : Int32)).toUInt32 &&& Int32.toUInt32 31)).toInt32) &&& (858993459 : Int32))) + ((((((l0 - ((((l0).toUInt32 >>> (((1 : Int32)).toUInt32 &&& Int32.toUInt32 31)).toInt32) &&& (1431655765 : Int32))) &&& (858993459 : Int32)) + (((((l0 - ((((l0).toUInt32 >>> (((1 : Int32)).toUInt32 &&& Int32.toUInt32 31)).toInt32) &&& (1431655765 : Int32)))).toUInt32 >>> (((2 : Int32)).toUInt32 &&& Int32.toUInt32 31)).toInt32) &&& (858993459 : Int32)))).toUInt32 >>> (((4 : Int32)).toUInt32 &&& Int32.toUInt32 31)).toInt32)) &&& (252645135 : Int32))).toUInt32 >>> (((8 : Int32)).toUInt32 &&& Int32.toUInt32 31)).toInt32)) + (((((((((l0 - ((((l0).toUInt32 >>> (((1 : Int32)).toUInt32 &&& Int32.toUInt32 31)).toInt32) &&& (1431655765 : Int32))) &&& (858993459 : Int32)) + (((((l0 - ((((l0).toUInt32 >>> (((1 : Int32)).toUInt32 &&& Int32.toUInt32 31)).toInt32) &&& (1431655765 : Int32)))).toUInt32 >>> (((2 : Int32)).toUInt32 &&& Int32.toUInt32 31)).toInt32) &&& (858993459 : Int32))) + ((((((l0 - ((((l0).toUInt32 >>> (((1 : Int32)).toUInt32 &&& Int32.toUInt32 31)).toInt32) &&& (1431655765 : Int32))) &&& (858993459 : Int32)) + (((((l0 - ((((l0).toUInt32 >>> (((1 : Int32)).toUInt32 &&& Int32.toUInt32 31)).toInt32) &&& (1431655765 : Int32)))).toUInt32 >>> (((2 : Int32)).toUInt32 &&& Int32.toUInt32 31)).toInt32) &&& (858993459 : Int32)))).toUInt32 >>> (((4 : Int32)).toUInt32 &&& Int32.toUInt32 31)).toInt32)) &&& (252645135 : Int32)) + ((((((((l0 - ((((l0).toUInt32 >>> (((1 : Int32)).toUInt32 &&& Int32.toUInt32 31)).toInt32) &&& (1431655765 : Int32))) &&& (858993459 : Int32)) + (((((l0 - ((((l0).toUInt32 >>> (((1 : Int32)).toUInt32 &&& Int32.toUInt32 31)).toInt32) &&& (1431655765 : Int32)))).toUInt32 >>> (((2 : Int32)).toUInt32 &&& Int32.toUInt32 31)).toInt32) &&& (858993459 : Int32))) + ((((((l0 - ((((l0).toUInt32 >>> (((1 : Int32)).toUInt32 &&& Int32.toUInt32 31)).toInt32) &&& (1431655765 : Int32))) &&& (858993459 : Int32)) + (((((l0 - ((((l0).toUInt32 >>> (((1 : Int32)).toUInt32 &&& Int32.toUInt32 31)).toInt32) &&& (1431655765 : Int32)))).toUInt32 >>> (((2 : Int32)).toUInt32 &&& Int32.toUInt32 31)).toInt32) &&& (858993459 : Int32)))).toUInt32 >>> (((4 : Int32)).toUInt32 &&& Int32.toUInt32 31)).toInt32)) &&& (252645135 : Int32))).toUInt32 >>> (((8 : Int32)).toUInt32 &&& Int32.toUInt32 31)).toInt32))).toUInt32 >>> (((16 : Int32)).toUInt32 &&& Int32.toUInt32 31)).toInt32)) &&& (63 : Int32)))
set_option maxRecDepth 100000 in
theorem c207 {xs : Option (List Int32)} {M : JM} (l0 : Int32) : JG xs 0 207 (f207 l0) (fun x r => r = (some (.int x), (jE0, M))) (0, [(0, .int l0)], [], (jE0, M)) := by
    unfold f207
    refine g_pure (c' := (52, [(0, .int (((((((l0 - ((((l0).toUInt32 >>> (((1 : Int32)).toUInt32 &&& Int32.toUInt32 31)).toInt32) &&& (1431655765 : Int32))) &&& (858993459 : Int32)) + (((((l0 - ((((l0).toUInt32 >>> (((1 : Int32)).toUInt32 &&& Int32.toUInt32 31)).toInt32) &&& (1431655765 : Int32)))).toUInt32 >>> (((2 : Int32)).toUInt32 &&& Int32.toUInt32 31)).toInt32) &&& (858993459 : Int32))) + ((((((l0 - ((((l0).toUInt32 >>> (((1 : Int32)).toUInt32 &&& Int32.toUInt32 31)).toInt32) &&& (1431655765 : Int32))) &&& (858993459 : Int32)) + (((((l0 - ((((l0).toUInt32 >>> (((1 : Int32)).toUInt32 &&& Int32.toUInt32 31)).toInt32) &&& (1431655765 : Int32)))).toUInt32 >>> (((2 : Int32)).toUInt32 &&& Int32.toUInt32 31)).toInt32) &&& (858993459 : Int32)))).toUInt32 >>> (((4 : Int32)).toUInt32 &&& Int32.toUInt32 31)).toInt32)) &&& (252645135 : Int32)) + ((((((((l0 - ((((l0).toUInt32 >>> (((1 : Int32)).toUInt32 &&& Int32.toUInt32 31)).toInt32) &&& (1431655765 : Int32))) &&& (858993459 : Int32)) + (((((l0 - ((((l0).toUInt32 >>> (((1 : Int32)).toUInt32 &&& Int32.toUInt32 31)).toInt32) &&& (1431655765 : Int32)))).toUInt32 >>> (((2 : Int32)).toUInt32 &&& Int32.toUInt32 31)).toInt32) &&& (858993459 : Int32))) + ((((((l0 - ((((l0).toUInt32 >>> (((1 : Int32)).toUInt32 &&& Int32.toUInt32 31)).toInt32) &&& (1431655765 : Int32))) &&& (858993459 : Int32)) + (((((l0 - ((((l0).toUInt32 >>> (((1 : Int32)).toUInt32 &&& Int32.toUInt32 31)).toInt32) &&& (1431655765 : Int32)))).toUInt32 >>> (((2 : Int32)).toUInt32 &&& Int32.toUInt32 31)).toInt32) &&& (858993459 : Int32)))).toUInt32 >>> (((4 : Int32)).toUInt32 &&& Int32.toUInt32 31)).toInt32)) &&& (252645135 : Int32))).toUInt32 >>> (((8 : Int32)).toUInt32 &&& Int32.toUInt32 31)).toInt32)) + (((((((((l0 - ((((l0).toUInt32 >>> (((1 : Int32)).toUInt32 &&& Int32.toUInt32 31)).toInt32) &&& (1431655765 : Int32))) &&& (858993459 : Int32)) + (((((l0 - ((((l0).toUInt32 >>> (((1 : Int32)).toUInt32 &&& Int32.toUInt32 31)).toInt32) &&& (1431655765 : Int32)))).toUInt32 >>> (((2 : Int32)).toUInt32 &&& Int32.toUInt32 31)).toInt32) &&& (858993459 : Int32))) + ((((((l0 - ((((l0).toUInt32 >>> (((1 : Int32)).toUInt32 &&& Int32.toUInt32 31)).toInt32) &&& (1431655765 : Int32))) &&& (858993459 : Int32)) + (((((l0 - ((((l0).toUInt32 >>> (((1 : Int32)).toUInt32 &&& Int32.toUInt32 31)).toInt32) &&& (1431655765 : Int32)))).toUInt32 >>> (((2 : Int32)).toUInt32 &&& Int32.toUInt32 31)).toInt32) &&& (858993459 : Int32)))).toUInt32 >>> (((4 : Int32)).toUInt32 &&& Int32.toUInt32 31)).toInt32)) &&& (252645135 : Int32)) + ((((((((l0 - ((((l0).toUInt32 >>> (((1 : Int32)).toUInt32 &&& Int32.toUInt32 31)).toInt32) &&& (1431655765 : Int32))) &&& (858993459 : Int32)) + (((((l0 - ((((l0).toUInt32 >>> (((1 : Int32)).toUInt32 &&& Int32.toUInt32 31)).toInt32) &&& (1431655765 : Int32)))).toUInt32 >>> (((2 : Int32)).toUInt32 &&& Int32.toUInt32 31)).toInt32) &&& (858993459 : Int32))) + ((((((l0 - ((((l0).toUInt32 >>> (((1 : Int32)).toUInt32 &&& Int32.toUInt32 31)).toInt32) &&& (1431655765 : Int32))) &&& (858993459 : Int32)) + (((((l0 - ((((l0).toUInt32 >>> (((1 : Int32)).toUInt32 &&& Int32.toUInt32 31)).toInt32) &&& (1431655765 : Int32)))).toUInt32 >>> (((2 : Int32)).toUInt32 &&& Int32.toUInt32 31)).toInt32) &&& (858993459 : Int32)))).toUInt32 >>> (((4 : Int32)).toUInt32 &&& Int32.toUInt32 31)).toInt32)) &&& (252645135 : Int32))).toUInt32 >>> (((8 : Int32)).toUInt32 &&& Int32.toUInt32 31)).toInt32))).toUInt32 >>> (((16 : Int32)).toUInt32 &&& Int32.toUInt32 31)).toInt32)))], [.int ((((((((l0 - ((((l0).toUInt32 >>> (((1 : Int32)).toUInt32 &&& Int32.toUInt32 31)).toInt32) &&& (1431655765 : Int32))) &&& (858993459 : Int32)) + (((((l0 - ((((l0).toUInt32 >>> (((1 : Int32)).toUInt32 &&& Int32.toUInt32 31)).toInt32) &&& (1431655765 : Int32)))).toUInt32 >>> (((2 : Int32)).toUInt32 &&& Int32.toUInt32 31)).toInt32) &&& (858993459 : Int32))) + ((((((l0 - ((((l0).toUInt32 >>> (((1 : Int32)).toUInt32 &&& Int32.toUInt32 31)).toInt32) &&& (1431655765 : Int32))) &&& (858993459 : Int32)) + (((((l0 - ((((l0).toUInt32 >>> (((1 : Int32)).toUInt32 &&& Int32.toUInt32 31)).toInt32) &&& (1431655765 : Int32)))).toUInt32 >>> (((2 : Int32)).toUInt32 &&& Int32.toUInt32 31)).toInt32) &&& (858993459 : Int32)))).toUInt32 >>> (((4 : Int32)).toUInt32 &&& Int32.toUInt32 31)).toInt32)) &&& (252645135 : Int32)) + ((((((((l0 - ((((l0).toUInt32 >>> (((1 : Int32)).toUInt32 &&& Int32.toUInt32 31)).toInt32) &&& (1431655765 : Int32))) &&& (858993459 : Int32)) + (((((l0 - ((((l0).toUInt32 >>> (((1 : Int32)).toUInt32 &&& Int32.toUInt32 31)).toInt32) &&& (1431655765 : Int32)))).toUInt32 >>> (((2 : Int32)).toUInt32 &&& Int32.toUInt32 31)).toInt32) &&& (858993459 : Int32))) + ((((((l0 - ((((l0).toUInt32 >>> (((1 : Int32)).toUInt32 &&& Int32.toUInt32 31)).toInt32) &&& (1431655765 : Int32))) &&& (858993459 : Int32)) + (((((l0 - ((((l0).toUInt32 >>> (((1 : Int32)).toUInt32 &&& Int32.toUInt32 31)).toInt32) &&& (1431655765 : Int32)))).toUInt32 >>> (((2 : Int32)).toUInt32 &&& Int32.toUInt32 31)).toInt32) &&& (858993459 : Int32)))).toUInt32 >>> (((4 : Int32)).toUInt32 &&& Int32.toUInt32 31)).toInt32)) &&& (252645135 : Int32))).toUInt32 >>> (((8 : Int32)).toUInt32 &&& Int32.toUInt32 31)).toInt32)) + (((((((((l0 - ((((l0).toUInt32 >>> (((1 : Int32)).toUInt32 &&& Int32.toUInt32 31)).toInt32) &&& (1431655765 : Int32))) &&& (858993459 : Int32)) + (((((l0 - ((((l0).toUInt32 >>> (((1 : Int32)).toUInt32 &&& Int32.toUInt32 31)).toInt32) &&& (1431655765 : Int32)))).toUInt32 >>> (((2 : Int32)).toUInt32 &&& Int32.toUInt32 31)).toInt32) &&& (858993459 : Int32))) + ((((((l0 - ((((l0).toUInt32 >>> (((1 : Int32)).toUInt32 &&& Int32.toUInt32 31)).toInt32) &&& (1431655765 : Int32))) &&& (858993459 : Int32)) + (((((l0 - ((((l0).toUInt32 >>> (((1 : Int32)).toUInt32 &&& Int32.toUInt32 31)).toInt32) &&& (1431655765 : Int32)))).toUInt32 >>> (((2 : Int32)).toUInt32 &&& Int32.toUInt32 31)).toInt32) &&& (858993459 : Int32)))).toUInt32 >>> (((4 : Int32)).toUInt32 &&& Int32.toUInt32 31)).toInt32)) &&& (252645135 : Int32)) + ((((((((l0 - ((((l0).toUInt32 >>> (((1 : Int32)).toUInt32 &&& Int32.toUInt32 31)).toInt32) &&& (1431655765 : Int32))) &&& (858993459 : Int32)) + (((((l0 - ((((l0).toUInt32 >>> (((1 : Int32)).toUInt32 &&& Int32.toUInt32 31)).toInt32) &&& (1431655765 : Int32)))).toUInt32 >>> (((2 : Int32)).toUInt32 &&& Int32.toUInt32 31)).toInt32) &&& (858993459 : Int32))) + ((((((l0 - ((((l0).toUInt32 >>> (((1 : Int32)).toUInt32 &&& Int32.toUInt32 31)).toInt32) &&& (1431655765 : Int32))) &&& (858993459 : Int32)) + (((((l0 - ((((l0).toUInt32 >>> (((1 : Int32)).toUInt32 &&& Int32.toUInt32 31)).toInt32) &&& (1431655765 : Int32)))).toUInt32 >>> (((2 : Int32)).toUInt32 &&& Int32.toUInt32 31)).toInt32) &&& (858993459 : Int32)))).toUInt32 >>> (((4 : Int32)).toUInt32 &&& Int32.toUInt32 31)).toInt32)) &&& (252645135 : Int32))).toUInt32 >>> (((8 : Int32)).toUInt32 &&& Int32.toUInt32 31)).toInt32))).toUInt32 >>> (((16 : Int32)).toUInt32 &&& Int32.toUInt32 31)).toInt32)) &&& (63 : Int32))], (jE0, M))) 41 rfl ?_
    exact g_ret rfl rfl (fun _ h => h)
def f112_47 (h14 : Nat → Int32 → Int32 → Int32 → Int32 → JM → Option (Int32 × JM)) (l0 : Nat) (l1 : Int32) (l2 : Int32) (l3 : Int32) (l4 : Int32) (M : JM) : Option (Int32 × JM) := (h14 l0 l1 l2 l3 (l4 + (1 : Int32)) M)
set_option maxRecDepth 100000 in
theorem c112_47 {xs : Option (List Int32)} (h14 : Nat → Int32 → Int32 → Int32 → Int32 → JM → Option (Int32 × JM)) (H14 : ∀ (l0 : Nat) (l1 : Int32) (l2 : Int32) (l3 : Int32) (l4 : Int32) (M : JM) (pl0 : jok jE0 l0 6 = true), JG xs 3 112 (h14 l0 l1 l2 l3 l4 M) (fun x r => r = (some (.int x.1), (jE0, x.2))) (14, [(0, .ref l0), (1, .int l1), (2, .int l2), (3, .int l3), (4, .int l4)], [], (jE0, M))) : ∀ (l0 : Nat) (l1 : Int32) (l2 : Int32) (l3 : Int32) (l4 : Int32) (M : JM) (pl0 : jok jE0 l0 6 = true), JG xs 3 112 (f112_47 h14 l0 l1 l2 l3 l4 M) (fun x r => r = (some (.int x.1), (jE0, x.2))) (47, [(0, .ref l0), (1, .int l1), (2, .int l2), (3, .int l3), (4, .int l4)], [], (jE0, M)) := by
    intro l0 l1 l2 l3 l4 M pl0
    unfold f112_47
    refine g_pure (c' := (14, [(4, .int (l4 + (1 : Int32))), (0, .ref l0), (1, .int l1), (2, .int l2), (3, .int l3)], [], (jE0, M))) 2 rfl ?_
    refine g_weakk (lv := [(0, .ref l0), (1, .int l1), (2, .int l2), (3, .int l3), (4, .int (l4 + (1 : Int32)))]) ⟨rfl, rfl, rfl, rfl, rfl, trivial⟩ [0, 1, 2, 3, 4] rfl (by decide) [4, 0, 1, 2, 3] rfl (by decide) ?_
    exact (H14 l0 l1 l2 l3 (l4 + (1 : Int32)) M pl0)
def f112_14  : Nat → Nat → Int32 → Int32 → Int32 → Int32 → JM → Option (Int32 × JM)
  | 0, _, _, _, _, _, _ => none
  | n + 1, l0, l1, l2, l3, l4, M => (if l4 < (M (jpt l0 1) 0) then ((f101 l2 l4).bind fun v4 => (if v4 = (0 : Int32) then (f112_47 (f112_14 n) l0 l1 l2 l3 l4 M) else ((jdv l1 l3).bind fun v6 => ((f38 (jpt l0 3) l4 v6 M).bind fun M7 => (f112_47 (f112_14 n) l0 l1 l2 l3 l4 M7))))) else (some (l3, M)))
set_option maxRecDepth 100000 in
theorem c112_14 {xs : Option (List Int32)} : ∀ (n : Nat) (l0 : Nat) (l1 : Int32) (l2 : Int32) (l3 : Int32) (l4 : Int32) (M : JM) (pl0 : jok jE0 l0 6 = true), JG xs 3 112 (f112_14 n l0 l1 l2 l3 l4 M) (fun x r => r = (some (.int x.1), (jE0, x.2))) (14, [(0, .ref l0), (1, .int l1), (2, .int l2), (3, .int l3), (4, .int l4)], [], (jE0, M))
  | 0, _, _, _, _, _, _, _ => by rw [f112_14]; exact g_none
  | n + 1, l0, l1, l2, l3, l4, M, pl0 => by
    rw [f112_14]
    refine g_pure (c' := (17, [(0, .ref l0), (1, .int l1), (2, .int l2), (3, .int l3), (4, .int l4)], [.ref l0, .int l4], (jE0, M))) 2 rfl ?_
    refine g_gp rfl rfl rfl pl0 (jp_ok (kd := 0) pl0 (by decide) (by decide) rfl rfl).1 ?_
    refine g_gf (ci := 0) (k := 0) rfl rfl rfl (jk_ok (kd := 0) pl0 (by decide) (by decide) rfl rfl) ?_
    refine g_ic_ge (tgt := 53) rfl rfl (fun q3 => ?_) (fun q3 => ?_)
    · refine g_pure (c' := (29, [(0, .ref l0), (1, .int l1), (2, .int l2), (3, .int l3), (4, .int l4)], [.int l4, .int l2], (jE0, M))) 2 rfl ?_
      refine g_cI rfl (jc_s rfl rfl) (c101 l2 l4) (by decide) (fun v4 qv4 => ?_)
      refine g_if_eq (tgt := 47) rfl rfl (fun q5 => ?_) (fun q5 => ?_)
      · exact (c112_47 (f112_14 n) (c112_14 n) l0 l1 l2 l3 l4 M pl0)
      · refine g_pure (c' := (36, [(0, .ref l0), (1, .int l1), (2, .int l2), (3, .int l3), (4, .int l4)], [.ref l0], (jE0, M))) 1 rfl ?_
        refine g_gp rfl rfl rfl pl0 (jp_ok (kd := 2) pl0 (by decide) (by decide) rfl rfl).1 ?_
        refine g_pure (c' := (43, [(0, .ref l0), (1, .int l1), (2, .int l2), (3, .int l3), (4, .int l4)], [.int l3, .int l1, .int l4, .ref (jpt l0 3)], (jE0, M))) 3 rfl ?_
        refine g_d1 rfl (fun v6 => ?_)
        refine g_wV rfl (jc_v rfl rfl (jv_o (jk_ok (kd := 2) pl0 (by decide) (by decide) rfl rfl) rfl) rfl) (c38 (jpt l0 3) l4 v6 M (jk_ok (kd := 2) pl0 (by decide) (by decide) rfl rfl)) (by decide) (fun M7 => ?_)
        exact (c112_47 (f112_14 n) (c112_14 n) l0 l1 l2 l3 l4 M7 pl0)
    · refine g_pure (c' := (54, [(0, .ref l0), (1, .int l1), (2, .int l2), (3, .int l3), (4, .int l4)], [.int l3], (jE0, M))) 1 rfl ?_
      exact g_ret rfl rfl (fun _ h => h)
/-- CometKin.shareOut -/
def f112  (l0 : Nat) (l1 : Int32) (l2 : Int32) (M : JM) : Option (Int32 × JM) := ((f207 l2).bind fun v1 => (if v1 = (0 : Int32) then (some ((0 : Int32), M)) else (f112_14 1000 l0 l1 l2 v1 (0 : Int32) M)))
set_option maxRecDepth 100000 in
theorem c112 {xs : Option (List Int32)} (l0 : Nat) (l1 : Int32) (l2 : Int32) (M : JM) (pl0 : jok jE0 l0 6 = true) : JG xs 3 112 (f112 l0 l1 l2 M) (fun x r => r = (some (.int x.1), (jE0, x.2))) (0, [(0, .ref l0), (1, .int l1), (2, .int l2)], [], (jE0, M)) := by
    unfold f112
    refine g_pure (c' := (1, [(0, .ref l0), (1, .int l1), (2, .int l2)], [.int l2], (jE0, M))) 1 rfl ?_
    refine g_cI rfl (jc_s rfl rfl) (c207 l2) (by decide) (fun v1 qv1 => ?_)
    refine g_pure (c' := (6, [(3, .int v1), (0, .ref l0), (1, .int l1), (2, .int l2)], [.int v1], (jE0, M))) 2 rfl ?_
    refine g_if_ne (tgt := 11) rfl rfl (fun q2 => ?_) (fun q2 => ?_)
    · refine g_pure (c' := (10, [(3, .int v1), (0, .ref l0), (1, .int l1), (2, .int l2)], [.int (0 : Int32)], (jE0, M))) 1 rfl ?_
      exact g_ret rfl rfl (fun _ h => h)
    · refine g_pure (c' := (14, [(4, .int (0 : Int32)), (3, .int v1), (0, .ref l0), (1, .int l1), (2, .int l2)], [], (jE0, M))) 2 rfl ?_
      refine g_weakk (lv := [(0, .ref l0), (1, .int l1), (2, .int l2), (3, .int v1), (4, .int (0 : Int32))]) ⟨rfl, rfl, rfl, rfl, rfl, trivial⟩ [0, 1, 2, 3, 4] rfl (by decide) [4, 3, 0, 1, 2] rfl (by decide) ?_
      exact (c112_14 1000 l0 l1 l2 v1 (0 : Int32) M pl0)
def f81_120  (l0 : Nat) (l1 : Int32) (l2 : Int32) (M : JM) : Option (Int32 × JM) := ((f111 M l0 l1).bind fun v16 => ((f112 l0 l2 v16 M).bind fun z19 => (some (z19.1, z19.2))))
set_option maxRecDepth 100000 in
theorem c81_120 {xs : Option (List Int32)} : ∀ (l0 : Nat) (l1 : Int32) (l2 : Int32) (M : JM) (pl0 : jok jE0 l0 6 = true), JG xs 5 81 (f81_120 l0 l1 l2 M) (fun x r => r = (some (.int x.1), (jE0, x.2))) (120, [(0, .ref l0), (1, .int l1), (2, .int l2)], [], (jE0, M)) := by
    intro l0 l1 l2 M pl0
    unfold f81_120
    refine g_pure (c' := (124, [(0, .ref l0), (1, .int l1), (2, .int l2)], [.int l1, .ref l0, .int l2, .ref l0], (jE0, M))) 4 rfl ?_
    refine g_cI rfl (jc_v rfl rfl (jv_o pl0 rfl) rfl) (c111 l0 l1 pl0) (by decide) (fun v16 qv16 => ?_)
    refine g_wI rfl (jc_v rfl rfl (jv_o pl0 rfl) rfl) (c112 l0 l2 v16 M pl0) (by decide) (fun v18 M17 qv18 => ?_)
    exact g_ret rfl rfl (fun _ h => h)
/-- CometKin.die -/
def f81  (l0 : Nat) (l1 : Int32) (M : JM) : Option (Int32 × JM) := ((f3 M (jpt l0 1) l1).bind fun v1 => (if v1 = (0 : Int32) then (some ((-2 : Int32), M)) else ((f101 (M (jpt l0 3) 1) l1).bind fun v3 => (if v3 = (0 : Int32) then (some ((-4 : Int32), M)) else ((f42 M (jpt (jpt l0 1) 4) l1).bind fun v5 => (if (M (jpt l0 3) 0) < v5 then (some ((-4 : Int32), M)) else ((f105 l0 M).bind fun M7 => ((f42 M7 (jpt (jpt l0 3) 5) l1).bind fun v8 => ((f42 M7 (jpt (jpt l0 3) 4) l1).bind fun v9 => ((f40 (jpt l0 3) l1 M7).bind fun M10 => ((f42 M10 (jpt (jpt l0 1) 3) v9).bind fun v11 => (if v11 = (2 : Int32) then ((jdv v8 (2 : Int32)).bind fun v13 => ((f38 (jpt l0 3) v9 v13 M10).bind fun M14 => ((jdv v8 (2 : Int32)).bind fun v15 => (f81_120 l0 l1 (v8 - v15) M14)))) else (f81_120 l0 l1 v8 M10)))))))))))))
set_option maxRecDepth 100000 in
theorem c81 {xs : Option (List Int32)} (l0 : Nat) (l1 : Int32) (M : JM) (pl0 : jok jE0 l0 6 = true) : JG xs 5 81 (f81 l0 l1 M) (fun x r => r = (some (.int x.1), (jE0, x.2))) (0, [(0, .ref l0), (1, .int l1)], [], (jE0, M)) := by
    unfold f81
    refine g_pure (c' := (1, [(0, .ref l0), (1, .int l1)], [.ref l0], (jE0, M))) 1 rfl ?_
    refine g_gp rfl rfl rfl pl0 (jp_ok (kd := 0) pl0 (by decide) (by decide) rfl rfl).1 ?_
    refine g_pure (c' := (5, [(0, .ref l0), (1, .int l1)], [.int l1, .ref (jpt l0 1)], (jE0, M))) 1 rfl ?_
    refine g_cI rfl (jc_v rfl rfl (jv_o (jk_ok (kd := 0) pl0 (by decide) (by decide) rfl rfl) rfl) rfl) (c3 (jpt l0 1) l1 (jk_ok (kd := 0) pl0 (by decide) (by decide) rfl rfl)) (by decide) (fun v1 qv1 => ?_)
    refine g_if_ne (tgt := 14) rfl rfl (fun q2 => ?_) (fun q2 => ?_)
    · refine g_pure (c' := (13, [(0, .ref l0), (1, .int l1)], [.int (-2 : Int32)], (jE0, M))) 1 rfl ?_
      exact g_ret rfl rfl (fun _ h => h)
    · refine g_pure (c' := (15, [(0, .ref l0), (1, .int l1)], [.ref l0], (jE0, M))) 1 rfl ?_
      refine g_gp rfl rfl rfl pl0 (jp_ok (kd := 2) pl0 (by decide) (by decide) rfl rfl).1 ?_
      refine g_gf (ci := 2) (k := 1) rfl rfl rfl (jk_ok (kd := 2) pl0 (by decide) (by decide) rfl rfl) ?_
      refine g_pure (c' := (22, [(0, .ref l0), (1, .int l1)], [.int l1, .int (M (jpt l0 3) 1)], (jE0, M))) 1 rfl ?_
      refine g_cI rfl (jc_s rfl rfl) (c101 (M (jpt l0 3) 1) l1) (by decide) (fun v3 qv3 => ?_)
      refine g_if_eq (tgt := 49) rfl rfl (fun q4 => ?_) (fun q4 => ?_)
      · refine g_pure (c' := (51, [(0, .ref l0), (1, .int l1)], [.int (-4 : Int32)], (jE0, M))) 1 rfl ?_
        exact g_ret rfl rfl (fun _ h => h)
      · refine g_pure (c' := (29, [(0, .ref l0), (1, .int l1)], [.ref l0], (jE0, M))) 1 rfl ?_
        refine g_gp rfl rfl rfl pl0 (jp_ok (kd := 0) pl0 (by decide) (by decide) rfl rfl).1 ?_
        refine g_gp rfl rfl rfl (jk_ok (kd := 0) pl0 (by decide) (by decide) rfl rfl) (jp_ok (kd := 3) (jk_ok (kd := 0) pl0 (by decide) (by decide) rfl rfl) (by decide) (by decide) rfl rfl).1 ?_
        refine g_pure (c' := (36, [(0, .ref l0), (1, .int l1)], [.int l1, .ref (jpt (jpt l0 1) 4)], (jE0, M))) 1 rfl ?_
        refine g_cI rfl (jc_v rfl rfl (jv_o (jk_ok (kd := 3) (jk_ok (kd := 0) pl0 (by decide) (by decide) rfl rfl) (by decide) (by decide) rfl rfl) rfl) rfl) (c42 (jpt (jpt l0 1) 4) l1 (jk_ok (kd := 3) (jk_ok (kd := 0) pl0 (by decide) (by decide) rfl rfl) (by decide) (by decide) rfl rfl)) (by decide) (fun v5 qv5 => ?_)
        refine g_pure (c' := (40, [(0, .ref l0), (1, .int l1)], [.ref l0, .int v5], (jE0, M))) 1 rfl ?_
        refine g_gp rfl rfl rfl pl0 (jp_ok (kd := 2) pl0 (by decide) (by decide) rfl rfl).1 ?_
        refine g_gf (ci := 2) (k := 0) rfl rfl rfl (jk_ok (kd := 2) pl0 (by decide) (by decide) rfl rfl) ?_
        refine g_ic_le (tgt := 52) rfl rfl (fun q6 => ?_) (fun q6 => ?_)
        · refine g_pure (c' := (51, [(0, .ref l0), (1, .int l1)], [.int (-4 : Int32)], (jE0, M))) 1 rfl ?_
          exact g_ret rfl rfl (fun _ h => h)
        · refine g_pure (c' := (53, [(0, .ref l0), (1, .int l1)], [.ref l0], (jE0, M))) 1 rfl ?_
          refine g_wV rfl (jc_v rfl rfl (jv_o pl0 rfl) rfl) (c105 l0 M pl0) (by decide) (fun M7 => ?_)
          refine g_pure (c' := (57, [(0, .ref l0), (1, .int l1)], [.ref l0], (jE0, M7))) 1 rfl ?_
          refine g_gp rfl rfl rfl pl0 (jp_ok (kd := 2) pl0 (by decide) (by decide) rfl rfl).1 ?_
          refine g_gp rfl rfl rfl (jk_ok (kd := 2) pl0 (by decide) (by decide) rfl rfl) (jp_ok (kd := 3) (jk_ok (kd := 2) pl0 (by decide) (by decide) rfl rfl) (by decide) (by decide) rfl rfl).1 ?_
          refine g_pure (c' := (64, [(0, .ref l0), (1, .int l1)], [.int l1, .ref (jpt (jpt l0 3) 5)], (jE0, M7))) 1 rfl ?_
          refine g_cI rfl (jc_v rfl rfl (jv_o (jk_ok (kd := 3) (jk_ok (kd := 2) pl0 (by decide) (by decide) rfl rfl) (by decide) (by decide) rfl rfl) rfl) rfl) (c42 (jpt (jpt l0 3) 5) l1 (jk_ok (kd := 3) (jk_ok (kd := 2) pl0 (by decide) (by decide) rfl rfl) (by decide) (by decide) rfl rfl)) (by decide) (fun v8 qv8 => ?_)
          refine g_pure (c' := (69, [(2, .int v8), (0, .ref l0), (1, .int l1)], [.ref l0], (jE0, M7))) 2 rfl ?_
          refine g_gp rfl rfl rfl pl0 (jp_ok (kd := 2) pl0 (by decide) (by decide) rfl rfl).1 ?_
          refine g_gp rfl rfl rfl (jk_ok (kd := 2) pl0 (by decide) (by decide) rfl rfl) (jp_ok (kd := 3) (jk_ok (kd := 2) pl0 (by decide) (by decide) rfl rfl) (by decide) (by decide) rfl rfl).1 ?_
          refine g_pure (c' := (76, [(2, .int v8), (0, .ref l0), (1, .int l1)], [.int l1, .ref (jpt (jpt l0 3) 4)], (jE0, M7))) 1 rfl ?_
          refine g_cI rfl (jc_v rfl rfl (jv_o (jk_ok (kd := 3) (jk_ok (kd := 2) pl0 (by decide) (by decide) rfl rfl) (by decide) (by decide) rfl rfl) rfl) rfl) (c42 (jpt (jpt l0 3) 4) l1 (jk_ok (kd := 3) (jk_ok (kd := 2) pl0 (by decide) (by decide) rfl rfl) (by decide) (by decide) rfl rfl)) (by decide) (fun v9 qv9 => ?_)
          refine g_pure (c' := (81, [(3, .int v9), (2, .int v8), (0, .ref l0), (1, .int l1)], [.ref l0], (jE0, M7))) 2 rfl ?_
          refine g_gp rfl rfl rfl pl0 (jp_ok (kd := 2) pl0 (by decide) (by decide) rfl rfl).1 ?_
          refine g_pure (c' := (85, [(3, .int v9), (2, .int v8), (0, .ref l0), (1, .int l1)], [.int l1, .ref (jpt l0 3)], (jE0, M7))) 1 rfl ?_
          refine g_wV rfl (jc_v rfl rfl (jv_o (jk_ok (kd := 2) pl0 (by decide) (by decide) rfl rfl) rfl) rfl) (c40 (jpt l0 3) l1 M7 (jk_ok (kd := 2) pl0 (by decide) (by decide) rfl rfl)) (by decide) (fun M10 => ?_)
          refine g_pure (c' := (89, [(3, .int v9), (2, .int v8), (0, .ref l0), (1, .int l1)], [.ref l0], (jE0, M10))) 1 rfl ?_
          refine g_gp rfl rfl rfl pl0 (jp_ok (kd := 0) pl0 (by decide) (by decide) rfl rfl).1 ?_
          refine g_gp rfl rfl rfl (jk_ok (kd := 0) pl0 (by decide) (by decide) rfl rfl) (jp_ok (kd := 3) (jk_ok (kd := 0) pl0 (by decide) (by decide) rfl rfl) (by decide) (by decide) rfl rfl).1 ?_
          refine g_pure (c' := (96, [(3, .int v9), (2, .int v8), (0, .ref l0), (1, .int l1)], [.int v9, .ref (jpt (jpt l0 1) 3)], (jE0, M10))) 1 rfl ?_
          refine g_cI rfl (jc_v rfl rfl (jv_o (jk_ok (kd := 3) (jk_ok (kd := 0) pl0 (by decide) (by decide) rfl rfl) (by decide) (by decide) rfl rfl) rfl) rfl) (c42 (jpt (jpt l0 1) 3) v9 (jk_ok (kd := 3) (jk_ok (kd := 0) pl0 (by decide) (by decide) rfl rfl) (by decide) (by decide) rfl rfl)) (by decide) (fun v11 qv11 => ?_)
          refine g_pure (c' := (100, [(3, .int v9), (2, .int v8), (0, .ref l0), (1, .int l1)], [.int (2 : Int32), .int v11], (jE0, M10))) 1 rfl ?_
          refine g_ic_ne (tgt := 120) rfl rfl (fun q12 => ?_) (fun q12 => ?_)
          · refine g_pure (c' := (104, [(3, .int v9), (2, .int v8), (0, .ref l0), (1, .int l1)], [.ref l0], (jE0, M10))) 1 rfl ?_
            refine g_gp rfl rfl rfl pl0 (jp_ok (kd := 2) pl0 (by decide) (by decide) rfl rfl).1 ?_
            refine g_pure (c' := (110, [(3, .int v9), (2, .int v8), (0, .ref l0), (1, .int l1)], [.int (2 : Int32), .int v8, .int v9, .ref (jpt l0 3)], (jE0, M10))) 3 rfl ?_
            refine g_d1 rfl (fun v13 => ?_)
            refine g_wV rfl (jc_v rfl rfl (jv_o (jk_ok (kd := 2) pl0 (by decide) (by decide) rfl rfl) rfl) rfl) (c38 (jpt l0 3) v9 v13 M10 (jk_ok (kd := 2) pl0 (by decide) (by decide) rfl rfl)) (by decide) (fun M14 => ?_)
            refine g_pure (c' := (117, [(3, .int v9), (2, .int v8), (0, .ref l0), (1, .int l1)], [.int (2 : Int32), .int v8, .int v8], (jE0, M14))) 3 rfl ?_
            refine g_d1 rfl (fun v15 => ?_)
            refine g_pure (c' := (120, [(2, .int (v8 - v15)), (3, .int v9), (0, .ref l0), (1, .int l1)], [], (jE0, M14))) 2 rfl ?_
            refine g_weakk (lv := [(0, .ref l0), (1, .int l1), (2, .int (v8 - v15))]) ⟨rfl, rfl, rfl, trivial⟩ [0, 1, 2] rfl (by decide) [2, 3, 0, 1] rfl (by decide) ?_
            exact (c81_120 l0 l1 (v8 - v15) M14 pl0)
          · refine g_weakk (lv := [(0, .ref l0), (1, .int l1), (2, .int v8)]) ⟨rfl, rfl, rfl, trivial⟩ [0, 1, 2] rfl (by decide) [3, 2, 0, 1] rfl (by decide) ?_
            exact (c81_120 l0 l1 v8 M10 pl0)
def f177_117 (h8 : Nat → Int32 → Int32 → Int32 → Int32 → JM → Option (Int32 × JM)) (l0 : Nat) (l1 : Int32) (l3 : Int32) (l4 : Int32) (s0 : Int32) (M : JM) : Option (Int32 × JM) := (h8 l0 l1 s0 l3 (l4 + (1 : Int32)) M)
set_option maxRecDepth 100000 in
theorem c177_117 {xs : Option (List Int32)} (h8 : Nat → Int32 → Int32 → Int32 → Int32 → JM → Option (Int32 × JM)) (H8 : ∀ (l0 : Nat) (l1 : Int32) (l2 : Int32) (l3 : Int32) (l4 : Int32) (M : JM) (pl0 : jok jE0 l0 7 = true), JG xs 6 177 (h8 l0 l1 l2 l3 l4 M) (fun x r => r = (some (.int x.1), (jE0, x.2))) (8, [(0, .ref l0), (1, .int l1), (2, .int l2), (3, .int l3), (4, .int l4)], [], (jE0, M))) : ∀ (l0 : Nat) (l1 : Int32) (l3 : Int32) (l4 : Int32) (s0 : Int32) (M : JM) (pl0 : jok jE0 l0 7 = true), JG xs 6 177 (f177_117 h8 l0 l1 l3 l4 s0 M) (fun x r => r = (some (.int x.1), (jE0, x.2))) (117, [(0, .ref l0), (1, .int l1), (3, .int l3), (4, .int l4)], [.int s0], (jE0, M)) := by
    intro l0 l1 l3 l4 s0 M pl0
    unfold f177_117
    refine g_pure (c' := (8, [(4, .int (l4 + (1 : Int32))), (2, .int s0), (0, .ref l0), (1, .int l1), (3, .int l3)], [], (jE0, M))) 3 rfl ?_
    refine g_weakk (lv := [(0, .ref l0), (1, .int l1), (2, .int s0), (3, .int l3), (4, .int (l4 + (1 : Int32)))]) ⟨rfl, rfl, rfl, rfl, rfl, trivial⟩ [0, 1, 2, 3, 4] rfl (by decide) [4, 2, 0, 1, 3] rfl (by decide) ?_
    exact (H8 l0 l1 s0 l3 (l4 + (1 : Int32)) M pl0)
def f177_116 (h8 : Nat → Int32 → Int32 → Int32 → Int32 → JM → Option (Int32 × JM)) (l0 : Nat) (l1 : Int32) (l2 : Int32) (l3 : Int32) (l4 : Int32) (M : JM) : Option (Int32 × JM) := (f177_117 h8 l0 l1 l3 l4 l2 M)
set_option maxRecDepth 100000 in
theorem c177_116 {xs : Option (List Int32)} (h8 : Nat → Int32 → Int32 → Int32 → Int32 → JM → Option (Int32 × JM)) (H8 : ∀ (l0 : Nat) (l1 : Int32) (l2 : Int32) (l3 : Int32) (l4 : Int32) (M : JM) (pl0 : jok jE0 l0 7 = true), JG xs 6 177 (h8 l0 l1 l2 l3 l4 M) (fun x r => r = (some (.int x.1), (jE0, x.2))) (8, [(0, .ref l0), (1, .int l1), (2, .int l2), (3, .int l3), (4, .int l4)], [], (jE0, M))) : ∀ (l0 : Nat) (l1 : Int32) (l2 : Int32) (l3 : Int32) (l4 : Int32) (M : JM) (pl0 : jok jE0 l0 7 = true), JG xs 6 177 (f177_116 h8 l0 l1 l2 l3 l4 M) (fun x r => r = (some (.int x.1), (jE0, x.2))) (116, [(0, .ref l0), (1, .int l1), (2, .int l2), (3, .int l3), (4, .int l4)], [], (jE0, M)) := by
    intro l0 l1 l2 l3 l4 M pl0
    unfold f177_116
    refine g_pure (c' := (117, [(0, .ref l0), (1, .int l1), (2, .int l2), (3, .int l3), (4, .int l4)], [.int l2], (jE0, M))) 1 rfl ?_
    refine g_weakk (lv := [(0, .ref l0), (1, .int l1), (3, .int l3), (4, .int l4)]) ⟨rfl, rfl, rfl, rfl, trivial⟩ [0, 1, 3, 4] rfl (by decide) [0, 1, 2, 3, 4] rfl (by decide) ?_
    exact (c177_117 h8 H8 l0 l1 l3 l4 l2 M pl0)
def f177_98 (h8 : Nat → Int32 → Int32 → Int32 → Int32 → JM → Option (Int32 × JM)) (l0 : Nat) (l1 : Int32) (l2 : Int32) (l4 : Int32) (l5 : Int32) (s0 : Int32) (M : JM) : Option (Int32 × JM) := (if l5 = (-1 : Int32) then (f177_116 h8 l0 l1 l2 s0 l4 M) else (if l5 < l2 then (f177_117 h8 l0 l1 s0 l4 l5 M) else (f177_116 h8 l0 l1 l2 s0 l4 M)))
set_option maxRecDepth 100000 in
theorem c177_98 {xs : Option (List Int32)} (h8 : Nat → Int32 → Int32 → Int32 → Int32 → JM → Option (Int32 × JM)) (H8 : ∀ (l0 : Nat) (l1 : Int32) (l2 : Int32) (l3 : Int32) (l4 : Int32) (M : JM) (pl0 : jok jE0 l0 7 = true), JG xs 6 177 (h8 l0 l1 l2 l3 l4 M) (fun x r => r = (some (.int x.1), (jE0, x.2))) (8, [(0, .ref l0), (1, .int l1), (2, .int l2), (3, .int l3), (4, .int l4)], [], (jE0, M))) : ∀ (l0 : Nat) (l1 : Int32) (l2 : Int32) (l4 : Int32) (l5 : Int32) (s0 : Int32) (M : JM) (pl0 : jok jE0 l0 7 = true), JG xs 6 177 (f177_98 h8 l0 l1 l2 l4 l5 s0 M) (fun x r => r = (some (.int x.1), (jE0, x.2))) (98, [(0, .ref l0), (1, .int l1), (2, .int l2), (4, .int l4), (5, .int l5)], [.int s0], (jE0, M)) := by
    intro l0 l1 l2 l4 l5 s0 M pl0
    unfold f177_98
    refine g_pure (c' := (102, [(3, .int s0), (0, .ref l0), (1, .int l1), (2, .int l2), (4, .int l4), (5, .int l5)], [.int (-1 : Int32), .int l5], (jE0, M))) 3 rfl ?_
    refine g_ic_eq (tgt := 116) rfl rfl (fun q5 => ?_) (fun q5 => ?_)
    · refine g_weakk (lv := [(0, .ref l0), (1, .int l1), (2, .int l2), (3, .int s0), (4, .int l4)]) ⟨rfl, rfl, rfl, rfl, rfl, trivial⟩ [0, 1, 2, 3, 4] rfl (by decide) [3, 0, 1, 2, 4, 5] rfl (by decide) ?_
      exact (c177_116 h8 H8 l0 l1 l2 s0 l4 M pl0)
    · refine g_pure (c' := (108, [(3, .int s0), (0, .ref l0), (1, .int l1), (2, .int l2), (4, .int l4), (5, .int l5)], [.int l2, .int l5], (jE0, M))) 2 rfl ?_
      refine g_ic_ge (tgt := 116) rfl rfl (fun q6 => ?_) (fun q6 => ?_)
      · refine g_pure (c' := (117, [(3, .int s0), (0, .ref l0), (1, .int l1), (2, .int l2), (4, .int l4), (5, .int l5)], [.int l5], (jE0, M))) 2 rfl ?_
        refine g_weakk (lv := [(0, .ref l0), (1, .int l1), (3, .int s0), (4, .int l4)]) ⟨rfl, rfl, rfl, rfl, trivial⟩ [0, 1, 3, 4] rfl (by decide) [3, 0, 1, 2, 4, 5] rfl (by decide) ?_
        exact (c177_117 h8 H8 l0 l1 s0 l4 l5 M pl0)
      · refine g_weakk (lv := [(0, .ref l0), (1, .int l1), (2, .int l2), (3, .int s0), (4, .int l4)]) ⟨rfl, rfl, rfl, rfl, rfl, trivial⟩ [0, 1, 2, 3, 4] rfl (by decide) [3, 0, 1, 2, 4, 5] rfl (by decide) ?_
        exact (c177_116 h8 H8 l0 l1 l2 s0 l4 M pl0)
def f177_97 (h8 : Nat → Int32 → Int32 → Int32 → Int32 → JM → Option (Int32 × JM)) (l0 : Nat) (l1 : Int32) (l2 : Int32) (l3 : Int32) (l4 : Int32) (l5 : Int32) (M : JM) : Option (Int32 × JM) := (f177_98 h8 l0 l1 l2 l4 l5 l3 M)
set_option maxRecDepth 100000 in
theorem c177_97 {xs : Option (List Int32)} (h8 : Nat → Int32 → Int32 → Int32 → Int32 → JM → Option (Int32 × JM)) (H8 : ∀ (l0 : Nat) (l1 : Int32) (l2 : Int32) (l3 : Int32) (l4 : Int32) (M : JM) (pl0 : jok jE0 l0 7 = true), JG xs 6 177 (h8 l0 l1 l2 l3 l4 M) (fun x r => r = (some (.int x.1), (jE0, x.2))) (8, [(0, .ref l0), (1, .int l1), (2, .int l2), (3, .int l3), (4, .int l4)], [], (jE0, M))) : ∀ (l0 : Nat) (l1 : Int32) (l2 : Int32) (l3 : Int32) (l4 : Int32) (l5 : Int32) (M : JM) (pl0 : jok jE0 l0 7 = true), JG xs 6 177 (f177_97 h8 l0 l1 l2 l3 l4 l5 M) (fun x r => r = (some (.int x.1), (jE0, x.2))) (97, [(0, .ref l0), (1, .int l1), (2, .int l2), (3, .int l3), (4, .int l4), (5, .int l5)], [], (jE0, M)) := by
    intro l0 l1 l2 l3 l4 l5 M pl0
    unfold f177_97
    refine g_pure (c' := (98, [(0, .ref l0), (1, .int l1), (2, .int l2), (3, .int l3), (4, .int l4), (5, .int l5)], [.int l3], (jE0, M))) 1 rfl ?_
    refine g_weakk (lv := [(0, .ref l0), (1, .int l1), (2, .int l2), (4, .int l4), (5, .int l5)]) ⟨rfl, rfl, rfl, rfl, rfl, trivial⟩ [0, 1, 2, 4, 5] rfl (by decide) [0, 1, 2, 3, 4, 5] rfl (by decide) ?_
    exact (c177_98 h8 H8 l0 l1 l2 l4 l5 l3 M pl0)
def f177_76 (h8 : Nat → Int32 → Int32 → Int32 → Int32 → JM → Option (Int32 × JM)) (l0 : Nat) (l1 : Int32) (l2 : Int32) (l3 : Int32) (l4 : Int32) (l5 : Int32) (M : JM) : Option (Int32 × JM) := (if l5 = (-1 : Int32) then (f177_97 h8 l0 l1 l2 l3 l4 l5 M) else (if l5 = l2 then (f177_98 h8 l0 l1 l2 l4 l5 (l3 ||| ((1 : Int32) <<< (l4 &&& (31 : Int32)))) M) else (f177_97 h8 l0 l1 l2 l3 l4 l5 M)))
set_option maxRecDepth 100000 in
theorem c177_76 {xs : Option (List Int32)} (h8 : Nat → Int32 → Int32 → Int32 → Int32 → JM → Option (Int32 × JM)) (H8 : ∀ (l0 : Nat) (l1 : Int32) (l2 : Int32) (l3 : Int32) (l4 : Int32) (M : JM) (pl0 : jok jE0 l0 7 = true), JG xs 6 177 (h8 l0 l1 l2 l3 l4 M) (fun x r => r = (some (.int x.1), (jE0, x.2))) (8, [(0, .ref l0), (1, .int l1), (2, .int l2), (3, .int l3), (4, .int l4)], [], (jE0, M))) : ∀ (l0 : Nat) (l1 : Int32) (l2 : Int32) (l3 : Int32) (l4 : Int32) (l5 : Int32) (M : JM) (pl0 : jok jE0 l0 7 = true), JG xs 6 177 (f177_76 h8 l0 l1 l2 l3 l4 l5 M) (fun x r => r = (some (.int x.1), (jE0, x.2))) (76, [(0, .ref l0), (1, .int l1), (2, .int l2), (3, .int l3), (4, .int l4), (5, .int l5)], [], (jE0, M)) := by
    intro l0 l1 l2 l3 l4 l5 M pl0
    unfold f177_76
    refine g_pure (c' := (79, [(0, .ref l0), (1, .int l1), (2, .int l2), (3, .int l3), (4, .int l4), (5, .int l5)], [.int (-1 : Int32), .int l5], (jE0, M))) 2 rfl ?_
    refine g_ic_eq (tgt := 97) rfl rfl (fun q4 => ?_) (fun q4 => ?_)
    · exact (c177_97 h8 H8 l0 l1 l2 l3 l4 l5 M pl0)
    · refine g_pure (c' := (85, [(0, .ref l0), (1, .int l1), (2, .int l2), (3, .int l3), (4, .int l4), (5, .int l5)], [.int l2, .int l5], (jE0, M))) 2 rfl ?_
      refine g_ic_ne (tgt := 97) rfl rfl (fun q7 => ?_) (fun q7 => ?_)
      · refine g_pure (c' := (98, [(0, .ref l0), (1, .int l1), (2, .int l2), (3, .int l3), (4, .int l4), (5, .int l5)], [.int (l3 ||| ((1 : Int32) <<< (l4 &&& (31 : Int32))))], (jE0, M))) 6 rfl ?_
        refine g_weakk (lv := [(0, .ref l0), (1, .int l1), (2, .int l2), (4, .int l4), (5, .int l5)]) ⟨rfl, rfl, rfl, rfl, rfl, trivial⟩ [0, 1, 2, 4, 5] rfl (by decide) [0, 1, 2, 3, 4, 5] rfl (by decide) ?_
        exact (c177_98 h8 H8 l0 l1 l2 l4 l5 (l3 ||| ((1 : Int32) <<< (l4 &&& (31 : Int32)))) M pl0)
      · exact (c177_97 h8 H8 l0 l1 l2 l3 l4 l5 M pl0)
def f177_55 (h8 : Nat → Int32 → Int32 → Int32 → Int32 → JM → Option (Int32 × JM)) (l0 : Nat) (l1 : Int32) (l2 : Int32) (l3 : Int32) (l4 : Int32) (s0 : Int32) (M : JM) : Option (Int32 × JM) := (if s0 = (-1 : Int32) then (f177_76 h8 l0 l1 l2 l3 l4 s0 M) else (if s0 < l2 then (f177_98 h8 l0 l1 l2 l4 s0 ((1 : Int32) <<< (l4 &&& (31 : Int32))) M) else (f177_76 h8 l0 l1 l2 l3 l4 s0 M)))
set_option maxRecDepth 100000 in
theorem c177_55 {xs : Option (List Int32)} (h8 : Nat → Int32 → Int32 → Int32 → Int32 → JM → Option (Int32 × JM)) (H8 : ∀ (l0 : Nat) (l1 : Int32) (l2 : Int32) (l3 : Int32) (l4 : Int32) (M : JM) (pl0 : jok jE0 l0 7 = true), JG xs 6 177 (h8 l0 l1 l2 l3 l4 M) (fun x r => r = (some (.int x.1), (jE0, x.2))) (8, [(0, .ref l0), (1, .int l1), (2, .int l2), (3, .int l3), (4, .int l4)], [], (jE0, M))) : ∀ (l0 : Nat) (l1 : Int32) (l2 : Int32) (l3 : Int32) (l4 : Int32) (s0 : Int32) (M : JM) (pl0 : jok jE0 l0 7 = true), JG xs 6 177 (f177_55 h8 l0 l1 l2 l3 l4 s0 M) (fun x r => r = (some (.int x.1), (jE0, x.2))) (55, [(0, .ref l0), (1, .int l1), (2, .int l2), (3, .int l3), (4, .int l4)], [.int s0], (jE0, M)) := by
    intro l0 l1 l2 l3 l4 s0 M pl0
    unfold f177_55
    refine g_pure (c' := (60, [(5, .int s0), (0, .ref l0), (1, .int l1), (2, .int l2), (3, .int l3), (4, .int l4)], [.int (-1 : Int32), .int s0], (jE0, M))) 3 rfl ?_
    refine g_ic_eq (tgt := 76) rfl rfl (fun q3 => ?_) (fun q3 => ?_)
    · refine g_weakk (lv := [(0, .ref l0), (1, .int l1), (2, .int l2), (3, .int l3), (4, .int l4), (5, .int s0)]) ⟨rfl, rfl, rfl, rfl, rfl, rfl, trivial⟩ [0, 1, 2, 3, 4, 5] rfl (by decide) [5, 0, 1, 2, 3, 4] rfl (by decide) ?_
      exact (c177_76 h8 H8 l0 l1 l2 l3 l4 s0 M pl0)
    · refine g_pure (c' := (66, [(5, .int s0), (0, .ref l0), (1, .int l1), (2, .int l2), (3, .int l3), (4, .int l4)], [.int l2, .int s0], (jE0, M))) 2 rfl ?_
      refine g_ic_ge (tgt := 76) rfl rfl (fun q8 => ?_) (fun q8 => ?_)
      · refine g_pure (c' := (98, [(5, .int s0), (0, .ref l0), (1, .int l1), (2, .int l2), (3, .int l3), (4, .int l4)], [.int ((1 : Int32) <<< (l4 &&& (31 : Int32)))], (jE0, M))) 4 rfl ?_
        refine g_weakk (lv := [(0, .ref l0), (1, .int l1), (2, .int l2), (4, .int l4), (5, .int s0)]) ⟨rfl, rfl, rfl, rfl, rfl, trivial⟩ [0, 1, 2, 4, 5] rfl (by decide) [5, 0, 1, 2, 3, 4] rfl (by decide) ?_
        exact (c177_98 h8 H8 l0 l1 l2 l4 s0 ((1 : Int32) <<< (l4 &&& (31 : Int32))) M pl0)
      · refine g_weakk (lv := [(0, .ref l0), (1, .int l1), (2, .int l2), (3, .int l3), (4, .int l4), (5, .int s0)]) ⟨rfl, rfl, rfl, rfl, rfl, rfl, trivial⟩ [0, 1, 2, 3, 4, 5] rfl (by decide) [5, 0, 1, 2, 3, 4] rfl (by decide) ?_
        exact (c177_76 h8 H8 l0 l1 l2 l3 l4 s0 M pl0)
def f177_54 (h8 : Nat → Int32 → Int32 → Int32 → Int32 → JM → Option (Int32 × JM)) (l0 : Nat) (l1 : Int32) (l2 : Int32) (l3 : Int32) (l4 : Int32) (M : JM) : Option (Int32 × JM) := (f177_55 h8 l0 l1 l2 l3 l4 (-1 : Int32) M)
set_option maxRecDepth 100000 in
theorem c177_54 {xs : Option (List Int32)} (h8 : Nat → Int32 → Int32 → Int32 → Int32 → JM → Option (Int32 × JM)) (H8 : ∀ (l0 : Nat) (l1 : Int32) (l2 : Int32) (l3 : Int32) (l4 : Int32) (M : JM) (pl0 : jok jE0 l0 7 = true), JG xs 6 177 (h8 l0 l1 l2 l3 l4 M) (fun x r => r = (some (.int x.1), (jE0, x.2))) (8, [(0, .ref l0), (1, .int l1), (2, .int l2), (3, .int l3), (4, .int l4)], [], (jE0, M))) : ∀ (l0 : Nat) (l1 : Int32) (l2 : Int32) (l3 : Int32) (l4 : Int32) (M : JM) (pl0 : jok jE0 l0 7 = true), JG xs 6 177 (f177_54 h8 l0 l1 l2 l3 l4 M) (fun x r => r = (some (.int x.1), (jE0, x.2))) (54, [(0, .ref l0), (1, .int l1), (2, .int l2), (3, .int l3), (4, .int l4)], [], (jE0, M)) := by
    intro l0 l1 l2 l3 l4 M pl0
    unfold f177_54
    refine g_pure (c' := (55, [(0, .ref l0), (1, .int l1), (2, .int l2), (3, .int l3), (4, .int l4)], [.int (-1 : Int32)], (jE0, M))) 1 rfl ?_
    exact (c177_55 h8 H8 l0 l1 l2 l3 l4 (-1 : Int32) M pl0)
def f177_8  : Nat → Nat → Int32 → Int32 → Int32 → Int32 → JM → Option (Int32 × JM)
  | 0, _, _, _, _, _, _ => none
  | n + 1, l0, l1, l2, l3, l4, M => (if l4 < (M l0 7) then (if l4 = l1 then (f177_54 (f177_8 n) l0 l1 l2 l3 l4 M) else ((jla (jpt l0 0) (10 : Int32) M).bind fun v9 => ((f126 v9 l4).bind fun v10 => (if v10 = (0 : Int32) then (f177_54 (f177_8 n) l0 l1 l2 l3 l4 M) else ((jla (jpt l0 0) (0 : Int32) M).bind fun v12 => ((f156 l0 l1 l4 v12 M).bind fun z15 => (f177_55 (f177_8 n) l0 l1 l2 l3 l4 z15.1 z15.2))))))) else (some (l3, M)))
set_option maxRecDepth 100000 in
theorem c177_8 {xs : Option (List Int32)} : ∀ (n : Nat) (l0 : Nat) (l1 : Int32) (l2 : Int32) (l3 : Int32) (l4 : Int32) (M : JM) (pl0 : jok jE0 l0 7 = true), JG xs 6 177 (f177_8 n l0 l1 l2 l3 l4 M) (fun x r => r = (some (.int x.1), (jE0, x.2))) (8, [(0, .ref l0), (1, .int l1), (2, .int l2), (3, .int l3), (4, .int l4)], [], (jE0, M))
  | 0, _, _, _, _, _, _, _ => by rw [f177_8]; exact g_none
  | n + 1, l0, l1, l2, l3, l4, M, pl0 => by
    rw [f177_8]
    refine g_pure (c' := (11, [(0, .ref l0), (1, .int l1), (2, .int l2), (3, .int l3), (4, .int l4)], [.ref l0, .int l4], (jE0, M))) 2 rfl ?_
    refine g_gf (ci := 7) (k := 7) rfl rfl rfl pl0 ?_
    refine g_ic_ge (tgt := 124) rfl rfl (fun q1 => ?_) (fun q1 => ?_)
    · refine g_pure (c' := (20, [(0, .ref l0), (1, .int l1), (2, .int l2), (3, .int l3), (4, .int l4)], [.int l1, .int l4], (jE0, M))) 2 rfl ?_
      refine g_ic_eq (tgt := 54) rfl rfl (fun q2 => ?_) (fun q2 => ?_)
      · exact (c177_54 (f177_8 n) (c177_8 n) l0 l1 l2 l3 l4 M pl0)
      · refine g_pure (c' := (24, [(0, .ref l0), (1, .int l1), (2, .int l2), (3, .int l3), (4, .int l4)], [.ref l0], (jE0, M))) 1 rfl ?_
        refine g_gp rfl rfl rfl pl0 (jp_ok (kd := 8) pl0 (by decide) (by decide) rfl rfl).1 ?_
        refine g_pure (c' := (29, [(0, .ref l0), (1, .int l1), (2, .int l2), (3, .int l3), (4, .int l4)], [.int (10 : Int32), .ref (jpt l0 0)], (jE0, M))) 1 rfl ?_
        refine g_ia rfl (jk_ok (kd := 8) pl0 (by decide) (by decide) rfl rfl) (fun v9 => ?_)
        refine g_pure (c' := (32, [(0, .ref l0), (1, .int l1), (2, .int l2), (3, .int l3), (4, .int l4)], [.int l4, .int v9], (jE0, M))) 1 rfl ?_
        refine g_cI rfl (jc_s rfl rfl) (c126 v9 l4) (by decide) (fun v10 qv10 => ?_)
        refine g_if_eq (tgt := 54) rfl rfl (fun q11 => ?_) (fun q11 => ?_)
        · exact (c177_54 (f177_8 n) (c177_8 n) l0 l1 l2 l3 l4 M pl0)
        · refine g_pure (c' := (43, [(0, .ref l0), (1, .int l1), (2, .int l2), (3, .int l3), (4, .int l4)], [.ref l0, .int l4, .int l1, .ref l0], (jE0, M))) 4 rfl ?_
          refine g_gp rfl rfl rfl pl0 (jp_ok (kd := 8) pl0 (by decide) (by decide) rfl rfl).1 ?_
          refine g_pure (c' := (47, [(0, .ref l0), (1, .int l1), (2, .int l2), (3, .int l3), (4, .int l4)], [.int (0 : Int32), .ref (jpt l0 0), .int l4, .int l1, .ref l0], (jE0, M))) 1 rfl ?_
          refine g_ia rfl (jk_ok (kd := 8) pl0 (by decide) (by decide) rfl rfl) (fun v12 => ?_)
          refine g_wI rfl (jc_v rfl rfl (jv_o pl0 rfl) rfl) (c156 l0 l1 l4 v12 M pl0) (by decide) (fun v14 M13 qv14 => ?_)
          refine g_pure (c' := (55, [(0, .ref l0), (1, .int l1), (2, .int l2), (3, .int l3), (4, .int l4)], [.int v14], (jE0, M13))) 1 rfl ?_
          exact (c177_55 (f177_8 n) (c177_8 n) l0 l1 l2 l3 l4 v14 M13 pl0)
    · refine g_pure (c' := (125, [(0, .ref l0), (1, .int l1), (2, .int l2), (3, .int l3), (4, .int l4)], [.int l3], (jE0, M))) 1 rfl ?_
      exact g_ret rfl rfl (fun _ h => h)
/-- CometKinModel.heirsOf -/
def f177  (l0 : Nat) (l1 : Int32) (M : JM) : Option (Int32 × JM) := (f177_8 1000 l0 l1 (99 : Int32) (0 : Int32) (0 : Int32) M)
set_option maxRecDepth 100000 in
theorem c177 {xs : Option (List Int32)} (l0 : Nat) (l1 : Int32) (M : JM) (pl0 : jok jE0 l0 7 = true) : JG xs 6 177 (f177 l0 l1 M) (fun x r => r = (some (.int x.1), (jE0, x.2))) (0, [(0, .ref l0), (1, .int l1)], [], (jE0, M)) := by
    unfold f177
    refine g_pure (c' := (8, [(4, .int (0 : Int32)), (3, .int (0 : Int32)), (2, .int (99 : Int32)), (0, .ref l0), (1, .int l1)], [], (jE0, M))) 6 rfl ?_
    refine g_weakk (lv := [(0, .ref l0), (1, .int l1), (2, .int (99 : Int32)), (3, .int (0 : Int32)), (4, .int (0 : Int32))]) ⟨rfl, rfl, rfl, rfl, rfl, trivial⟩ [0, 1, 2, 3, 4] rfl (by decide) [4, 3, 2, 0, 1] rfl (by decide) ?_
    exact (c177_8 1000 l0 l1 (99 : Int32) (0 : Int32) (0 : Int32) M pl0)
def f127_4  : Nat → Int32 → Int32 → Int32 → Option Int32
  | 0, _, _, _ => none
  | n + 1, l0, l1, l2 => (if l2 < (9 : Int32) then ((f127_4 n) l0 (l1 + ((l0 >>> (l2 &&& (31 : Int32))) &&& (1 : Int32))) (l2 + (1 : Int32))) else (some l1))
set_option maxRecDepth 100000 in
theorem c127_4 {xs : Option (List Int32)} {M : JM} : ∀ (n : Nat) (l0 : Int32) (l1 : Int32) (l2 : Int32), JG xs 0 127 (f127_4 n l0 l1 l2) (fun x r => r = (some (.int x), (jE0, M))) (4, [(0, .int l0), (1, .int l1), (2, .int l2)], [], (jE0, M))
  | 0, _, _, _ => by rw [f127_4]; exact g_none
  | n + 1, l0, l1, l2 => by
    rw [f127_4]
    refine g_pure (c' := (7, [(0, .int l0), (1, .int l1), (2, .int l2)], [.int (9 : Int32), .int l2], (jE0, M))) 2 rfl ?_
    refine g_ic_ge (tgt := 24) rfl rfl (fun q1 => ?_) (fun q1 => ?_)
    · refine g_pure (c' := (4, [(2, .int (l2 + (1 : Int32))), (1, .int (l1 + ((l0 >>> (l2 &&& (31 : Int32))) &&& (1 : Int32)))), (0, .int l0)], [], (jE0, M))) 10 rfl ?_
      refine g_weakk (lv := [(0, .int l0), (1, .int (l1 + ((l0 >>> (l2 &&& (31 : Int32))) &&& (1 : Int32)))), (2, .int (l2 + (1 : Int32)))]) ⟨rfl, rfl, rfl, trivial⟩ [0, 1, 2] rfl (by decide) [2, 1, 0] rfl (by decide) ?_
      exact ((c127_4 n) l0 (l1 + ((l0 >>> (l2 &&& (31 : Int32))) &&& (1 : Int32))) (l2 + (1 : Int32)))
    · refine g_pure (c' := (25, [(0, .int l0), (1, .int l1), (2, .int l2)], [.int l1], (jE0, M))) 1 rfl ?_
      exact g_ret rfl rfl (fun _ h => h)
/-- CometKinModel.bits -/
def f127  (l0 : Int32) : Option Int32 := (f127_4 1000 l0 (0 : Int32) (0 : Int32))
set_option maxRecDepth 100000 in
theorem c127 {xs : Option (List Int32)} {M : JM} (l0 : Int32) : JG xs 0 127 (f127 l0) (fun x r => r = (some (.int x), (jE0, M))) (0, [(0, .int l0)], [], (jE0, M)) := by
    unfold f127
    refine g_pure (c' := (4, [(2, .int (0 : Int32)), (1, .int (0 : Int32)), (0, .int l0)], [], (jE0, M))) 4 rfl ?_
    refine g_weakk (lv := [(0, .int l0), (1, .int (0 : Int32)), (2, .int (0 : Int32))]) ⟨rfl, rfl, rfl, trivial⟩ [0, 1, 2] rfl (by decide) [2, 1, 0] rfl (by decide) ?_
    exact (c127_4 1000 l0 (0 : Int32) (0 : Int32))
