/-- CometKin$Country.seenBy -/
def f14 (M : JM) (l0 : Nat) (l1 : Int32) : Option Int32 := ((f101 (M l0 10) l1).bind fun v1 => (if v1 = (0 : Int32) then (some (M l0 12)) else (some (M l0 13))))
set_option maxRecDepth 100000 in
theorem c14 {xs : Option (List Int32)} {M : JM} (l0 : Nat) (l1 : Int32) (pl0 : jok jE0 l0 0 = true) : JG xs 1 14 (f14 M l0 l1) (fun x r => r = (some (.int x), (jE0, M))) (0, [(0, .ref l0), (1, .int l1)], [], (jE0, M)) := by
    unfold f14
    refine g_pure (c' := (1, [(0, .ref l0), (1, .int l1)], [.ref l0], (jE0, M))) 1 rfl ?_
    refine g_gf (ci := 0) (k := 10) rfl rfl rfl pl0 ?_
    refine g_pure (c' := (5, [(0, .ref l0), (1, .int l1)], [.int l1, .int (M l0 10)], (jE0, M))) 1 rfl ?_
    refine g_cI rfl (jc_s rfl rfl) (c101 (M l0 10) l1) (by decide) (fun v1 qv1 => ?_)
    refine g_if_eq (tgt := 18) rfl rfl (fun q2 => ?_) (fun q2 => ?_)
    · refine g_pure (c' := (19, [(0, .ref l0), (1, .int l1)], [.ref l0], (jE0, M))) 1 rfl ?_
      refine g_gf (ci := 0) (k := 12) rfl rfl rfl pl0 ?_
      exact g_ret rfl rfl (fun _ h => h)
    · refine g_pure (c' := (12, [(0, .ref l0), (1, .int l1)], [.ref l0], (jE0, M))) 1 rfl ?_
      refine g_gf (ci := 0) (k := 13) rfl rfl rfl pl0 ?_
      refine g_pure (c' := (22, [(0, .ref l0), (1, .int l1)], [.int (M l0 13)], (jE0, M))) 1 rfl ?_
      exact g_ret rfl rfl (fun _ h => h)
/-- CometKin.as -/
def f74 (xs : Option (List Int32)) (M : JM) (l0 : Nat) (l1 : Int32) (l2 : Int32) : Option Int32 := ((f3 M (jpt l0 1) l1).bind fun v1 => (if v1 = (0 : Int32) then (some (-2 : Int32)) else (if l2 < (0 : Int32) then (some (-3 : Int32)) else ((jal xs 1000001).bind fun v4 => (if l2 < v4 then ((f42 M (jpt (jpt l0 1) 3) l1).bind fun v6 => ((f103 xs M (v6 + (1 : Int32)) l2 1000001).bind fun v7 => (if v7 = (0 : Int32) then (some (-4 : Int32)) else ((f14 M (jpt l0 1) l1).bind fun v9 => (some v9))))) else (some (-3 : Int32)))))))
set_option maxRecDepth 100000 in
theorem c74 {xs : Option (List Int32)} {M : JM} (l0 : Nat) (l1 : Int32) (l2 : Int32) (pl0 : jok jE0 l0 6 = true) : JG xs 2 74 (f74 xs M l0 l1 l2) (fun x r => r = (some (.int x), (jE0, M))) (0, [(0, .ref l0), (1, .int l1), (2, .int l2)], [], (jE0, M)) := by
    unfold f74
    refine g_pure (c' := (1, [(0, .ref l0), (1, .int l1), (2, .int l2)], [.ref l0], (jE0, M))) 1 rfl ?_
    refine g_gp rfl rfl rfl pl0 (jp_ok (kd := 0) pl0 (by decide) (by decide) rfl rfl).1 ?_
    refine g_pure (c' := (5, [(0, .ref l0), (1, .int l1), (2, .int l2)], [.int l1, .ref (jpt l0 1)], (jE0, M))) 1 rfl ?_
    refine g_cI rfl (jc_v rfl rfl (jv_o (jk_ok (kd := 0) pl0 (by decide) (by decide) rfl rfl) rfl) rfl) (c3 (jpt l0 1) l1 (jk_ok (kd := 0) pl0 (by decide) (by decide) rfl rfl)) (by decide) (fun v1 qv1 => ?_)
    refine g_if_ne (tgt := 14) rfl rfl (fun q2 => ?_) (fun q2 => ?_)
    · refine g_pure (c' := (13, [(0, .ref l0), (1, .int l1), (2, .int l2)], [.int (-2 : Int32)], (jE0, M))) 1 rfl ?_
      exact g_ret rfl rfl (fun _ h => h)
    · refine g_pure (c' := (15, [(0, .ref l0), (1, .int l1), (2, .int l2)], [.int l2], (jE0, M))) 1 rfl ?_
      refine g_if_lt (tgt := 26) rfl rfl (fun q3 => ?_) (fun q3 => ?_)
      · refine g_pure (c' := (28, [(0, .ref l0), (1, .int l1), (2, .int l2)], [.int (-3 : Int32)], (jE0, M))) 1 rfl ?_
        exact g_ret rfl rfl (fun _ h => h)
      · refine g_pure (c' := (19, [(0, .ref l0), (1, .int l1), (2, .int l2)], [.int l2], (jE0, M))) 1 rfl ?_
        refine g_st (u := .ref 1000001) rfl rfl rfl ?_
        refine g_ax rfl (fun v4 => ?_)
        refine g_ic_lt (tgt := 29) rfl rfl (fun q5 => ?_) (fun q5 => ?_)
        · refine g_pure (c' := (30, [(0, .ref l0), (1, .int l1), (2, .int l2)], [.ref l0], (jE0, M))) 1 rfl ?_
          refine g_gp rfl rfl rfl pl0 (jp_ok (kd := 0) pl0 (by decide) (by decide) rfl rfl).1 ?_
          refine g_gp rfl rfl rfl (jk_ok (kd := 0) pl0 (by decide) (by decide) rfl rfl) (jp_ok (kd := 3) (jk_ok (kd := 0) pl0 (by decide) (by decide) rfl rfl) (by decide) (by decide) rfl rfl).1 ?_
          refine g_pure (c' := (37, [(0, .ref l0), (1, .int l1), (2, .int l2)], [.int l1, .ref (jpt (jpt l0 1) 3)], (jE0, M))) 1 rfl ?_
          refine g_cI rfl (jc_v rfl rfl (jv_o (jk_ok (kd := 3) (jk_ok (kd := 0) pl0 (by decide) (by decide) rfl rfl) (by decide) (by decide) rfl rfl) rfl) rfl) (c42 (jpt (jpt l0 1) 3) l1 (jk_ok (kd := 3) (jk_ok (kd := 0) pl0 (by decide) (by decide) rfl rfl) (by decide) (by decide) rfl rfl)) (by decide) (fun v6 qv6 => ?_)
          refine g_pure (c' := (43, [(0, .ref l0), (1, .int l1), (2, .int l2)], [.int l2, .int (v6 + (1 : Int32))], (jE0, M))) 3 rfl ?_
          refine g_st (u := .ref 1000001) rfl rfl rfl ?_
          refine g_cI rfl (jc_s rfl rfl) (c103 (v6 + (1 : Int32)) l2 1000001) (by decide) (fun v7 qv7 => ?_)
          refine g_if_eq (tgt := 63) rfl rfl (fun q8 => ?_) (fun q8 => ?_)
          · refine g_pure (c' := (65, [(0, .ref l0), (1, .int l1), (2, .int l2)], [.int (-4 : Int32)], (jE0, M))) 1 rfl ?_
            exact g_ret rfl rfl (fun _ h => h)
          · refine g_pure (c' := (53, [(0, .ref l0), (1, .int l1), (2, .int l2)], [.ref l0], (jE0, M))) 1 rfl ?_
            refine g_gp rfl rfl rfl pl0 (jp_ok (kd := 0) pl0 (by decide) (by decide) rfl rfl).1 ?_
            refine g_pure (c' := (57, [(0, .ref l0), (1, .int l1), (2, .int l2)], [.int l1, .ref (jpt l0 1)], (jE0, M))) 1 rfl ?_
            refine g_cI rfl (jc_v rfl rfl (jv_o (jk_ok (kd := 0) pl0 (by decide) (by decide) rfl rfl) rfl) rfl) (c14 (jpt l0 1) l1 (jk_ok (kd := 0) pl0 (by decide) (by decide) rfl rfl)) (by decide) (fun v9 qv9 => ?_)
            refine g_pure (c' := (65, [(0, .ref l0), (1, .int l1), (2, .int l2)], [.int v9], (jE0, M))) 1 rfl ?_
            exact g_ret rfl rfl (fun _ h => h)
        · refine g_pure (c' := (28, [(0, .ref l0), (1, .int l1), (2, .int l2)], [.int (-3 : Int32)], (jE0, M))) 1 rfl ?_
          exact g_ret rfl rfl (fun _ h => h)
def f165_109 (M : JM) (h80 : Nat → Int32 → Int32 → Int32 → Int32 → Option Int32) (l0 : Nat) (l1 : Int32) (l4 : Int32) (l6 : Int32) (s0 : Int32) (s1 : Int32) : Option Int32 := (h80 l0 l1 l4 (s1 ||| s0) (l6 + (1 : Int32)))
set_option maxRecDepth 100000 in
theorem c165_109 {xs : Option (List Int32)} {M : JM} (h80 : Nat → Int32 → Int32 → Int32 → Int32 → Option Int32) (H80 : ∀ (l0 : Nat) (l1 : Int32) (l4 : Int32) (l5 : Int32) (l6 : Int32) (pl0 : jok jE0 l0 7 = true), JG xs 4 165 (h80 l0 l1 l4 l5 l6) (fun x r => r = (some (.int x), (jE0, M))) (80, [(0, .ref l0), (1, .int l1), (4, .int l4), (5, .int l5), (6, .int l6)], [], (jE0, M))) : ∀ (l0 : Nat) (l1 : Int32) (l4 : Int32) (l6 : Int32) (s0 : Int32) (s1 : Int32) (pl0 : jok jE0 l0 7 = true), JG xs 4 165 (f165_109 M h80 l0 l1 l4 l6 s0 s1) (fun x r => r = (some (.int x), (jE0, M))) (109, [(0, .ref l0), (1, .int l1), (4, .int l4), (6, .int l6)], [.int s0, .int s1], (jE0, M)) := by
    intro l0 l1 l4 l6 s0 s1 pl0
    unfold f165_109
    refine g_pure (c' := (80, [(6, .int (l6 + (1 : Int32))), (5, .int (s1 ||| s0)), (0, .ref l0), (1, .int l1), (4, .int l4)], [], (jE0, M))) 4 rfl ?_
    refine g_weakk (lv := [(0, .ref l0), (1, .int l1), (4, .int l4), (5, .int (s1 ||| s0)), (6, .int (l6 + (1 : Int32)))]) ⟨rfl, rfl, rfl, rfl, rfl, trivial⟩ [0, 1, 4, 5, 6] rfl (by decide) [6, 5, 0, 1, 4] rfl (by decide) ?_
    exact (H80 l0 l1 l4 (s1 ||| s0) (l6 + (1 : Int32)) pl0)
def f165_80 (M : JM) : Nat → Nat → Int32 → Int32 → Int32 → Int32 → Option Int32
  | 0, _, _, _, _, _ => none
  | n + 1, l0, l1, l4, l5, l6 => (if l6 < (M l0 13) then ((f152 M l0 l1 l6).bind fun v8 => (if v8 = (0 : Int32) then (f165_109 M (f165_80 M n) l0 l1 l4 l6 (0 : Int32) l5) else (f165_109 M (f165_80 M n) l0 l1 l4 l6 ((1 : Int32) <<< (l6 &&& (31 : Int32))) l5))) else (if l4 = (0 : Int32) then (some (-4 : Int32)) else (some l5)))
set_option maxRecDepth 100000 in
theorem c165_80 {xs : Option (List Int32)} {M : JM} : ∀ (n : Nat) (l0 : Nat) (l1 : Int32) (l4 : Int32) (l5 : Int32) (l6 : Int32) (pl0 : jok jE0 l0 7 = true), JG xs 4 165 (f165_80 M n l0 l1 l4 l5 l6) (fun x r => r = (some (.int x), (jE0, M))) (80, [(0, .ref l0), (1, .int l1), (4, .int l4), (5, .int l5), (6, .int l6)], [], (jE0, M))
  | 0, _, _, _, _, _, _ => by rw [f165_80]; exact g_none
  | n + 1, l0, l1, l4, l5, l6, pl0 => by
    rw [f165_80]
    refine g_pure (c' := (83, [(0, .ref l0), (1, .int l1), (4, .int l4), (5, .int l5), (6, .int l6)], [.ref l0, .int l6], (jE0, M))) 2 rfl ?_
    refine g_gf (ci := 7) (k := 13) rfl rfl rfl pl0 ?_
    refine g_ic_ge (tgt := 118) rfl rfl (fun q7 => ?_) (fun q7 => ?_)
    · refine g_pure (c' := (95, [(0, .ref l0), (1, .int l1), (4, .int l4), (5, .int l5), (6, .int l6)], [.int l6, .int l1, .ref l0, .int l5], (jE0, M))) 4 rfl ?_
      refine g_cI rfl (jc_v rfl rfl (jv_o pl0 rfl) rfl) (c152 l0 l1 l6 pl0) (by decide) (fun v8 qv8 => ?_)
      refine g_if_eq (tgt := 108) rfl rfl (fun q9 => ?_) (fun q9 => ?_)
      · refine g_pure (c' := (109, [(0, .ref l0), (1, .int l1), (4, .int l4), (5, .int l5), (6, .int l6)], [.int (0 : Int32), .int l5], (jE0, M))) 1 rfl ?_
        refine g_weakk (lv := [(0, .ref l0), (1, .int l1), (4, .int l4), (6, .int l6)]) ⟨rfl, rfl, rfl, rfl, trivial⟩ [0, 1, 4, 6] rfl (by decide) [0, 1, 4, 5, 6] rfl (by decide) ?_
        exact (c165_109 (f165_80 M n) (c165_80 n) l0 l1 l4 l6 (0 : Int32) l5 pl0)
      · refine g_pure (c' := (109, [(0, .ref l0), (1, .int l1), (4, .int l4), (5, .int l5), (6, .int l6)], [.int ((1 : Int32) <<< (l6 &&& (31 : Int32))), .int l5], (jE0, M))) 4 rfl ?_
        refine g_weakk (lv := [(0, .ref l0), (1, .int l1), (4, .int l4), (6, .int l6)]) ⟨rfl, rfl, rfl, rfl, trivial⟩ [0, 1, 4, 6] rfl (by decide) [0, 1, 4, 5, 6] rfl (by decide) ?_
        exact (c165_109 (f165_80 M n) (c165_80 n) l0 l1 l4 l6 ((1 : Int32) <<< (l6 &&& (31 : Int32))) l5 pl0)
    · refine g_pure (c' := (120, [(0, .ref l0), (1, .int l1), (4, .int l4), (5, .int l5), (6, .int l6)], [.int l4], (jE0, M))) 1 rfl ?_
      refine g_if_eq (tgt := 128) rfl rfl (fun q10 => ?_) (fun q10 => ?_)
      · refine g_pure (c' := (130, [(0, .ref l0), (1, .int l1), (4, .int l4), (5, .int l5), (6, .int l6)], [.int (-4 : Int32)], (jE0, M))) 1 rfl ?_
        exact g_ret rfl rfl (fun _ h => h)
      · refine g_pure (c' := (130, [(0, .ref l0), (1, .int l1), (4, .int l4), (5, .int l5), (6, .int l6)], [.int l5], (jE0, M))) 2 rfl ?_
        exact g_ret rfl rfl (fun _ h => h)
def f165_72 (M : JM) (l0 : Nat) (l1 : Int32) (s0 : Int32) : Option Int32 := (f165_80 M 1000 l0 l1 s0 (0 : Int32) (0 : Int32))
set_option maxRecDepth 100000 in
theorem c165_72 {xs : Option (List Int32)} {M : JM} : ∀ (l0 : Nat) (l1 : Int32) (s0 : Int32) (pl0 : jok jE0 l0 7 = true), JG xs 4 165 (f165_72 M l0 l1 s0) (fun x r => r = (some (.int x), (jE0, M))) (72, [(0, .ref l0), (1, .int l1)], [.int s0], (jE0, M)) := by
    intro l0 l1 s0 pl0
    unfold f165_72
    refine g_pure (c' := (80, [(6, .int (0 : Int32)), (5, .int (0 : Int32)), (4, .int s0), (0, .ref l0), (1, .int l1)], [], (jE0, M))) 5 rfl ?_
    refine g_weakk (lv := [(0, .ref l0), (1, .int l1), (4, .int s0), (5, .int (0 : Int32)), (6, .int (0 : Int32))]) ⟨rfl, rfl, rfl, rfl, rfl, trivial⟩ [0, 1, 4, 5, 6] rfl (by decide) [6, 5, 4, 0, 1] rfl (by decide) ?_
    exact (c165_80 1000 l0 l1 s0 (0 : Int32) (0 : Int32) pl0)
def f165_67 (M : JM) (l0 : Nat) (l1 : Int32) : Option Int32 := (f165_72 M l0 l1 (1 : Int32))
set_option maxRecDepth 100000 in
theorem c165_67 {xs : Option (List Int32)} {M : JM} : ∀ (l0 : Nat) (l1 : Int32) (pl0 : jok jE0 l0 7 = true), JG xs 4 165 (f165_67 M l0 l1) (fun x r => r = (some (.int x), (jE0, M))) (67, [(0, .ref l0), (1, .int l1)], [], (jE0, M)) := by
    intro l0 l1 pl0
    unfold f165_67
    refine g_pure (c' := (72, [(0, .ref l0), (1, .int l1)], [.int (1 : Int32)], (jE0, M))) 2 rfl ?_
    exact (c165_72 l0 l1 (1 : Int32) pl0)
def f165_71 (M : JM) (l0 : Nat) (l1 : Int32) : Option Int32 := (f165_72 M l0 l1 (0 : Int32))
set_option maxRecDepth 100000 in
theorem c165_71 {xs : Option (List Int32)} {M : JM} : ∀ (l0 : Nat) (l1 : Int32) (pl0 : jok jE0 l0 7 = true), JG xs 4 165 (f165_71 M l0 l1) (fun x r => r = (some (.int x), (jE0, M))) (71, [(0, .ref l0), (1, .int l1)], [], (jE0, M)) := by
    intro l0 l1 pl0
    unfold f165_71
    refine g_pure (c' := (72, [(0, .ref l0), (1, .int l1)], [.int (0 : Int32)], (jE0, M))) 1 rfl ?_
    exact (c165_72 l0 l1 (0 : Int32) pl0)
def f165_57 (M : JM) (l0 : Nat) (l1 : Int32) (l2 : Int32) (l3 : Int32) : Option Int32 := (if l2 = (3 : Int32) then (if l3 = (2 : Int32) then (f165_67 M l0 l1) else (f165_71 M l0 l1)) else (f165_71 M l0 l1))
set_option maxRecDepth 100000 in
theorem c165_57 {xs : Option (List Int32)} {M : JM} : ∀ (l0 : Nat) (l1 : Int32) (l2 : Int32) (l3 : Int32) (pl0 : jok jE0 l0 7 = true), JG xs 4 165 (f165_57 M l0 l1 l2 l3) (fun x r => r = (some (.int x), (jE0, M))) (57, [(0, .ref l0), (1, .int l1), (2, .int l2), (3, .int l3)], [], (jE0, M)) := by
    intro l0 l1 l2 l3 pl0
    unfold f165_57
    refine g_pure (c' := (59, [(0, .ref l0), (1, .int l1), (2, .int l2), (3, .int l3)], [.int (3 : Int32), .int l2], (jE0, M))) 2 rfl ?_
    refine g_ic_ne (tgt := 71) rfl rfl (fun q15 => ?_) (fun q15 => ?_)
    · refine g_pure (c' := (64, [(0, .ref l0), (1, .int l1), (2, .int l2), (3, .int l3)], [.int (2 : Int32), .int l3], (jE0, M))) 2 rfl ?_
      refine g_ic_ne (tgt := 71) rfl rfl (fun q16 => ?_) (fun q16 => ?_)
      · refine g_weakk (lv := [(0, .ref l0), (1, .int l1)]) ⟨rfl, rfl, trivial⟩ [0, 1] rfl (by decide) [0, 1, 2, 3] rfl (by decide) ?_
        exact (c165_67 l0 l1 pl0)
      · refine g_weakk (lv := [(0, .ref l0), (1, .int l1)]) ⟨rfl, rfl, trivial⟩ [0, 1] rfl (by decide) [0, 1, 2, 3] rfl (by decide) ?_
        exact (c165_71 l0 l1 pl0)
    · refine g_weakk (lv := [(0, .ref l0), (1, .int l1)]) ⟨rfl, rfl, trivial⟩ [0, 1] rfl (by decide) [0, 1, 2, 3] rfl (by decide) ?_
      exact (c165_71 l0 l1 pl0)
def f165_47 (M : JM) (l0 : Nat) (l1 : Int32) (l2 : Int32) (l3 : Int32) : Option Int32 := (if l2 = (2 : Int32) then (if l3 = (1 : Int32) then (f165_67 M l0 l1) else (f165_57 M l0 l1 l2 l3)) else (f165_57 M l0 l1 l2 l3))
set_option maxRecDepth 100000 in
theorem c165_47 {xs : Option (List Int32)} {M : JM} : ∀ (l0 : Nat) (l1 : Int32) (l2 : Int32) (l3 : Int32) (pl0 : jok jE0 l0 7 = true), JG xs 4 165 (f165_47 M l0 l1 l2 l3) (fun x r => r = (some (.int x), (jE0, M))) (47, [(0, .ref l0), (1, .int l1), (2, .int l2), (3, .int l3)], [], (jE0, M)) := by
    intro l0 l1 l2 l3 pl0
    unfold f165_47
    refine g_pure (c' := (49, [(0, .ref l0), (1, .int l1), (2, .int l2), (3, .int l3)], [.int (2 : Int32), .int l2], (jE0, M))) 2 rfl ?_
    refine g_ic_ne (tgt := 57) rfl rfl (fun q13 => ?_) (fun q13 => ?_)
    · refine g_pure (c' := (54, [(0, .ref l0), (1, .int l1), (2, .int l2), (3, .int l3)], [.int (1 : Int32), .int l3], (jE0, M))) 2 rfl ?_
      refine g_ic_eq (tgt := 67) rfl rfl (fun q14 => ?_) (fun q14 => ?_)
      · refine g_weakk (lv := [(0, .ref l0), (1, .int l1)]) ⟨rfl, rfl, trivial⟩ [0, 1] rfl (by decide) [0, 1, 2, 3] rfl (by decide) ?_
        exact (c165_67 l0 l1 pl0)
      · exact (c165_57 l0 l1 l2 l3 pl0)
    · exact (c165_57 l0 l1 l2 l3 pl0)
/-- CometKinModel.as -/
def f165 (M : JM) (l0 : Nat) (l1 : Int32) (l2 : Int32) : Option Int32 := ((f159 M l0 l1).bind fun v1 => (if v1 = (0 : Int32) then (some (-2 : Int32)) else ((f125 ((l2).toInt64) (0 : Int64) (3 : Int64)).bind fun v3 => (if v3 = (0 : Int32) then (some (-3 : Int32)) else ((jla (jpt l0 8) l1 M).bind fun v5 => (if l2 = (0 : Int32) then (f165_67 M l0 l1) else (if l2 = (1 : Int32) then (if v5 = (1 : Int32) then (f165_47 M l0 l1 l2 v5) else (f165_67 M l0 l1)) else (f165_47 M l0 l1 l2 v5))))))))
set_option maxRecDepth 100000 in
theorem c165 {xs : Option (List Int32)} {M : JM} (l0 : Nat) (l1 : Int32) (l2 : Int32) (pl0 : jok jE0 l0 7 = true) : JG xs 4 165 (f165 M l0 l1 l2) (fun x r => r = (some (.int x), (jE0, M))) (0, [(0, .ref l0), (1, .int l1), (2, .int l2)], [], (jE0, M)) := by
    unfold f165
    refine g_pure (c' := (2, [(0, .ref l0), (1, .int l1), (2, .int l2)], [.int l1, .ref l0], (jE0, M))) 2 rfl ?_
    refine g_cI rfl (jc_v rfl rfl (jv_o pl0 rfl) rfl) (c159 l0 l1 pl0) (by decide) (fun v1 qv1 => ?_)
    refine g_if_ne (tgt := 11) rfl rfl (fun q2 => ?_) (fun q2 => ?_)
    · refine g_pure (c' := (10, [(0, .ref l0), (1, .int l1), (2, .int l2)], [.int (-2 : Int32)], (jE0, M))) 1 rfl ?_
      exact g_ret rfl rfl (fun _ h => h)
    · refine g_pure (c' := (17, [(0, .ref l0), (1, .int l1), (2, .int l2)], [.long (3 : Int64), .long (0 : Int64), .long ((l2).toInt64)], (jE0, M))) 4 rfl ?_
      refine g_cI rfl (jc_s rfl rfl) (c125 ((l2).toInt64) (0 : Int64) (3 : Int64)) (by decide) (fun v3 qv3 => ?_)
      refine g_if_ne (tgt := 26) rfl rfl (fun q4 => ?_) (fun q4 => ?_)
      · refine g_pure (c' := (25, [(0, .ref l0), (1, .int l1), (2, .int l2)], [.int (-3 : Int32)], (jE0, M))) 1 rfl ?_
        exact g_ret rfl rfl (fun _ h => h)
      · refine g_pure (c' := (27, [(0, .ref l0), (1, .int l1), (2, .int l2)], [.ref l0], (jE0, M))) 1 rfl ?_
        refine g_gp rfl rfl rfl pl0 (jp_ok (kd := 8) pl0 (by decide) (by decide) rfl rfl).1 ?_
        refine g_pure (c' := (31, [(0, .ref l0), (1, .int l1), (2, .int l2)], [.int l1, .ref (jpt l0 8)], (jE0, M))) 1 rfl ?_
        refine g_ia rfl (jk_ok (kd := 8) pl0 (by decide) (by decide) rfl rfl) (fun v5 => ?_)
        refine g_pure (c' := (34, [(3, .int v5), (0, .ref l0), (1, .int l1), (2, .int l2)], [.int l2], (jE0, M))) 2 rfl ?_
        refine g_if_eq (tgt := 67) rfl rfl (fun q6 => ?_) (fun q6 => ?_)
        · refine g_weakk (lv := [(0, .ref l0), (1, .int l1)]) ⟨rfl, rfl, trivial⟩ [0, 1] rfl (by decide) [3, 0, 1, 2] rfl (by decide) ?_
          exact (c165_67 l0 l1 pl0)
        · refine g_pure (c' := (39, [(3, .int v5), (0, .ref l0), (1, .int l1), (2, .int l2)], [.int (1 : Int32), .int l2], (jE0, M))) 2 rfl ?_
          refine g_ic_ne (tgt := 47) rfl rfl (fun q11 => ?_) (fun q11 => ?_)
          · refine g_pure (c' := (44, [(3, .int v5), (0, .ref l0), (1, .int l1), (2, .int l2)], [.int (1 : Int32), .int v5], (jE0, M))) 2 rfl ?_
            refine g_ic_ne (tgt := 67) rfl rfl (fun q12 => ?_) (fun q12 => ?_)
            · refine g_weakk (lv := [(0, .ref l0), (1, .int l1), (2, .int l2), (3, .int v5)]) ⟨rfl, rfl, rfl, rfl, trivial⟩ [0, 1, 2, 3] rfl (by decide) [3, 0, 1, 2] rfl (by decide) ?_
              exact (c165_47 l0 l1 l2 v5 pl0)
            · refine g_weakk (lv := [(0, .ref l0), (1, .int l1)]) ⟨rfl, rfl, trivial⟩ [0, 1] rfl (by decide) [3, 0, 1, 2] rfl (by decide) ?_
              exact (c165_67 l0 l1 pl0)
          · refine g_weakk (lv := [(0, .ref l0), (1, .int l1), (2, .int l2), (3, .int v5)]) ⟨rfl, rfl, rfl, rfl, trivial⟩ [0, 1, 2, 3] rfl (by decide) [3, 0, 1, 2] rfl (by decide) ?_
            exact (c165_47 l0 l1 l2 v5 pl0)
/-- CometKin.cometAs -/
def f75 (xs : Option (List Int32)) (M : JM) (l0 : Nat) (l1 : Int32) (l2 : Int32) : Option Int32 := ((f5 M (jpt l0 1) l1).bind fun v1 => (if v1 = (0 : Int32) then (some (-2 : Int32)) else (if l2 < (0 : Int32) then (some (-3 : Int32)) else ((jal xs 1000002).bind fun v4 => (if l2 < v4 then ((f42 M (jpt (jpt l0 1) 8) l1).bind fun v6 => ((f103 xs M (v6 + (1 : Int32)) l2 1000002).bind fun v7 => (if v7 = (0 : Int32) then (some (-4 : Int32)) else ((f104 v6).bind fun v9 => (some v9))))) else (some (-3 : Int32)))))))
set_option maxRecDepth 100000 in
theorem c75 {xs : Option (List Int32)} {M : JM} (l0 : Nat) (l1 : Int32) (l2 : Int32) (pl0 : jok jE0 l0 6 = true) : JG xs 1 75 (f75 xs M l0 l1 l2) (fun x r => r = (some (.int x), (jE0, M))) (0, [(0, .ref l0), (1, .int l1), (2, .int l2)], [], (jE0, M)) := by
    unfold f75
    refine g_pure (c' := (1, [(0, .ref l0), (1, .int l1), (2, .int l2)], [.ref l0], (jE0, M))) 1 rfl ?_
    refine g_gp rfl rfl rfl pl0 (jp_ok (kd := 0) pl0 (by decide) (by decide) rfl rfl).1 ?_
    refine g_pure (c' := (5, [(0, .ref l0), (1, .int l1), (2, .int l2)], [.int l1, .ref (jpt l0 1)], (jE0, M))) 1 rfl ?_
    refine g_cI rfl (jc_v rfl rfl (jv_o (jk_ok (kd := 0) pl0 (by decide) (by decide) rfl rfl) rfl) rfl) (c5 (jpt l0 1) l1 (jk_ok (kd := 0) pl0 (by decide) (by decide) rfl rfl)) (by decide) (fun v1 qv1 => ?_)
    refine g_if_ne (tgt := 14) rfl rfl (fun q2 => ?_) (fun q2 => ?_)
    · refine g_pure (c' := (13, [(0, .ref l0), (1, .int l1), (2, .int l2)], [.int (-2 : Int32)], (jE0, M))) 1 rfl ?_
      exact g_ret rfl rfl (fun _ h => h)
    · refine g_pure (c' := (15, [(0, .ref l0), (1, .int l1), (2, .int l2)], [.int l2], (jE0, M))) 1 rfl ?_
      refine g_if_lt (tgt := 26) rfl rfl (fun q3 => ?_) (fun q3 => ?_)
      · refine g_pure (c' := (28, [(0, .ref l0), (1, .int l1), (2, .int l2)], [.int (-3 : Int32)], (jE0, M))) 1 rfl ?_
        exact g_ret rfl rfl (fun _ h => h)
      · refine g_pure (c' := (19, [(0, .ref l0), (1, .int l1), (2, .int l2)], [.int l2], (jE0, M))) 1 rfl ?_
        refine g_st (u := .ref 1000002) rfl rfl rfl ?_
        refine g_ax rfl (fun v4 => ?_)
        refine g_ic_lt (tgt := 29) rfl rfl (fun q5 => ?_) (fun q5 => ?_)
        · refine g_pure (c' := (30, [(0, .ref l0), (1, .int l1), (2, .int l2)], [.ref l0], (jE0, M))) 1 rfl ?_
          refine g_gp rfl rfl rfl pl0 (jp_ok (kd := 0) pl0 (by decide) (by decide) rfl rfl).1 ?_
          refine g_gp rfl rfl rfl (jk_ok (kd := 0) pl0 (by decide) (by decide) rfl rfl) (jp_ok (kd := 3) (jk_ok (kd := 0) pl0 (by decide) (by decide) rfl rfl) (by decide) (by decide) rfl rfl).1 ?_
          refine g_pure (c' := (37, [(0, .ref l0), (1, .int l1), (2, .int l2)], [.int l1, .ref (jpt (jpt l0 1) 8)], (jE0, M))) 1 rfl ?_
          refine g_cI rfl (jc_v rfl rfl (jv_o (jk_ok (kd := 3) (jk_ok (kd := 0) pl0 (by decide) (by decide) rfl rfl) (by decide) (by decide) rfl rfl) rfl) rfl) (c42 (jpt (jpt l0 1) 8) l1 (jk_ok (kd := 3) (jk_ok (kd := 0) pl0 (by decide) (by decide) rfl rfl) (by decide) (by decide) rfl rfl)) (by decide) (fun v6 qv6 => ?_)
          refine g_pure (c' := (45, [(3, .int v6), (0, .ref l0), (1, .int l1), (2, .int l2)], [.int l2, .int (v6 + (1 : Int32))], (jE0, M))) 5 rfl ?_
          refine g_st (u := .ref 1000002) rfl rfl rfl ?_
          refine g_cI rfl (jc_s rfl rfl) (c103 (v6 + (1 : Int32)) l2 1000002) (by decide) (fun v7 qv7 => ?_)
          refine g_if_eq (tgt := 61) rfl rfl (fun q8 => ?_) (fun q8 => ?_)
          · refine g_pure (c' := (63, [(3, .int v6), (0, .ref l0), (1, .int l1), (2, .int l2)], [.int (-4 : Int32)], (jE0, M))) 1 rfl ?_
            exact g_ret rfl rfl (fun _ h => h)
          · refine g_pure (c' := (55, [(3, .int v6), (0, .ref l0), (1, .int l1), (2, .int l2)], [.int v6], (jE0, M))) 1 rfl ?_
            refine g_cI rfl (jc_s rfl rfl) (c104 v6) (by decide) (fun v9 qv9 => ?_)
            refine g_pure (c' := (63, [(3, .int v6), (0, .ref l0), (1, .int l1), (2, .int l2)], [.int v9], (jE0, M))) 1 rfl ?_
            exact g_ret rfl rfl (fun _ h => h)
        · refine g_pure (c' := (28, [(0, .ref l0), (1, .int l1), (2, .int l2)], [.int (-3 : Int32)], (jE0, M))) 1 rfl ?_
          exact g_ret rfl rfl (fun _ h => h)
def f166_84 (M : JM) (l3 : Int32) (s0 : Int32) : Option Int32 := ((f151 l3 (1 : Int32)).bind fun v10 => (if v10 = (0 : Int32) then (some (s0 + (0 : Int32))) else (some (s0 + (2 : Int32)))))
set_option maxRecDepth 100000 in
theorem c166_84 {xs : Option (List Int32)} {M : JM} : ∀ (l3 : Int32) (s0 : Int32), JG xs 2 166 (f166_84 M l3 s0) (fun x r => r = (some (.int x), (jE0, M))) (84, [(3, .int l3)], [.int s0], (jE0, M)) := by
    intro l3 s0
    unfold f166_84
    refine g_pure (c' := (86, [(3, .int l3)], [.int (1 : Int32), .int l3, .int s0], (jE0, M))) 2 rfl ?_
    refine g_cI rfl (jc_s rfl rfl) (c151 l3 (1 : Int32)) (by decide) (fun v10 qv10 => ?_)
    refine g_if_eq (tgt := 96) rfl rfl (fun q11 => ?_) (fun q11 => ?_)
    · refine g_pure (c' := (103, [(3, .int l3)], [.int (s0 + (0 : Int32))], (jE0, M))) 3 rfl ?_
      exact g_ret rfl rfl (fun _ h => h)
    · refine g_pure (c' := (103, [(3, .int l3)], [.int (s0 + (2 : Int32))], (jE0, M))) 4 rfl ?_
      exact g_ret rfl rfl (fun _ h => h)
def f166_64 (M : JM) (l3 : Int32) (s0 : Int32) : Option Int32 := (if s0 = (0 : Int32) then (some (-4 : Int32)) else ((f151 l3 (0 : Int32)).bind fun v8 => (if v8 = (0 : Int32) then (f166_84 M l3 (0 : Int32)) else (f166_84 M l3 (1 : Int32)))))
set_option maxRecDepth 100000 in
theorem c166_64 {xs : Option (List Int32)} {M : JM} : ∀ (l3 : Int32) (s0 : Int32), JG xs 2 166 (f166_64 M l3 s0) (fun x r => r = (some (.int x), (jE0, M))) (64, [(3, .int l3)], [.int s0], (jE0, M)) := by
    intro l3 s0
    unfold f166_64
    refine g_pure (c' := (68, [(4, .int s0), (3, .int l3)], [.int s0], (jE0, M))) 2 rfl ?_
    refine g_if_eq (tgt := 101) rfl rfl (fun q7 => ?_) (fun q7 => ?_)
    · refine g_pure (c' := (103, [(4, .int s0), (3, .int l3)], [.int (-4 : Int32)], (jE0, M))) 1 rfl ?_
      exact g_ret rfl rfl (fun _ h => h)
    · refine g_pure (c' := (73, [(4, .int s0), (3, .int l3)], [.int (0 : Int32), .int l3], (jE0, M))) 2 rfl ?_
      refine g_cI rfl (jc_s rfl rfl) (c151 l3 (0 : Int32)) (by decide) (fun v8 qv8 => ?_)
      refine g_if_eq (tgt := 83) rfl rfl (fun q9 => ?_) (fun q9 => ?_)
      · refine g_pure (c' := (84, [(4, .int s0), (3, .int l3)], [.int (0 : Int32)], (jE0, M))) 1 rfl ?_
        refine g_weakk (lv := [(3, .int l3)]) ⟨rfl, trivial⟩ [3] rfl (by decide) [4, 3] rfl (by decide) ?_
        exact (c166_84 l3 (0 : Int32))
      · refine g_pure (c' := (84, [(4, .int s0), (3, .int l3)], [.int (1 : Int32)], (jE0, M))) 2 rfl ?_
        refine g_weakk (lv := [(3, .int l3)]) ⟨rfl, trivial⟩ [3] rfl (by decide) [4, 3] rfl (by decide) ?_
        exact (c166_84 l3 (1 : Int32))
def f166_59 (M : JM) (l3 : Int32) : Option Int32 := (f166_64 M l3 (1 : Int32))
set_option maxRecDepth 100000 in
theorem c166_59 {xs : Option (List Int32)} {M : JM} : ∀ (l3 : Int32), JG xs 2 166 (f166_59 M l3) (fun x r => r = (some (.int x), (jE0, M))) (59, [(3, .int l3)], [], (jE0, M)) := by
    intro l3
    unfold f166_59
    refine g_pure (c' := (64, [(3, .int l3)], [.int (1 : Int32)], (jE0, M))) 2 rfl ?_
    exact (c166_64 l3 (1 : Int32))
def f166_63 (M : JM) (l3 : Int32) : Option Int32 := (f166_64 M l3 (0 : Int32))
set_option maxRecDepth 100000 in
theorem c166_63 {xs : Option (List Int32)} {M : JM} : ∀ (l3 : Int32), JG xs 2 166 (f166_63 M l3) (fun x r => r = (some (.int x), (jE0, M))) (63, [(3, .int l3)], [], (jE0, M)) := by
    intro l3
    unfold f166_63
    refine g_pure (c' := (64, [(3, .int l3)], [.int (0 : Int32)], (jE0, M))) 1 rfl ?_
    exact (c166_64 l3 (0 : Int32))
def f166_47 (M : JM) (l2 : Int32) (l3 : Int32) : Option Int32 := (if (1 : Int32) < l2 then (if l2 = (l3 + (1 : Int32)) then (f166_59 M l3) else (f166_63 M l3)) else (f166_63 M l3))
set_option maxRecDepth 100000 in
theorem c166_47 {xs : Option (List Int32)} {M : JM} : ∀ (l2 : Int32) (l3 : Int32), JG xs 2 166 (f166_47 M l2 l3) (fun x r => r = (some (.int x), (jE0, M))) (47, [(2, .int l2), (3, .int l3)], [], (jE0, M)) := by
    intro l2 l3
    unfold f166_47
    refine g_pure (c' := (49, [(2, .int l2), (3, .int l3)], [.int (1 : Int32), .int l2], (jE0, M))) 2 rfl ?_
    refine g_ic_le (tgt := 63) rfl rfl (fun q14 => ?_) (fun q14 => ?_)
    · refine g_pure (c' := (56, [(2, .int l2), (3, .int l3)], [.int (l3 + (1 : Int32)), .int l2], (jE0, M))) 4 rfl ?_
      refine g_ic_ne (tgt := 63) rfl rfl (fun q15 => ?_) (fun q15 => ?_)
      · refine g_weakk (lv := [(3, .int l3)]) ⟨rfl, trivial⟩ [3] rfl (by decide) [2, 3] rfl (by decide) ?_
        exact (c166_59 l3)
      · refine g_weakk (lv := [(3, .int l3)]) ⟨rfl, trivial⟩ [3] rfl (by decide) [2, 3] rfl (by decide) ?_
        exact (c166_63 l3)
    · refine g_weakk (lv := [(3, .int l3)]) ⟨rfl, trivial⟩ [3] rfl (by decide) [2, 3] rfl (by decide) ?_
      exact (c166_63 l3)
/-- CometKinModel.cometAs -/
def f166 (M : JM) (l0 : Nat) (l1 : Int32) (l2 : Int32) : Option Int32 := ((f161 M l0 l1).bind fun v1 => (if v1 = (0 : Int32) then (some (-2 : Int32)) else ((f125 ((l2).toInt64) (0 : Int64) (4 : Int64)).bind fun v3 => (if v3 = (0 : Int32) then (some (-3 : Int32)) else ((jla (jpt l0 14) l1 M).bind fun v5 => (if l2 = (0 : Int32) then (f166_59 M v5) else (if l2 = (1 : Int32) then (if v5 = (2 : Int32) then (f166_47 M l2 v5) else (f166_59 M v5)) else (f166_47 M l2 v5))))))))
set_option maxRecDepth 100000 in
theorem c166 {xs : Option (List Int32)} {M : JM} (l0 : Nat) (l1 : Int32) (l2 : Int32) (pl0 : jok jE0 l0 7 = true) : JG xs 2 166 (f166 M l0 l1 l2) (fun x r => r = (some (.int x), (jE0, M))) (0, [(0, .ref l0), (1, .int l1), (2, .int l2)], [], (jE0, M)) := by
    unfold f166
    refine g_pure (c' := (2, [(0, .ref l0), (1, .int l1), (2, .int l2)], [.int l1, .ref l0], (jE0, M))) 2 rfl ?_
    refine g_cI rfl (jc_v rfl rfl (jv_o pl0 rfl) rfl) (c161 l0 l1 pl0) (by decide) (fun v1 qv1 => ?_)
    refine g_if_ne (tgt := 11) rfl rfl (fun q2 => ?_) (fun q2 => ?_)
    · refine g_pure (c' := (10, [(0, .ref l0), (1, .int l1), (2, .int l2)], [.int (-2 : Int32)], (jE0, M))) 1 rfl ?_
      exact g_ret rfl rfl (fun _ h => h)
    · refine g_pure (c' := (17, [(0, .ref l0), (1, .int l1), (2, .int l2)], [.long (4 : Int64), .long (0 : Int64), .long ((l2).toInt64)], (jE0, M))) 4 rfl ?_
      refine g_cI rfl (jc_s rfl rfl) (c125 ((l2).toInt64) (0 : Int64) (4 : Int64)) (by decide) (fun v3 qv3 => ?_)
      refine g_if_ne (tgt := 26) rfl rfl (fun q4 => ?_) (fun q4 => ?_)
      · refine g_pure (c' := (25, [(0, .ref l0), (1, .int l1), (2, .int l2)], [.int (-3 : Int32)], (jE0, M))) 1 rfl ?_
        exact g_ret rfl rfl (fun _ h => h)
      · refine g_pure (c' := (27, [(0, .ref l0), (1, .int l1), (2, .int l2)], [.ref l0], (jE0, M))) 1 rfl ?_
        refine g_gp rfl rfl rfl pl0 (jp_ok (kd := 8) pl0 (by decide) (by decide) rfl rfl).1 ?_
        refine g_pure (c' := (31, [(0, .ref l0), (1, .int l1), (2, .int l2)], [.int l1, .ref (jpt l0 14)], (jE0, M))) 1 rfl ?_
        refine g_ia rfl (jk_ok (kd := 8) pl0 (by decide) (by decide) rfl rfl) (fun v5 => ?_)
        refine g_pure (c' := (34, [(3, .int v5), (0, .ref l0), (1, .int l1), (2, .int l2)], [.int l2], (jE0, M))) 2 rfl ?_
        refine g_if_eq (tgt := 59) rfl rfl (fun q6 => ?_) (fun q6 => ?_)
        · refine g_weakk (lv := [(3, .int v5)]) ⟨rfl, trivial⟩ [3] rfl (by decide) [3, 0, 1, 2] rfl (by decide) ?_
          exact (c166_59 v5)
        · refine g_pure (c' := (39, [(3, .int v5), (0, .ref l0), (1, .int l1), (2, .int l2)], [.int (1 : Int32), .int l2], (jE0, M))) 2 rfl ?_
          refine g_ic_ne (tgt := 47) rfl rfl (fun q12 => ?_) (fun q12 => ?_)
          · refine g_pure (c' := (44, [(3, .int v5), (0, .ref l0), (1, .int l1), (2, .int l2)], [.int (2 : Int32), .int v5], (jE0, M))) 2 rfl ?_
            refine g_ic_ne (tgt := 59) rfl rfl (fun q13 => ?_) (fun q13 => ?_)
            · refine g_weakk (lv := [(2, .int l2), (3, .int v5)]) ⟨rfl, rfl, trivial⟩ [2, 3] rfl (by decide) [3, 0, 1, 2] rfl (by decide) ?_
              exact (c166_47 l2 v5)
            · refine g_weakk (lv := [(3, .int v5)]) ⟨rfl, trivial⟩ [3] rfl (by decide) [3, 0, 1, 2] rfl (by decide) ?_
              exact (c166_59 v5)
          · refine g_weakk (lv := [(2, .int l2), (3, .int v5)]) ⟨rfl, rfl, trivial⟩ [2, 3] rfl (by decide) [3, 0, 1, 2] rfl (by decide) ?_
            exact (c166_47 l2 v5)
/-- CometKin.isYear -/
def f99  (l0 : Int32) : Option Int32 := (if l0 < (0 : Int32) then (some (0 : Int32)) else (if (99 : Int32) < l0 then (some (0 : Int32)) else (some (1 : Int32))))
set_option maxRecDepth 100000 in
theorem c99 {xs : Option (List Int32)} {M : JM} (l0 : Int32) : JG xs 0 99 (f99 l0) (fun x r => r = (some (.int x), (jE0, M))) (0, [(0, .int l0)], [], (jE0, M)) := by
    unfold f99
    refine g_pure (c' := (1, [(0, .int l0)], [.int l0], (jE0, M))) 1 rfl ?_
    refine g_if_lt (tgt := 14) rfl rfl (fun q1 => ?_) (fun q1 => ?_)
    · refine g_pure (c' := (15, [(0, .int l0)], [.int (0 : Int32)], (jE0, M))) 1 rfl ?_
      exact g_ret rfl rfl (fun _ h => h)
    · refine g_pure (c' := (7, [(0, .int l0)], [.int (99 : Int32), .int l0], (jE0, M))) 2 rfl ?_
      refine g_ic_gt (tgt := 14) rfl rfl (fun q2 => ?_) (fun q2 => ?_)
      · refine g_pure (c' := (15, [(0, .int l0)], [.int (0 : Int32)], (jE0, M))) 1 rfl ?_
        exact g_ret rfl rfl (fun _ h => h)
      · refine g_pure (c' := (15, [(0, .int l0)], [.int (1 : Int32)], (jE0, M))) 2 rfl ?_
        exact g_ret rfl rfl (fun _ h => h)
def f16_49 (M : JM) (h5 : Nat → Int32 → Int32 → Int32 → Int32 → Option Int32) (l0 : Nat) (l1 : Int32) (l2 : Int32) (l3 : Int32) (l4 : Int32) : Option Int32 := (h5 l0 l1 l2 l3 (l4 + (1 : Int32)))
set_option maxRecDepth 100000 in
theorem c16_49 {xs : Option (List Int32)} {M : JM} (h5 : Nat → Int32 → Int32 → Int32 → Int32 → Option Int32) (H5 : ∀ (l0 : Nat) (l1 : Int32) (l2 : Int32) (l3 : Int32) (l4 : Int32) (pl0 : jok jE0 l0 0 = true), JG xs 1 16 (h5 l0 l1 l2 l3 l4) (fun x r => r = (some (.int x), (jE0, M))) (5, [(0, .ref l0), (1, .int l1), (2, .int l2), (3, .int l3), (4, .int l4)], [], (jE0, M))) : ∀ (l0 : Nat) (l1 : Int32) (l2 : Int32) (l3 : Int32) (l4 : Int32) (pl0 : jok jE0 l0 0 = true), JG xs 1 16 (f16_49 M h5 l0 l1 l2 l3 l4) (fun x r => r = (some (.int x), (jE0, M))) (49, [(0, .ref l0), (1, .int l1), (2, .int l2), (3, .int l3), (4, .int l4)], [], (jE0, M)) := by
    intro l0 l1 l2 l3 l4 pl0
    unfold f16_49
    refine g_pure (c' := (5, [(4, .int (l4 + (1 : Int32))), (0, .ref l0), (1, .int l1), (2, .int l2), (3, .int l3)], [], (jE0, M))) 2 rfl ?_
    refine g_weakk (lv := [(0, .ref l0), (1, .int l1), (2, .int l2), (3, .int l3), (4, .int (l4 + (1 : Int32)))]) ⟨rfl, rfl, rfl, rfl, rfl, trivial⟩ [0, 1, 2, 3, 4] rfl (by decide) [4, 0, 1, 2, 3] rfl (by decide) ?_
    exact (H5 l0 l1 l2 l3 (l4 + (1 : Int32)) pl0)
def f16_5 (M : JM) : Nat → Nat → Int32 → Int32 → Int32 → Int32 → Option Int32
  | 0, _, _, _, _, _ => none
  | n + 1, l0, l1, l2, l3, l4 => (if l4 < (M l0 1) then ((f42 M (jpt l0 9) l4).bind fun v2 => ((f101 l1 l4).bind fun v3 => (if v3 = (0 : Int32) then (f16_49 M (f16_5 M n) l0 l1 l2 l3 l4) else (if l2 < v2 then (f16_49 M (f16_5 M n) l0 l1 l2 l3 l4) else (if l3 < v2 then (f16_49 M (f16_5 M n) l0 l1 l2 v2 l4) else (f16_49 M (f16_5 M n) l0 l1 l2 l3 l4)))))) else (some l3))
set_option maxRecDepth 100000 in
theorem c16_5 {xs : Option (List Int32)} {M : JM} : ∀ (n : Nat) (l0 : Nat) (l1 : Int32) (l2 : Int32) (l3 : Int32) (l4 : Int32) (pl0 : jok jE0 l0 0 = true), JG xs 1 16 (f16_5 M n l0 l1 l2 l3 l4) (fun x r => r = (some (.int x), (jE0, M))) (5, [(0, .ref l0), (1, .int l1), (2, .int l2), (3, .int l3), (4, .int l4)], [], (jE0, M))
  | 0, _, _, _, _, _, _ => by rw [f16_5]; exact g_none
  | n + 1, l0, l1, l2, l3, l4, pl0 => by
    rw [f16_5]
    refine g_pure (c' := (8, [(0, .ref l0), (1, .int l1), (2, .int l2), (3, .int l3), (4, .int l4)], [.ref l0, .int l4], (jE0, M))) 2 rfl ?_
    refine g_gf (ci := 0) (k := 1) rfl rfl rfl pl0 ?_
    refine g_ic_ge (tgt := 55) rfl rfl (fun q1 => ?_) (fun q1 => ?_)
    · refine g_pure (c' := (15, [(0, .ref l0), (1, .int l1), (2, .int l2), (3, .int l3), (4, .int l4)], [.ref l0], (jE0, M))) 1 rfl ?_
      refine g_gp rfl rfl rfl pl0 (jp_ok (kd := 3) pl0 (by decide) (by decide) rfl rfl).1 ?_
      refine g_pure (c' := (20, [(0, .ref l0), (1, .int l1), (2, .int l2), (3, .int l3), (4, .int l4)], [.int l4, .ref (jpt l0 9)], (jE0, M))) 1 rfl ?_
      refine g_cI rfl (jc_v rfl rfl (jv_o (jk_ok (kd := 3) pl0 (by decide) (by decide) rfl rfl) rfl) rfl) (c42 (jpt l0 9) l4 (jk_ok (kd := 3) pl0 (by decide) (by decide) rfl rfl)) (by decide) (fun v2 qv2 => ?_)
      refine g_pure (c' := (28, [(5, .int v2), (0, .ref l0), (1, .int l1), (2, .int l2), (3, .int l3), (4, .int l4)], [.int l4, .int l1], (jE0, M))) 3 rfl ?_
      refine g_cI rfl (jc_s rfl rfl) (c101 l1 l4) (by decide) (fun v3 qv3 => ?_)
      refine g_if_eq (tgt := 49) rfl rfl (fun q4 => ?_) (fun q4 => ?_)
      · refine g_weakk (lv := [(0, .ref l0), (1, .int l1), (2, .int l2), (3, .int l3), (4, .int l4)]) ⟨rfl, rfl, rfl, rfl, rfl, trivial⟩ [0, 1, 2, 3, 4] rfl (by decide) [5, 0, 1, 2, 3, 4] rfl (by decide) ?_
        exact (c16_49 (f16_5 M n) (c16_5 n) l0 l1 l2 l3 l4 pl0)
      · refine g_pure (c' := (37, [(5, .int v2), (0, .ref l0), (1, .int l1), (2, .int l2), (3, .int l3), (4, .int l4)], [.int l2, .int v2], (jE0, M))) 2 rfl ?_
        refine g_ic_gt (tgt := 49) rfl rfl (fun q5 => ?_) (fun q5 => ?_)
        · refine g_weakk (lv := [(0, .ref l0), (1, .int l1), (2, .int l2), (3, .int l3), (4, .int l4)]) ⟨rfl, rfl, rfl, rfl, rfl, trivial⟩ [0, 1, 2, 3, 4] rfl (by decide) [5, 0, 1, 2, 3, 4] rfl (by decide) ?_
          exact (c16_49 (f16_5 M n) (c16_5 n) l0 l1 l2 l3 l4 pl0)
        · refine g_pure (c' := (43, [(5, .int v2), (0, .ref l0), (1, .int l1), (2, .int l2), (3, .int l3), (4, .int l4)], [.int l3, .int v2], (jE0, M))) 2 rfl ?_
          refine g_ic_le (tgt := 49) rfl rfl (fun q6 => ?_) (fun q6 => ?_)
          · refine g_pure (c' := (49, [(3, .int v2), (5, .int v2), (0, .ref l0), (1, .int l1), (2, .int l2), (4, .int l4)], [], (jE0, M))) 2 rfl ?_
            refine g_weakk (lv := [(0, .ref l0), (1, .int l1), (2, .int l2), (3, .int v2), (4, .int l4)]) ⟨rfl, rfl, rfl, rfl, rfl, trivial⟩ [0, 1, 2, 3, 4] rfl (by decide) [3, 5, 0, 1, 2, 4] rfl (by decide) ?_
            exact (c16_49 (f16_5 M n) (c16_5 n) l0 l1 l2 v2 l4 pl0)
          · refine g_weakk (lv := [(0, .ref l0), (1, .int l1), (2, .int l2), (3, .int l3), (4, .int l4)]) ⟨rfl, rfl, rfl, rfl, rfl, trivial⟩ [0, 1, 2, 3, 4] rfl (by decide) [5, 0, 1, 2, 3, 4] rfl (by decide) ?_
            exact (c16_49 (f16_5 M n) (c16_5 n) l0 l1 l2 l3 l4 pl0)
    · refine g_pure (c' := (56, [(0, .ref l0), (1, .int l1), (2, .int l2), (3, .int l3), (4, .int l4)], [.int l3], (jE0, M))) 1 rfl ?_
      exact g_ret rfl rfl (fun _ h => h)
/-- CometKin$Country.latestYear -/
def f16 (M : JM) (l0 : Nat) (l1 : Int32) (l2 : Int32) : Option Int32 := (f16_5 M 1000 l0 l1 l2 (-1 : Int32) (0 : Int32))
set_option maxRecDepth 100000 in
theorem c16 {xs : Option (List Int32)} {M : JM} (l0 : Nat) (l1 : Int32) (l2 : Int32) (pl0 : jok jE0 l0 0 = true) : JG xs 1 16 (f16 M l0 l1 l2) (fun x r => r = (some (.int x), (jE0, M))) (0, [(0, .ref l0), (1, .int l1), (2, .int l2)], [], (jE0, M)) := by
    unfold f16
    refine g_pure (c' := (5, [(4, .int (0 : Int32)), (3, .int (-1 : Int32)), (0, .ref l0), (1, .int l1), (2, .int l2)], [], (jE0, M))) 4 rfl ?_
    refine g_weakk (lv := [(0, .ref l0), (1, .int l1), (2, .int l2), (3, .int (-1 : Int32)), (4, .int (0 : Int32))]) ⟨rfl, rfl, rfl, rfl, rfl, trivial⟩ [0, 1, 2, 3, 4] rfl (by decide) [4, 3, 0, 1, 2] rfl (by decide) ?_
    exact (c16_5 1000 l0 l1 l2 (-1 : Int32) (0 : Int32) pl0)
def f18_91 (M : JM) (h5 : Nat → Int32 → Int32 → Int32 → Int32 → Option Int32) (l0 : Nat) (l1 : Int32) (l2 : Int32) (l3 : Int32) (l4 : Int32) : Option Int32 := (h5 l0 l1 l2 l3 (l4 + (1 : Int32)))
set_option maxRecDepth 100000 in
theorem c18_91 {xs : Option (List Int32)} {M : JM} (h5 : Nat → Int32 → Int32 → Int32 → Int32 → Option Int32) (H5 : ∀ (l0 : Nat) (l1 : Int32) (l2 : Int32) (l3 : Int32) (l4 : Int32) (pl0 : jok jE0 l0 0 = true), JG xs 1 18 (h5 l0 l1 l2 l3 l4) (fun x r => r = (some (.int x), (jE0, M))) (5, [(0, .ref l0), (1, .int l1), (2, .int l2), (3, .int l3), (4, .int l4)], [], (jE0, M))) : ∀ (l0 : Nat) (l1 : Int32) (l2 : Int32) (l3 : Int32) (l4 : Int32) (pl0 : jok jE0 l0 0 = true), JG xs 1 18 (f18_91 M h5 l0 l1 l2 l3 l4) (fun x r => r = (some (.int x), (jE0, M))) (91, [(0, .ref l0), (1, .int l1), (2, .int l2), (3, .int l3), (4, .int l4)], [], (jE0, M)) := by
    intro l0 l1 l2 l3 l4 pl0
    unfold f18_91
    refine g_pure (c' := (5, [(4, .int (l4 + (1 : Int32))), (0, .ref l0), (1, .int l1), (2, .int l2), (3, .int l3)], [], (jE0, M))) 2 rfl ?_
    refine g_weakk (lv := [(0, .ref l0), (1, .int l1), (2, .int l2), (3, .int l3), (4, .int (l4 + (1 : Int32)))]) ⟨rfl, rfl, rfl, rfl, rfl, trivial⟩ [0, 1, 2, 3, 4] rfl (by decide) [4, 0, 1, 2, 3] rfl (by decide) ?_
    exact (H5 l0 l1 l2 l3 (l4 + (1 : Int32)) pl0)
def f18_76 (M : JM) (h5 : Nat → Int32 → Int32 → Int32 → Int32 → Option Int32) (l0 : Nat) (l1 : Int32) (l2 : Int32) (l3 : Int32) (l4 : Int32) (l5 : Int32) : Option Int32 := (if (l1 &&& l5) = (0 : Int32) then (f18_91 M h5 l0 l1 l2 l3 l4) else ((f100 l4).bind fun v12 => (f18_91 M h5 l0 l1 l2 (l3 ||| v12) l4)))
set_option maxRecDepth 100000 in
theorem c18_76 {xs : Option (List Int32)} {M : JM} (h5 : Nat → Int32 → Int32 → Int32 → Int32 → Option Int32) (H5 : ∀ (l0 : Nat) (l1 : Int32) (l2 : Int32) (l3 : Int32) (l4 : Int32) (pl0 : jok jE0 l0 0 = true), JG xs 1 18 (h5 l0 l1 l2 l3 l4) (fun x r => r = (some (.int x), (jE0, M))) (5, [(0, .ref l0), (1, .int l1), (2, .int l2), (3, .int l3), (4, .int l4)], [], (jE0, M))) : ∀ (l0 : Nat) (l1 : Int32) (l2 : Int32) (l3 : Int32) (l4 : Int32) (l5 : Int32) (pl0 : jok jE0 l0 0 = true), JG xs 1 18 (f18_76 M h5 l0 l1 l2 l3 l4 l5) (fun x r => r = (some (.int x), (jE0, M))) (76, [(0, .ref l0), (1, .int l1), (2, .int l2), (3, .int l3), (4, .int l4), (5, .int l5)], [], (jE0, M)) := by
    intro l0 l1 l2 l3 l4 l5 pl0
    unfold f18_76
    refine g_pure (c' := (80, [(0, .ref l0), (1, .int l1), (2, .int l2), (3, .int l3), (4, .int l4), (5, .int l5)], [.int (l1 &&& l5)], (jE0, M))) 3 rfl ?_
    refine g_if_eq (tgt := 91) rfl rfl (fun q11 => ?_) (fun q11 => ?_)
    · refine g_weakk (lv := [(0, .ref l0), (1, .int l1), (2, .int l2), (3, .int l3), (4, .int l4)]) ⟨rfl, rfl, rfl, rfl, rfl, trivial⟩ [0, 1, 2, 3, 4] rfl (by decide) [0, 1, 2, 3, 4, 5] rfl (by decide) ?_
      exact (c18_91 h5 H5 l0 l1 l2 l3 l4 pl0)
    · refine g_pure (c' := (86, [(0, .ref l0), (1, .int l1), (2, .int l2), (3, .int l3), (4, .int l4), (5, .int l5)], [.int l4, .int l3], (jE0, M))) 2 rfl ?_
      refine g_cI rfl (jc_s rfl rfl) (c100 l4) (by decide) (fun v12 qv12 => ?_)
      refine g_pure (c' := (91, [(3, .int (l3 ||| v12)), (0, .ref l0), (1, .int l1), (2, .int l2), (4, .int l4), (5, .int l5)], [], (jE0, M))) 2 rfl ?_
      refine g_weakk (lv := [(0, .ref l0), (1, .int l1), (2, .int l2), (3, .int (l3 ||| v12)), (4, .int l4)]) ⟨rfl, rfl, rfl, rfl, rfl, trivial⟩ [0, 1, 2, 3, 4] rfl (by decide) [3, 0, 1, 2, 4, 5] rfl (by decide) ?_
      exact (c18_91 h5 H5 l0 l1 l2 (l3 ||| v12) l4 pl0)
def f18_5 (M : JM) : Nat → Nat → Int32 → Int32 → Int32 → Int32 → Option Int32
  | 0, _, _, _, _, _ => none
  | n + 1, l0, l1, l2, l3, l4 => (if l4 < (M l0 0) then ((f42 M (jpt l0 5) l4).bind fun v2 => ((f100 v2).bind fun v3 => ((f42 M (jpt l0 6) l4).bind fun v4 => ((f100 v4).bind fun v5 => (if (v3 ||| v5) = (0 : Int32) then (f18_91 M (f18_5 M n) l0 l1 l2 l3 l4) else ((f42 M (jpt l0 4) l4).bind fun v7 => (if l2 < v7 then (f18_91 M (f18_5 M n) l0 l1 l2 l3 l4) else ((f101 l1 l4).bind fun v9 => (if v9 = (0 : Int32) then (f18_76 M (f18_5 M n) l0 l1 l2 l3 l4 (v3 ||| v5)) else (f18_76 M (f18_5 M n) l0 l1 l2 (l3 ||| (v3 ||| v5)) l4 (v3 ||| v5))))))))))) else (some l3))
set_option maxRecDepth 100000 in
theorem c18_5 {xs : Option (List Int32)} {M : JM} : ∀ (n : Nat) (l0 : Nat) (l1 : Int32) (l2 : Int32) (l3 : Int32) (l4 : Int32) (pl0 : jok jE0 l0 0 = true), JG xs 1 18 (f18_5 M n l0 l1 l2 l3 l4) (fun x r => r = (some (.int x), (jE0, M))) (5, [(0, .ref l0), (1, .int l1), (2, .int l2), (3, .int l3), (4, .int l4)], [], (jE0, M))
  | 0, _, _, _, _, _, _ => by rw [f18_5]; exact g_none
  | n + 1, l0, l1, l2, l3, l4, pl0 => by
    rw [f18_5]
    refine g_pure (c' := (8, [(0, .ref l0), (1, .int l1), (2, .int l2), (3, .int l3), (4, .int l4)], [.ref l0, .int l4], (jE0, M))) 2 rfl ?_
    refine g_gf (ci := 0) (k := 0) rfl rfl rfl pl0 ?_
    refine g_ic_ge (tgt := 97) rfl rfl (fun q1 => ?_) (fun q1 => ?_)
    · refine g_pure (c' := (15, [(0, .ref l0), (1, .int l1), (2, .int l2), (3, .int l3), (4, .int l4)], [.ref l0], (jE0, M))) 1 rfl ?_
      refine g_gp rfl rfl rfl pl0 (jp_ok (kd := 3) pl0 (by decide) (by decide) rfl rfl).1 ?_
      refine g_pure (c' := (20, [(0, .ref l0), (1, .int l1), (2, .int l2), (3, .int l3), (4, .int l4)], [.int l4, .ref (jpt l0 5)], (jE0, M))) 1 rfl ?_
      refine g_cI rfl (jc_v rfl rfl (jv_o (jk_ok (kd := 3) pl0 (by decide) (by decide) rfl rfl) rfl) rfl) (c42 (jpt l0 5) l4 (jk_ok (kd := 3) pl0 (by decide) (by decide) rfl rfl)) (by decide) (fun v2 qv2 => ?_)
      refine g_cI rfl (jc_s rfl rfl) (c100 v2) (by decide) (fun v3 qv3 => ?_)
      refine g_pure (c' := (27, [(0, .ref l0), (1, .int l1), (2, .int l2), (3, .int l3), (4, .int l4)], [.ref l0, .int v3], (jE0, M))) 1 rfl ?_
      refine g_gp rfl rfl rfl pl0 (jp_ok (kd := 3) pl0 (by decide) (by decide) rfl rfl).1 ?_
      refine g_pure (c' := (32, [(0, .ref l0), (1, .int l1), (2, .int l2), (3, .int l3), (4, .int l4)], [.int l4, .ref (jpt l0 6), .int v3], (jE0, M))) 1 rfl ?_
      refine g_cI rfl (jc_v rfl rfl (jv_o (jk_ok (kd := 3) pl0 (by decide) (by decide) rfl rfl) rfl) rfl) (c42 (jpt l0 6) l4 (jk_ok (kd := 3) pl0 (by decide) (by decide) rfl rfl)) (by decide) (fun v4 qv4 => ?_)
      refine g_cI rfl (jc_s rfl rfl) (c100 v4) (by decide) (fun v5 qv5 => ?_)
      refine g_pure (c' := (43, [(5, .int (v3 ||| v5)), (0, .ref l0), (1, .int l1), (2, .int l2), (3, .int l3), (4, .int l4)], [.int (v3 ||| v5)], (jE0, M))) 3 rfl ?_
      refine g_if_eq (tgt := 91) rfl rfl (fun q6 => ?_) (fun q6 => ?_)
      · refine g_weakk (lv := [(0, .ref l0), (1, .int l1), (2, .int l2), (3, .int l3), (4, .int l4)]) ⟨rfl, rfl, rfl, rfl, rfl, trivial⟩ [0, 1, 2, 3, 4] rfl (by decide) [5, 0, 1, 2, 3, 4] rfl (by decide) ?_
        exact (c18_91 (f18_5 M n) (c18_5 n) l0 l1 l2 l3 l4 pl0)
      · refine g_pure (c' := (47, [(5, .int (v3 ||| v5)), (0, .ref l0), (1, .int l1), (2, .int l2), (3, .int l3), (4, .int l4)], [.ref l0], (jE0, M))) 1 rfl ?_
        refine g_gp rfl rfl rfl pl0 (jp_ok (kd := 3) pl0 (by decide) (by decide) rfl rfl).1 ?_
        refine g_pure (c' := (52, [(5, .int (v3 ||| v5)), (0, .ref l0), (1, .int l1), (2, .int l2), (3, .int l3), (4, .int l4)], [.int l4, .ref (jpt l0 4)], (jE0, M))) 1 rfl ?_
        refine g_cI rfl (jc_v rfl rfl (jv_o (jk_ok (kd := 3) pl0 (by decide) (by decide) rfl rfl) rfl) rfl) (c42 (jpt l0 4) l4 (jk_ok (kd := 3) pl0 (by decide) (by decide) rfl rfl)) (by decide) (fun v7 qv7 => ?_)
        refine g_pure (c' := (56, [(5, .int (v3 ||| v5)), (0, .ref l0), (1, .int l1), (2, .int l2), (3, .int l3), (4, .int l4)], [.int l2, .int v7], (jE0, M))) 1 rfl ?_
        refine g_ic_le (tgt := 62) rfl rfl (fun q8 => ?_) (fun q8 => ?_)
        · refine g_pure (c' := (91, [(5, .int (v3 ||| v5)), (0, .ref l0), (1, .int l1), (2, .int l2), (3, .int l3), (4, .int l4)], [], (jE0, M))) 1 rfl ?_
          refine g_weakk (lv := [(0, .ref l0), (1, .int l1), (2, .int l2), (3, .int l3), (4, .int l4)]) ⟨rfl, rfl, rfl, rfl, rfl, trivial⟩ [0, 1, 2, 3, 4] rfl (by decide) [5, 0, 1, 2, 3, 4] rfl (by decide) ?_
          exact (c18_91 (f18_5 M n) (c18_5 n) l0 l1 l2 l3 l4 pl0)
        · refine g_pure (c' := (65, [(5, .int (v3 ||| v5)), (0, .ref l0), (1, .int l1), (2, .int l2), (3, .int l3), (4, .int l4)], [.int l4, .int l1], (jE0, M))) 2 rfl ?_
          refine g_cI rfl (jc_s rfl rfl) (c101 l1 l4) (by decide) (fun v9 qv9 => ?_)
          refine g_if_eq (tgt := 76) rfl rfl (fun q10 => ?_) (fun q10 => ?_)
          · refine g_weakk (lv := [(0, .ref l0), (1, .int l1), (2, .int l2), (3, .int l3), (4, .int l4), (5, .int (v3 ||| v5))]) ⟨rfl, rfl, rfl, rfl, rfl, rfl, trivial⟩ [0, 1, 2, 3, 4, 5] rfl (by decide) [5, 0, 1, 2, 3, 4] rfl (by decide) ?_
            exact (c18_76 (f18_5 M n) (c18_5 n) l0 l1 l2 l3 l4 (v3 ||| v5) pl0)
          · refine g_pure (c' := (76, [(3, .int (l3 ||| (v3 ||| v5))), (5, .int (v3 ||| v5)), (0, .ref l0), (1, .int l1), (2, .int l2), (4, .int l4)], [], (jE0, M))) 4 rfl ?_
            refine g_weakk (lv := [(0, .ref l0), (1, .int l1), (2, .int l2), (3, .int (l3 ||| (v3 ||| v5))), (4, .int l4), (5, .int (v3 ||| v5))]) ⟨rfl, rfl, rfl, rfl, rfl, rfl, trivial⟩ [0, 1, 2, 3, 4, 5] rfl (by decide) [3, 5, 0, 1, 2, 4] rfl (by decide) ?_
            exact (c18_76 (f18_5 M n) (c18_5 n) l0 l1 l2 (l3 ||| (v3 ||| v5)) l4 (v3 ||| v5) pl0)
    · refine g_pure (c' := (98, [(0, .ref l0), (1, .int l1), (2, .int l2), (3, .int l3), (4, .int l4)], [.int l3], (jE0, M))) 1 rfl ?_
      exact g_ret rfl rfl (fun _ h => h)
/-- CometKin$Country.stepFrom -/
def f18 (M : JM) (l0 : Nat) (l1 : Int32) (l2 : Int32) : Option Int32 := (f18_5 M 1000 l0 l1 l2 l1 (0 : Int32))
set_option maxRecDepth 100000 in
theorem c18 {xs : Option (List Int32)} {M : JM} (l0 : Nat) (l1 : Int32) (l2 : Int32) (pl0 : jok jE0 l0 0 = true) : JG xs 1 18 (f18 M l0 l1 l2) (fun x r => r = (some (.int x), (jE0, M))) (0, [(0, .ref l0), (1, .int l1), (2, .int l2)], [], (jE0, M)) := by
    unfold f18
    refine g_pure (c' := (5, [(4, .int (0 : Int32)), (3, .int l1), (0, .ref l0), (1, .int l1), (2, .int l2)], [], (jE0, M))) 4 rfl ?_
    refine g_weakk (lv := [(0, .ref l0), (1, .int l1), (2, .int l2), (3, .int l1), (4, .int (0 : Int32))]) ⟨rfl, rfl, rfl, rfl, rfl, trivial⟩ [0, 1, 2, 3, 4] rfl (by decide) [4, 3, 0, 1, 2] rfl (by decide) ?_
    exact (c18_5 1000 l0 l1 l2 l1 (0 : Int32) pl0)
def f20_27 (M : JM) : Nat → Nat → Int32 → Int32 → Int32 → Int32 → Option Int32
  | 0, _, _, _, _, _ => none
  | n + 1, l0, l2, l4, l5, l6 => (if l6 < (M l0 0) then ((f101 l5 l2).bind fun v6 => (if v6 = (0 : Int32) then ((f18 M l0 l5 l4).bind fun v8 => (if v8 = l5 then (some (-1 : Int32)) else ((f20_27 M n) l0 l2 l4 v8 (l6 + (1 : Int32))))) else (some l6))) else (some (-1 : Int32)))
set_option maxRecDepth 100000 in
theorem c20_27 {xs : Option (List Int32)} {M : JM} : ∀ (n : Nat) (l0 : Nat) (l2 : Int32) (l4 : Int32) (l5 : Int32) (l6 : Int32) (pl0 : jok jE0 l0 0 = true), JG xs 2 20 (f20_27 M n l0 l2 l4 l5 l6) (fun x r => r = (some (.int x), (jE0, M))) (27, [(0, .ref l0), (2, .int l2), (4, .int l4), (5, .int l5), (6, .int l6)], [], (jE0, M))
  | 0, _, _, _, _, _, _ => by rw [f20_27]; exact g_none
  | n + 1, l0, l2, l4, l5, l6, pl0 => by
    rw [f20_27]
    refine g_pure (c' := (30, [(0, .ref l0), (2, .int l2), (4, .int l4), (5, .int l5), (6, .int l6)], [.ref l0, .int l6], (jE0, M))) 2 rfl ?_
    refine g_gf (ci := 0) (k := 0) rfl rfl rfl pl0 ?_
    refine g_ic_ge (tgt := 77) rfl rfl (fun q5 => ?_) (fun q5 => ?_)
    · refine g_pure (c' := (39, [(0, .ref l0), (2, .int l2), (4, .int l4), (5, .int l5), (6, .int l6)], [.int l2, .int l5], (jE0, M))) 2 rfl ?_
      refine g_cI rfl (jc_s rfl rfl) (c101 l5 l2) (by decide) (fun v6 qv6 => ?_)
      refine g_if_eq (tgt := 48) rfl rfl (fun q7 => ?_) (fun q7 => ?_)
      · refine g_pure (c' := (53, [(0, .ref l0), (2, .int l2), (4, .int l4), (5, .int l5), (6, .int l6)], [.int l4, .int l5, .ref l0], (jE0, M))) 3 rfl ?_
        refine g_cI rfl (jc_v rfl rfl (jv_o pl0 rfl) rfl) (c18 l0 l5 l4 pl0) (by decide) (fun v8 qv8 => ?_)
        refine g_pure (c' := (62, [(7, .int v8), (0, .ref l0), (2, .int l2), (4, .int l4), (5, .int l5), (6, .int l6)], [.int l5, .int v8], (jE0, M))) 3 rfl ?_
        refine g_ic_ne (tgt := 67) rfl rfl (fun q9 => ?_) (fun q9 => ?_)
        · refine g_pure (c' := (66, [(7, .int v8), (0, .ref l0), (2, .int l2), (4, .int l4), (5, .int l5), (6, .int l6)], [.int (-1 : Int32)], (jE0, M))) 1 rfl ?_
          exact g_ret rfl rfl (fun _ h => h)
        · refine g_pure (c' := (27, [(6, .int (l6 + (1 : Int32))), (5, .int v8), (7, .int v8), (0, .ref l0), (2, .int l2), (4, .int l4)], [], (jE0, M))) 4 rfl ?_
          refine g_weakk (lv := [(0, .ref l0), (2, .int l2), (4, .int l4), (5, .int v8), (6, .int (l6 + (1 : Int32)))]) ⟨rfl, rfl, rfl, rfl, rfl, trivial⟩ [0, 2, 4, 5, 6] rfl (by decide) [6, 5, 7, 0, 2, 4] rfl (by decide) ?_
          exact ((c20_27 n) l0 l2 l4 v8 (l6 + (1 : Int32)) pl0)
      · refine g_pure (c' := (47, [(0, .ref l0), (2, .int l2), (4, .int l4), (5, .int l5), (6, .int l6)], [.int l6], (jE0, M))) 1 rfl ?_
        exact g_ret rfl rfl (fun _ h => h)
    · refine g_pure (c' := (78, [(0, .ref l0), (2, .int l2), (4, .int l4), (5, .int l5), (6, .int l6)], [.int (-1 : Int32)], (jE0, M))) 1 rfl ?_
      exact g_ret rfl rfl (fun _ h => h)
/-- CometKin$Country.degreeOf -/
def f20 (M : JM) (l0 : Nat) (l1 : Int32) (l2 : Int32) (l3 : Int32) : Option Int32 := ((f14 M l0 l1).bind fun v1 => ((f14 M l0 l2).bind fun v2 => ((f16 M l0 (v1 &&& v2) l3).bind fun v3 => ((f100 l1).bind fun v4 => (f20_27 M 1000 l0 l2 v3 v4 (0 : Int32))))))
set_option maxRecDepth 100000 in
theorem c20 {xs : Option (List Int32)} {M : JM} (l0 : Nat) (l1 : Int32) (l2 : Int32) (l3 : Int32) (pl0 : jok jE0 l0 0 = true) : JG xs 2 20 (f20 M l0 l1 l2 l3) (fun x r => r = (some (.int x), (jE0, M))) (0, [(0, .ref l0), (1, .int l1), (2, .int l2), (3, .int l3)], [], (jE0, M)) := by
    unfold f20
    refine g_pure (c' := (3, [(0, .ref l0), (1, .int l1), (2, .int l2), (3, .int l3)], [.int l1, .ref l0, .ref l0], (jE0, M))) 3 rfl ?_
    refine g_cI rfl (jc_v rfl rfl (jv_o pl0 rfl) rfl) (c14 l0 l1 pl0) (by decide) (fun v1 qv1 => ?_)
    refine g_pure (c' := (8, [(0, .ref l0), (1, .int l1), (2, .int l2), (3, .int l3)], [.int l2, .ref l0, .int v1, .ref l0], (jE0, M))) 2 rfl ?_
    refine g_cI rfl (jc_v rfl rfl (jv_o pl0 rfl) rfl) (c14 l0 l2 pl0) (by decide) (fun v2 qv2 => ?_)
    refine g_pure (c' := (13, [(0, .ref l0), (1, .int l1), (2, .int l2), (3, .int l3)], [.int l3, .int (v1 &&& v2), .ref l0], (jE0, M))) 2 rfl ?_
    refine g_cI rfl (jc_v rfl rfl (jv_o pl0 rfl) rfl) (c16 l0 (v1 &&& v2) l3 pl0) (by decide) (fun v3 qv3 => ?_)
    refine g_pure (c' := (19, [(4, .int v3), (0, .ref l0), (1, .int l1), (2, .int l2), (3, .int l3)], [.int l1], (jE0, M))) 2 rfl ?_
    refine g_cI rfl (jc_s rfl rfl) (c100 l1) (by decide) (fun v4 qv4 => ?_)
    refine g_pure (c' := (27, [(6, .int (0 : Int32)), (5, .int v4), (4, .int v3), (0, .ref l0), (1, .int l1), (2, .int l2), (3, .int l3)], [], (jE0, M))) 3 rfl ?_
    refine g_weakk (lv := [(0, .ref l0), (2, .int l2), (4, .int v3), (5, .int v4), (6, .int (0 : Int32))]) ⟨rfl, rfl, rfl, rfl, rfl, trivial⟩ [0, 2, 4, 5, 6] rfl (by decide) [6, 5, 4, 0, 1, 2, 3] rfl (by decide) ?_
    exact (c20_27 1000 l0 l2 v3 v4 (0 : Int32) pl0)
/-- CometKin.degree -/
def f76 (M : JM) (l0 : Nat) (l1 : Int32) (l2 : Int32) (l3 : Int32) : Option Int32 := ((f3 M (jpt l0 1) l1).bind fun v1 => (if v1 = (0 : Int32) then (some (-2 : Int32)) else ((f3 M (jpt l0 1) l2).bind fun v3 => (if v3 = (0 : Int32) then (some (-2 : Int32)) else ((f99 l3).bind fun v5 => (if v5 = (0 : Int32) then (some (-3 : Int32)) else ((f20 M (jpt l0 1) l1 l2 l3).bind fun v7 => (some v7))))))))
set_option maxRecDepth 100000 in
theorem c76 {xs : Option (List Int32)} {M : JM} (l0 : Nat) (l1 : Int32) (l2 : Int32) (l3 : Int32) (pl0 : jok jE0 l0 6 = true) : JG xs 3 76 (f76 M l0 l1 l2 l3) (fun x r => r = (some (.int x), (jE0, M))) (0, [(0, .ref l0), (1, .int l1), (2, .int l2), (3, .int l3)], [], (jE0, M)) := by
    unfold f76
    refine g_pure (c' := (1, [(0, .ref l0), (1, .int l1), (2, .int l2), (3, .int l3)], [.ref l0], (jE0, M))) 1 rfl ?_
    refine g_gp rfl rfl rfl pl0 (jp_ok (kd := 0) pl0 (by decide) (by decide) rfl rfl).1 ?_
    refine g_pure (c' := (5, [(0, .ref l0), (1, .int l1), (2, .int l2), (3, .int l3)], [.int l1, .ref (jpt l0 1)], (jE0, M))) 1 rfl ?_
    refine g_cI rfl (jc_v rfl rfl (jv_o (jk_ok (kd := 0) pl0 (by decide) (by decide) rfl rfl) rfl) rfl) (c3 (jpt l0 1) l1 (jk_ok (kd := 0) pl0 (by decide) (by decide) rfl rfl)) (by decide) (fun v1 qv1 => ?_)
    refine g_if_eq (tgt := 22) rfl rfl (fun q2 => ?_) (fun q2 => ?_)
    · refine g_pure (c' := (24, [(0, .ref l0), (1, .int l1), (2, .int l2), (3, .int l3)], [.int (-2 : Int32)], (jE0, M))) 1 rfl ?_
      exact g_ret rfl rfl (fun _ h => h)
    · refine g_pure (c' := (12, [(0, .ref l0), (1, .int l1), (2, .int l2), (3, .int l3)], [.ref l0], (jE0, M))) 1 rfl ?_
      refine g_gp rfl rfl rfl pl0 (jp_ok (kd := 0) pl0 (by decide) (by decide) rfl rfl).1 ?_
      refine g_pure (c' := (16, [(0, .ref l0), (1, .int l1), (2, .int l2), (3, .int l3)], [.int l2, .ref (jpt l0 1)], (jE0, M))) 1 rfl ?_
      refine g_cI rfl (jc_v rfl rfl (jv_o (jk_ok (kd := 0) pl0 (by decide) (by decide) rfl rfl) rfl) rfl) (c3 (jpt l0 1) l2 (jk_ok (kd := 0) pl0 (by decide) (by decide) rfl rfl)) (by decide) (fun v3 qv3 => ?_)
      refine g_if_ne (tgt := 25) rfl rfl (fun q4 => ?_) (fun q4 => ?_)
      · refine g_pure (c' := (24, [(0, .ref l0), (1, .int l1), (2, .int l2), (3, .int l3)], [.int (-2 : Int32)], (jE0, M))) 1 rfl ?_
        exact g_ret rfl rfl (fun _ h => h)
      · refine g_pure (c' := (26, [(0, .ref l0), (1, .int l1), (2, .int l2), (3, .int l3)], [.int l3], (jE0, M))) 1 rfl ?_
        refine g_cI rfl (jc_s rfl rfl) (c99 l3) (by decide) (fun v5 qv5 => ?_)
        refine g_if_eq (tgt := 45) rfl rfl (fun q6 => ?_) (fun q6 => ?_)
        · refine g_pure (c' := (47, [(0, .ref l0), (1, .int l1), (2, .int l2), (3, .int l3)], [.int (-3 : Int32)], (jE0, M))) 1 rfl ?_
          exact g_ret rfl rfl (fun _ h => h)
        · refine g_pure (c' := (33, [(0, .ref l0), (1, .int l1), (2, .int l2), (3, .int l3)], [.ref l0], (jE0, M))) 1 rfl ?_
          refine g_gp rfl rfl rfl pl0 (jp_ok (kd := 0) pl0 (by decide) (by decide) rfl rfl).1 ?_
          refine g_pure (c' := (39, [(0, .ref l0), (1, .int l1), (2, .int l2), (3, .int l3)], [.int l3, .int l2, .int l1, .ref (jpt l0 1)], (jE0, M))) 3 rfl ?_
          refine g_cI rfl (jc_v rfl rfl (jv_o (jk_ok (kd := 0) pl0 (by decide) (by decide) rfl rfl) rfl) rfl) (c20 (jpt l0 1) l1 l2 l3 (jk_ok (kd := 0) pl0 (by decide) (by decide) rfl rfl)) (by decide) (fun v7 qv7 => ?_)
          refine g_pure (c' := (47, [(0, .ref l0), (1, .int l1), (2, .int l2), (3, .int l3)], [.int v7], (jE0, M))) 1 rfl ?_
          exact g_ret rfl rfl (fun _ h => h)
/-- CometKinModel.isYear -/
def f162  (l0 : Int32) : Option Int32 := ((f125 ((l0).toInt64) (0 : Int64) (99 : Int64)).bind fun v1 => (jbo 162 v1))
set_option maxRecDepth 100000 in
theorem c162 {xs : Option (List Int32)} {M : JM} (l0 : Int32) : JG xs 1 162 (f162 l0) (fun x r => r = (some (.int x), (jE0, M))) (0, [(0, .int l0)], [], (jE0, M)) := by
    unfold f162
    refine g_pure (c' := (6, [(0, .int l0)], [.long (99 : Int64), .long (0 : Int64), .long ((l0).toInt64)], (jE0, M))) 4 rfl ?_
    refine g_cI rfl (jc_s rfl rfl) (c125 ((l0).toInt64) (0 : Int64) (99 : Int64)) (by decide) (fun v1 qv1 => ?_)
    exact g_rn rfl (fun _ _ h => h)
def f153_38 (h2 : Nat → Int32 → Int32 → Int32 → JM → Option JM) (l0 : Nat) (l1 : Int32) (l2 : Int32) (l3 : Int32) (s0 : Int32) (s1 : Int32) (s2 : Nat) (M : JM) : Option JM := ((jsa s2 s1 (s0 &&& 1) M).bind fun M4 => (h2 l0 l1 l2 (l3 + (1 : Int32)) M4))
set_option maxRecDepth 100000 in
theorem c153_38 {xs : Option (List Int32)} (h2 : Nat → Int32 → Int32 → Int32 → JM → Option JM) (H2 : ∀ (l0 : Nat) (l1 : Int32) (l2 : Int32) (l3 : Int32) (M : JM) (pl0 : jok jE0 l0 7 = true), JG xs 4 153 (h2 l0 l1 l2 l3 M) (fun x r => r = (none, (jE0, x))) (2, [(0, .ref l0), (1, .int l1), (2, .int l2), (3, .int l3)], [], (jE0, M))) : ∀ (l0 : Nat) (l1 : Int32) (l2 : Int32) (l3 : Int32) (s0 : Int32) (s1 : Int32) (s2 : Nat) (M : JM) (pl0 : jok jE0 l0 7 = true) (ps2 : jok jE0 s2 9 = true), JG xs 4 153 (f153_38 h2 l0 l1 l2 l3 s0 s1 s2 M) (fun x r => r = (none, (jE0, x))) (38, [(0, .ref l0), (1, .int l1), (2, .int l2), (3, .int l3)], [.int s0, .int s1, .ref s2], (jE0, M)) := by
    intro l0 l1 l2 l3 s0 s1 s2 M pl0 ps2
    unfold f153_38
    refine g_zs rfl ps2 (fun M4 => ?_)
    refine g_pure (c' := (2, [(3, .int (l3 + (1 : Int32))), (0, .ref l0), (1, .int l1), (2, .int l2)], [], (jE0, M4))) 2 rfl ?_
    refine g_weakk (lv := [(0, .ref l0), (1, .int l1), (2, .int l2), (3, .int (l3 + (1 : Int32)))]) ⟨rfl, rfl, rfl, rfl, trivial⟩ [0, 1, 2, 3] rfl (by decide) [3, 0, 1, 2] rfl (by decide) ?_
    exact (H2 l0 l1 l2 (l3 + (1 : Int32)) M4 pl0)
def f153_37 (h2 : Nat → Int32 → Int32 → Int32 → JM → Option JM) (l0 : Nat) (l1 : Int32) (l2 : Int32) (l3 : Int32) (s0 : Int32) (s1 : Nat) (M : JM) : Option JM := (f153_38 h2 l0 l1 l2 l3 (0 : Int32) s0 s1 M)
set_option maxRecDepth 100000 in
theorem c153_37 {xs : Option (List Int32)} (h2 : Nat → Int32 → Int32 → Int32 → JM → Option JM) (H2 : ∀ (l0 : Nat) (l1 : Int32) (l2 : Int32) (l3 : Int32) (M : JM) (pl0 : jok jE0 l0 7 = true), JG xs 4 153 (h2 l0 l1 l2 l3 M) (fun x r => r = (none, (jE0, x))) (2, [(0, .ref l0), (1, .int l1), (2, .int l2), (3, .int l3)], [], (jE0, M))) : ∀ (l0 : Nat) (l1 : Int32) (l2 : Int32) (l3 : Int32) (s0 : Int32) (s1 : Nat) (M : JM) (pl0 : jok jE0 l0 7 = true) (ps1 : jok jE0 s1 9 = true), JG xs 4 153 (f153_37 h2 l0 l1 l2 l3 s0 s1 M) (fun x r => r = (none, (jE0, x))) (37, [(0, .ref l0), (1, .int l1), (2, .int l2), (3, .int l3)], [.int s0, .ref s1], (jE0, M)) := by
    intro l0 l1 l2 l3 s0 s1 M pl0 ps1
    unfold f153_37
    refine g_pure (c' := (38, [(0, .ref l0), (1, .int l1), (2, .int l2), (3, .int l3)], [.int (0 : Int32), .int s0, .ref s1], (jE0, M))) 1 rfl ?_
    exact (c153_38 h2 H2 l0 l1 l2 l3 (0 : Int32) s0 s1 M pl0 ps1)
def f153_2  : Nat → Nat → Int32 → Int32 → Int32 → JM → Option JM
  | 0, _, _, _, _, _ => none
  | n + 1, l0, l1, l2, l3, M => (if l3 < (M l0 13) then ((f152 M l0 l1 l3).bind fun v2 => (if v2 = (0 : Int32) then (f153_37 (f153_2 n) l0 l1 l2 l3 l3 (jpt l0 23) M) else ((f152 M l0 l2 l3).bind fun v5 => (if v5 = (0 : Int32) then (f153_37 (f153_2 n) l0 l1 l2 l3 l3 (jpt l0 23) M) else (f153_38 (f153_2 n) l0 l1 l2 l3 (1 : Int32) l3 (jpt l0 23) M))))) else (some M))
set_option maxRecDepth 100000 in
theorem c153_2 {xs : Option (List Int32)} : ∀ (n : Nat) (l0 : Nat) (l1 : Int32) (l2 : Int32) (l3 : Int32) (M : JM) (pl0 : jok jE0 l0 7 = true), JG xs 4 153 (f153_2 n l0 l1 l2 l3 M) (fun x r => r = (none, (jE0, x))) (2, [(0, .ref l0), (1, .int l1), (2, .int l2), (3, .int l3)], [], (jE0, M))
  | 0, _, _, _, _, _, _ => by rw [f153_2]; exact g_none
  | n + 1, l0, l1, l2, l3, M, pl0 => by
    rw [f153_2]
    refine g_pure (c' := (4, [(0, .ref l0), (1, .int l1), (2, .int l2), (3, .int l3)], [.ref l0, .int l3], (jE0, M))) 2 rfl ?_
    refine g_gf (ci := 7) (k := 13) rfl rfl rfl pl0 ?_
    refine g_ic_ge (tgt := 45) rfl rfl (fun q1 => ?_) (fun q1 => ?_)
    · refine g_pure (c' := (11, [(0, .ref l0), (1, .int l1), (2, .int l2), (3, .int l3)], [.ref l0], (jE0, M))) 1 rfl ?_
      refine g_gp rfl rfl rfl pl0 (jp_ok (kd := 9) pl0 (by decide) (by decide) rfl rfl).1 ?_
      refine g_pure (c' := (18, [(0, .ref l0), (1, .int l1), (2, .int l2), (3, .int l3)], [.int l3, .int l1, .ref l0, .int l3, .ref (jpt l0 23)], (jE0, M))) 4 rfl ?_
      refine g_cI rfl (jc_v rfl rfl (jv_o pl0 rfl) rfl) (c152 l0 l1 l3 pl0) (by decide) (fun v2 qv2 => ?_)
      refine g_if_eq (tgt := 37) rfl rfl (fun q3 => ?_) (fun q3 => ?_)
      · exact (c153_37 (f153_2 n) (c153_2 n) l0 l1 l2 l3 l3 (jpt l0 23) M pl0 (jk_ok (kd := 9) pl0 (by decide) (by decide) rfl rfl))
      · refine g_pure (c' := (27, [(0, .ref l0), (1, .int l1), (2, .int l2), (3, .int l3)], [.int l3, .int l2, .ref l0, .int l3, .ref (jpt l0 23)], (jE0, M))) 3 rfl ?_
        refine g_cI rfl (jc_v rfl rfl (jv_o pl0 rfl) rfl) (c152 l0 l2 l3 pl0) (by decide) (fun v5 qv5 => ?_)
        refine g_if_eq (tgt := 37) rfl rfl (fun q6 => ?_) (fun q6 => ?_)
        · exact (c153_37 (f153_2 n) (c153_2 n) l0 l1 l2 l3 l3 (jpt l0 23) M pl0 (jk_ok (kd := 9) pl0 (by decide) (by decide) rfl rfl))
        · refine g_pure (c' := (38, [(0, .ref l0), (1, .int l1), (2, .int l2), (3, .int l3)], [.int (1 : Int32), .int l3, .ref (jpt l0 23)], (jE0, M))) 2 rfl ?_
          exact (c153_38 (f153_2 n) (c153_2 n) l0 l1 l2 l3 (1 : Int32) l3 (jpt l0 23) M pl0 (jk_ok (kd := 9) pl0 (by decide) (by decide) rfl rfl))
    · exact g_ret rfl rfl (fun _ h => h)
/-- CometKinModel.laySeen -/
def f153  (l0 : Nat) (l1 : Int32) (l2 : Int32) (M : JM) : Option JM := (f153_2 1000 l0 l1 l2 (0 : Int32) M)
set_option maxRecDepth 100000 in
theorem c153 {xs : Option (List Int32)} (l0 : Nat) (l1 : Int32) (l2 : Int32) (M : JM) (pl0 : jok jE0 l0 7 = true) : JG xs 4 153 (f153 l0 l1 l2 M) (fun x r => r = (none, (jE0, x))) (0, [(0, .ref l0), (1, .int l1), (2, .int l2)], [], (jE0, M)) := by
    unfold f153
    refine g_pure (c' := (2, [(3, .int (0 : Int32)), (0, .ref l0), (1, .int l1), (2, .int l2)], [], (jE0, M))) 2 rfl ?_
    refine g_weakk (lv := [(0, .ref l0), (1, .int l1), (2, .int l2), (3, .int (0 : Int32))]) ⟨rfl, rfl, rfl, rfl, trivial⟩ [0, 1, 2, 3] rfl (by decide) [3, 0, 1, 2] rfl (by decide) ?_
    exact (c153_2 1000 l0 l1 l2 (0 : Int32) M pl0)
