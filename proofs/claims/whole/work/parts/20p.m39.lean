def f39_4 (M : JM) : Nat → Nat → Int32 → Int32 → Int32 → Option Int32
  | 0, _, _, _, _ => none
  | n + 1, l0, l1, l2, l3 => (if l3 < l1 then (if l3 < (9 : Int32) then ((f42 M (jpt l0 5) l3).bind fun v3 => ((f39_4 M n) l0 l1 (l2 + v3) (l3 + (1 : Int32)))) else (some l2)) else (some l2))
set_option maxRecDepth 100000 in
theorem c39_4 {xs : Option (List Int32)} {M : JM} : ∀ (n : Nat) (l0 : Nat) (l1 : Int32) (l2 : Int32) (l3 : Int32) (pl0 : jok jE0 l0 2 = true), JG xs 1 39 (f39_4 M n l0 l1 l2 l3) (fun x r => r = (some (.int x), (jE0, M))) (4, [(0, .ref l0), (1, .int l1), (2, .int l2), (3, .int l3)], [], (jE0, M))
  | 0, _, _, _, _, _ => by rw [f39_4]; exact g_none
  | n + 1, l0, l1, l2, l3, pl0 => by
    rw [f39_4]
    refine g_pure (c' := (6, [(0, .ref l0), (1, .int l1), (2, .int l2), (3, .int l3)], [.int l1, .int l3], (jE0, M))) 2 rfl ?_
    refine g_ic_ge (tgt := 32) rfl rfl (fun q1 => ?_) (fun q1 => ?_)
    · refine g_pure (c' := (12, [(0, .ref l0), (1, .int l1), (2, .int l2), (3, .int l3)], [.int (9 : Int32), .int l3], (jE0, M))) 2 rfl ?_
      refine g_ic_ge (tgt := 32) rfl rfl (fun q2 => ?_) (fun q2 => ?_)
      · refine g_pure (c' := (17, [(0, .ref l0), (1, .int l1), (2, .int l2), (3, .int l3)], [.ref l0, .int l2], (jE0, M))) 2 rfl ?_
        refine g_gp rfl rfl rfl pl0 (jp_ok (kd := 3) pl0 (by decide) (by decide) rfl rfl).1 ?_
        refine g_pure (c' := (21, [(0, .ref l0), (1, .int l1), (2, .int l2), (3, .int l3)], [.int l3, .ref (jpt l0 5), .int l2], (jE0, M))) 1 rfl ?_
        refine g_cI rfl (jc_v rfl rfl (jv_o (jk_ok (kd := 3) pl0 (by decide) (by decide) rfl rfl) rfl) rfl) (c42 (jpt l0 5) l3 (jk_ok (kd := 3) pl0 (by decide) (by decide) rfl rfl)) (by decide) (fun v3 qv3 => ?_)
        refine g_pure (c' := (4, [(3, .int (l3 + (1 : Int32))), (2, .int (l2 + v3)), (0, .ref l0), (1, .int l1)], [], (jE0, M))) 4 rfl ?_
        refine g_weakk (lv := [(0, .ref l0), (1, .int l1), (2, .int (l2 + v3)), (3, .int (l3 + (1 : Int32)))]) ⟨rfl, rfl, rfl, rfl, trivial⟩ [0, 1, 2, 3] rfl (by decide) [3, 2, 0, 1] rfl (by decide) ?_
        exact ((c39_4 n) l0 l1 (l2 + v3) (l3 + (1 : Int32)) pl0)
      · refine g_pure (c' := (33, [(0, .ref l0), (1, .int l1), (2, .int l2), (3, .int l3)], [.int l2], (jE0, M))) 1 rfl ?_
        exact g_ret rfl rfl (fun _ h => h)
    · refine g_pure (c' := (33, [(0, .ref l0), (1, .int l1), (2, .int l2), (3, .int l3)], [.int l2], (jE0, M))) 1 rfl ?_
      exact g_ret rfl rfl (fun _ h => h)
/-- CometKin$Life.goldOfAll -/
def f39 (M : JM) (l0 : Nat) (l1 : Int32) : Option Int32 := (f39_4 M 1000 l0 l1 (0 : Int32) (0 : Int32))
set_option maxRecDepth 100000 in
theorem c39 {xs : Option (List Int32)} {M : JM} (l0 : Nat) (l1 : Int32) (pl0 : jok jE0 l0 2 = true) : JG xs 1 39 (f39 M l0 l1) (fun x r => r = (some (.int x), (jE0, M))) (0, [(0, .ref l0), (1, .int l1)], [], (jE0, M)) := by
    unfold f39
    refine g_pure (c' := (4, [(3, .int (0 : Int32)), (2, .int (0 : Int32)), (0, .ref l0), (1, .int l1)], [], (jE0, M))) 4 rfl ?_
    refine g_weakk (lv := [(0, .ref l0), (1, .int l1), (2, .int (0 : Int32)), (3, .int (0 : Int32))]) ⟨rfl, rfl, rfl, rfl, trivial⟩ [0, 1, 2, 3] rfl (by decide) [3, 2, 0, 1] rfl (by decide) ?_
    exact (c39_4 1000 l0 l1 (0 : Int32) (0 : Int32) pl0)
/-- CometKin.count -/
def f98 (M : JM) (l0 : Nat) (l1 : Int32) : Option Int32 := (if l1 = (0 : Int32) then (some (M (jpt l0 1) 0)) else (if l1 = (1 : Int32) then (some (M (jpt l0 1) 1)) else (if l1 = (2 : Int32) then (some (M (jpt l0 3) 0)) else (if l1 = (3 : Int32) then (some (M (jpt l0 1) 2)) else (if l1 = (4 : Int32) then (some (M (jpt l0 3) 1)) else (if l1 = (5 : Int32) then ((f110 M l0).bind fun v7 => (some v7)) else (if l1 = (6 : Int32) then ((f39 M (jpt l0 3) (M (jpt l0 1) 0)).bind fun v9 => (some v9)) else (if l1 = (7 : Int32) then (some (M (jpt l0 3) 2)) else (if l1 = (8 : Int32) then ((f22 M (jpt l0 1) (M (jpt l0 3) 0)).bind fun v12 => (some v12)) else (if l1 = (9 : Int32) then (some (M (jpt l0 9) 0)) else (if l1 = (10 : Int32) then (some (M l0 6)) else (if l1 = (11 : Int32) then (some (M (jpt l0 0) 1)) else (some (-3 : Int32))))))))))))))
set_option maxRecDepth 100000 in
theorem c98 {xs : Option (List Int32)} {M : JM} (l0 : Nat) (l1 : Int32) (pl0 : jok jE0 l0 6 = true) : JG xs 5 98 (f98 M l0 l1) (fun x r => r = (some (.int x), (jE0, M))) (0, [(0, .ref l0), (1, .int l1)], [], (jE0, M)) := by
    unfold f98
    refine g_pure (c' := (1, [(0, .ref l0), (1, .int l1)], [.int l1], (jE0, M))) 1 rfl ?_
    refine g_eq (fun q1 => ?_) (fun q1 => ?_)
    · refine g_t1 q1 rfl rfl ?_
      refine g_pure (c' := (65, [(0, .ref l0), (1, .int l1)], [.ref l0], (jE0, M))) 1 rfl ?_
      refine g_gp rfl rfl rfl pl0 (jp_ok (kd := 0) pl0 (by decide) (by decide) rfl rfl).1 ?_
      refine g_gf (ci := 0) (k := 0) rfl rfl rfl (jk_ok (kd := 0) pl0 (by decide) (by decide) rfl rfl) ?_
      exact g_ret rfl rfl (fun _ h => h)
    refine g_eq (fun q2 => ?_) (fun q2 => ?_)
    · refine g_t1 q2 rfl rfl ?_
      refine g_pure (c' := (73, [(0, .ref l0), (1, .int l1)], [.ref l0], (jE0, M))) 1 rfl ?_
      refine g_gp rfl rfl rfl pl0 (jp_ok (kd := 0) pl0 (by decide) (by decide) rfl rfl).1 ?_
      refine g_gf (ci := 0) (k := 1) rfl rfl rfl (jk_ok (kd := 0) pl0 (by decide) (by decide) rfl rfl) ?_
      exact g_ret rfl rfl (fun _ h => h)
    refine g_eq (fun q3 => ?_) (fun q3 => ?_)
    · refine g_t1 q3 rfl rfl ?_
      refine g_pure (c' := (81, [(0, .ref l0), (1, .int l1)], [.ref l0], (jE0, M))) 1 rfl ?_
      refine g_gp rfl rfl rfl pl0 (jp_ok (kd := 2) pl0 (by decide) (by decide) rfl rfl).1 ?_
      refine g_gf (ci := 2) (k := 0) rfl rfl rfl (jk_ok (kd := 2) pl0 (by decide) (by decide) rfl rfl) ?_
      exact g_ret rfl rfl (fun _ h => h)
    refine g_eq (fun q4 => ?_) (fun q4 => ?_)
    · refine g_t1 q4 rfl rfl ?_
      refine g_pure (c' := (89, [(0, .ref l0), (1, .int l1)], [.ref l0], (jE0, M))) 1 rfl ?_
      refine g_gp rfl rfl rfl pl0 (jp_ok (kd := 0) pl0 (by decide) (by decide) rfl rfl).1 ?_
      refine g_gf (ci := 0) (k := 2) rfl rfl rfl (jk_ok (kd := 0) pl0 (by decide) (by decide) rfl rfl) ?_
      exact g_ret rfl rfl (fun _ h => h)
    refine g_eq (fun q5 => ?_) (fun q5 => ?_)
    · refine g_t1 q5 rfl rfl ?_
      refine g_pure (c' := (97, [(0, .ref l0), (1, .int l1)], [.ref l0], (jE0, M))) 1 rfl ?_
      refine g_gp rfl rfl rfl pl0 (jp_ok (kd := 2) pl0 (by decide) (by decide) rfl rfl).1 ?_
      refine g_gf (ci := 2) (k := 1) rfl rfl rfl (jk_ok (kd := 2) pl0 (by decide) (by decide) rfl rfl) ?_
      exact g_ret rfl rfl (fun _ h => h)
    refine g_eq (fun q6 => ?_) (fun q6 => ?_)
    · refine g_t1 q6 rfl rfl ?_
      refine g_pure (c' := (105, [(0, .ref l0), (1, .int l1)], [.ref l0], (jE0, M))) 1 rfl ?_
      refine g_cI rfl (jc_v rfl rfl (jv_o pl0 rfl) rfl) (c110 l0 pl0) (by decide) (fun v7 qv7 => ?_)
      exact g_ret rfl rfl (fun _ h => h)
    refine g_eq (fun q8 => ?_) (fun q8 => ?_)
    · refine g_t1 q8 rfl rfl ?_
      refine g_pure (c' := (110, [(0, .ref l0), (1, .int l1)], [.ref l0], (jE0, M))) 1 rfl ?_
      refine g_gp rfl rfl rfl pl0 (jp_ok (kd := 2) pl0 (by decide) (by decide) rfl rfl).1 ?_
      refine g_pure (c' := (114, [(0, .ref l0), (1, .int l1)], [.ref l0, .ref (jpt l0 3)], (jE0, M))) 1 rfl ?_
      refine g_gp rfl rfl rfl pl0 (jp_ok (kd := 0) pl0 (by decide) (by decide) rfl rfl).1 ?_
      refine g_gf (ci := 0) (k := 0) rfl rfl rfl (jk_ok (kd := 0) pl0 (by decide) (by decide) rfl rfl) ?_
      refine g_cI rfl (jc_v rfl rfl (jv_o (jk_ok (kd := 2) pl0 (by decide) (by decide) rfl rfl) rfl) rfl) (c39 (jpt l0 3) (M (jpt l0 1) 0) (jk_ok (kd := 2) pl0 (by decide) (by decide) rfl rfl)) (by decide) (fun v9 qv9 => ?_)
      exact g_ret rfl rfl (fun _ h => h)
    refine g_eq (fun q10 => ?_) (fun q10 => ?_)
    · refine g_t1 q10 rfl rfl ?_
      refine g_pure (c' := (125, [(0, .ref l0), (1, .int l1)], [.ref l0], (jE0, M))) 1 rfl ?_
      refine g_gp rfl rfl rfl pl0 (jp_ok (kd := 2) pl0 (by decide) (by decide) rfl rfl).1 ?_
      refine g_gf (ci := 2) (k := 2) rfl rfl rfl (jk_ok (kd := 2) pl0 (by decide) (by decide) rfl rfl) ?_
      exact g_ret rfl rfl (fun _ h => h)
    refine g_eq (fun q11 => ?_) (fun q11 => ?_)
    · refine g_t1 q11 rfl rfl ?_
      refine g_pure (c' := (133, [(0, .ref l0), (1, .int l1)], [.ref l0], (jE0, M))) 1 rfl ?_
      refine g_gp rfl rfl rfl pl0 (jp_ok (kd := 0) pl0 (by decide) (by decide) rfl rfl).1 ?_
      refine g_pure (c' := (137, [(0, .ref l0), (1, .int l1)], [.ref l0, .ref (jpt l0 1)], (jE0, M))) 1 rfl ?_
      refine g_gp rfl rfl rfl pl0 (jp_ok (kd := 2) pl0 (by decide) (by decide) rfl rfl).1 ?_
      refine g_gf (ci := 2) (k := 0) rfl rfl rfl (jk_ok (kd := 2) pl0 (by decide) (by decide) rfl rfl) ?_
      refine g_cI rfl (jc_v rfl rfl (jv_o (jk_ok (kd := 0) pl0 (by decide) (by decide) rfl rfl) rfl) rfl) (c22 (jpt l0 1) (M (jpt l0 3) 0) (jk_ok (kd := 0) pl0 (by decide) (by decide) rfl rfl)) (by decide) (fun v12 qv12 => ?_)
      exact g_ret rfl rfl (fun _ h => h)
    refine g_eq (fun q13 => ?_) (fun q13 => ?_)
    · refine g_t1 q13 rfl rfl ?_
      refine g_pure (c' := (148, [(0, .ref l0), (1, .int l1)], [.ref l0], (jE0, M))) 1 rfl ?_
      refine g_gp rfl rfl rfl pl0 (jp_ok (kd := 1) pl0 (by decide) (by decide) rfl rfl).1 ?_
      refine g_gf (ci := 1) (k := 0) rfl rfl rfl (jk_ok (kd := 1) pl0 (by decide) (by decide) rfl rfl) ?_
      exact g_ret rfl rfl (fun _ h => h)
    refine g_eq (fun q14 => ?_) (fun q14 => ?_)
    · refine g_t1 q14 rfl rfl ?_
      refine g_pure (c' := (156, [(0, .ref l0), (1, .int l1)], [.ref l0], (jE0, M))) 1 rfl ?_
      refine g_gf (ci := 6) (k := 6) rfl rfl rfl pl0 ?_
      exact g_ret rfl rfl (fun _ h => h)
    refine g_eq (fun q15 => ?_) (fun q15 => ?_)
    · refine g_t1 q15 rfl rfl ?_
      refine g_pure (c' := (161, [(0, .ref l0), (1, .int l1)], [.ref l0], (jE0, M))) 1 rfl ?_
      refine g_gp rfl rfl rfl pl0 (jp_ok (kd := 5) pl0 (by decide) (by decide) rfl rfl).1 ?_
      refine g_gf (ci := 5) (k := 1) rfl rfl rfl (jk_ok (kd := 5) pl0 (by decide) (by decide) rfl rfl) ?_
      exact g_ret rfl rfl (fun _ h => h)
    refine g_t0 (tgt := 168) rfl (fun v h1 h2 => ?_) rfl ?_
    · rcases (show v = 0 ∨ v = 1 ∨ v = 2 ∨ v = 3 ∨ v = 4 ∨ v = 5 ∨ v = 6 ∨ v = 7 ∨ v = 8 ∨ v = 9 ∨ v = 10 ∨ v = 11 by omega) with rfl | rfl | rfl | rfl | rfl | rfl | rfl | rfl | rfl | rfl | rfl | rfl
      · exact q1
      · exact q2
      · exact q3
      · exact q4
      · exact q5
      · exact q6
      · exact q8
      · exact q10
      · exact q11
      · exact q13
      · exact q14
      · exact q15
    refine g_pure (c' := (170, [(0, .ref l0), (1, .int l1)], [.int (-3 : Int32)], (jE0, M))) 1 rfl ?_
    exact g_ret rfl rfl (fun _ h => h)
def f205_4  : Nat → Nat → Int32 → Int32 → Int32 → JM → Option (Int32 × JM)
  | 0, _, _, _, _, _ => none
  | n + 1, l0, l1, l2, l3, M => (if l3 < (M l0 7) then ((jla (jpt l0 0) ((1 : Int32) + l3) M).bind fun v2 => ((f205_4 n) l0 l1 (l2 + v2) (l3 + (1 : Int32)) M)) else (if l1 = (0 : Int32) then (some ((M l0 7), M)) else (if l1 = (1 : Int32) then (some ((M l0 13), M)) else (if l1 = (2 : Int32) then ((jla (jpt l0 0) (0 : Int32) M).bind fun v6 => (some (v6, M))) else (if l1 = (3 : Int32) then (some ((M l0 16), M)) else (if l1 = (4 : Int32) then ((jla (jpt l0 0) (10 : Int32) M).bind fun v9 => (some (v9, M))) else (if l1 = (5 : Int32) then ((f175 M l0).bind fun v11 => (some (v11, M))) else (if l1 = (6 : Int32) then (some (l2, M)) else (if l1 = (7 : Int32) then ((jla (jpt l0 0) (20 : Int32) M).bind fun v14 => (some (v14, M))) else (if l1 = (8 : Int32) then ((f193 l0 M).bind fun z18 => (some (z18.1, z18.2))) else (if l1 = (9 : Int32) then (some ((M l0 27), M)) else (if l1 = (10 : Int32) then (some ((M l0 1), M)) else (if l1 = (11 : Int32) then (some ((M l0 4), M)) else (some ((-3 : Int32), M)))))))))))))))
set_option maxRecDepth 100000 in
theorem c205_4 {xs : Option (List Int32)} : ∀ (n : Nat) (l0 : Nat) (l1 : Int32) (l2 : Int32) (l3 : Int32) (M : JM) (pl0 : jok jE0 l0 7 = true), JG xs 7 205 (f205_4 n l0 l1 l2 l3 M) (fun x r => r = (some (.int x.1), (jE0, x.2))) (4, [(0, .ref l0), (1, .int l1), (2, .int l2), (3, .int l3)], [], (jE0, M))
  | 0, _, _, _, _, _, _ => by rw [f205_4]; exact g_none
  | n + 1, l0, l1, l2, l3, M, pl0 => by
    rw [f205_4]
    refine g_pure (c' := (6, [(0, .ref l0), (1, .int l1), (2, .int l2), (3, .int l3)], [.ref l0, .int l3], (jE0, M))) 2 rfl ?_
    refine g_gf (ci := 7) (k := 7) rfl rfl rfl pl0 ?_
    refine g_ic_ge (tgt := 29) rfl rfl (fun q1 => ?_) (fun q1 => ?_)
    · refine g_pure (c' := (14, [(0, .ref l0), (1, .int l1), (2, .int l2), (3, .int l3)], [.ref l0, .int l2], (jE0, M))) 2 rfl ?_
      refine g_gp rfl rfl rfl pl0 (jp_ok (kd := 8) pl0 (by decide) (by decide) rfl rfl).1 ?_
      refine g_pure (c' := (20, [(0, .ref l0), (1, .int l1), (2, .int l2), (3, .int l3)], [.int ((1 : Int32) + l3), .ref (jpt l0 0), .int l2], (jE0, M))) 3 rfl ?_
      refine g_ia rfl (jk_ok (kd := 8) pl0 (by decide) (by decide) rfl rfl) (fun v2 => ?_)
      refine g_pure (c' := (4, [(3, .int (l3 + (1 : Int32))), (2, .int (l2 + v2)), (0, .ref l0), (1, .int l1)], [], (jE0, M))) 4 rfl ?_
      refine g_weakk (lv := [(0, .ref l0), (1, .int l1), (2, .int (l2 + v2)), (3, .int (l3 + (1 : Int32)))]) ⟨rfl, rfl, rfl, rfl, trivial⟩ [0, 1, 2, 3] rfl (by decide) [3, 2, 0, 1] rfl (by decide) ?_
      exact ((c205_4 n) l0 l1 (l2 + v2) (l3 + (1 : Int32)) M pl0)
    · refine g_pure (c' := (30, [(0, .ref l0), (1, .int l1), (2, .int l2), (3, .int l3)], [.int l1], (jE0, M))) 1 rfl ?_
      refine g_eq (fun q3 => ?_) (fun q3 => ?_)
      · refine g_t1 q3 rfl rfl ?_
        refine g_pure (c' := (93, [(0, .ref l0), (1, .int l1), (2, .int l2), (3, .int l3)], [.ref l0], (jE0, M))) 1 rfl ?_
        refine g_gf (ci := 7) (k := 7) rfl rfl rfl pl0 ?_
        exact g_ret rfl rfl (fun _ h => h)
      refine g_eq (fun q4 => ?_) (fun q4 => ?_)
      · refine g_t1 q4 rfl rfl ?_
        refine g_pure (c' := (98, [(0, .ref l0), (1, .int l1), (2, .int l2), (3, .int l3)], [.ref l0], (jE0, M))) 1 rfl ?_
        refine g_gf (ci := 7) (k := 13) rfl rfl rfl pl0 ?_
        exact g_ret rfl rfl (fun _ h => h)
      refine g_eq (fun q5 => ?_) (fun q5 => ?_)
      · refine g_t1 q5 rfl rfl ?_
        refine g_pure (c' := (103, [(0, .ref l0), (1, .int l1), (2, .int l2), (3, .int l3)], [.ref l0], (jE0, M))) 1 rfl ?_
        refine g_gp rfl rfl rfl pl0 (jp_ok (kd := 8) pl0 (by decide) (by decide) rfl rfl).1 ?_
        refine g_pure (c' := (107, [(0, .ref l0), (1, .int l1), (2, .int l2), (3, .int l3)], [.int (0 : Int32), .ref (jpt l0 0)], (jE0, M))) 1 rfl ?_
        refine g_ia rfl (jk_ok (kd := 8) pl0 (by decide) (by decide) rfl rfl) (fun v6 => ?_)
        exact g_ret rfl rfl (fun _ h => h)
      refine g_eq (fun q7 => ?_) (fun q7 => ?_)
      · refine g_t1 q7 rfl rfl ?_
        refine g_pure (c' := (110, [(0, .ref l0), (1, .int l1), (2, .int l2), (3, .int l3)], [.ref l0], (jE0, M))) 1 rfl ?_
        refine g_gf (ci := 7) (k := 16) rfl rfl rfl pl0 ?_
        exact g_ret rfl rfl (fun _ h => h)
      refine g_eq (fun q8 => ?_) (fun q8 => ?_)
      · refine g_t1 q8 rfl rfl ?_
        refine g_pure (c' := (115, [(0, .ref l0), (1, .int l1), (2, .int l2), (3, .int l3)], [.ref l0], (jE0, M))) 1 rfl ?_
        refine g_gp rfl rfl rfl pl0 (jp_ok (kd := 8) pl0 (by decide) (by decide) rfl rfl).1 ?_
        refine g_pure (c' := (120, [(0, .ref l0), (1, .int l1), (2, .int l2), (3, .int l3)], [.int (10 : Int32), .ref (jpt l0 0)], (jE0, M))) 1 rfl ?_
        refine g_ia rfl (jk_ok (kd := 8) pl0 (by decide) (by decide) rfl rfl) (fun v9 => ?_)
        exact g_ret rfl rfl (fun _ h => h)
      refine g_eq (fun q10 => ?_) (fun q10 => ?_)
      · refine g_t1 q10 rfl rfl ?_
        refine g_pure (c' := (123, [(0, .ref l0), (1, .int l1), (2, .int l2), (3, .int l3)], [.ref l0], (jE0, M))) 1 rfl ?_
        refine g_cI rfl (jc_v rfl rfl (jv_o pl0 rfl) rfl) (c175 l0 pl0) (by decide) (fun v11 qv11 => ?_)
        exact g_ret rfl rfl (fun _ h => h)
      refine g_eq (fun q12 => ?_) (fun q12 => ?_)
      · refine g_t1 q12 rfl rfl ?_
        refine g_pure (c' := (128, [(0, .ref l0), (1, .int l1), (2, .int l2), (3, .int l3)], [.int l2], (jE0, M))) 1 rfl ?_
        exact g_ret rfl rfl (fun _ h => h)
      refine g_eq (fun q13 => ?_) (fun q13 => ?_)
      · refine g_t1 q13 rfl rfl ?_
        refine g_pure (c' := (130, [(0, .ref l0), (1, .int l1), (2, .int l2), (3, .int l3)], [.ref l0], (jE0, M))) 1 rfl ?_
        refine g_gp rfl rfl rfl pl0 (jp_ok (kd := 8) pl0 (by decide) (by decide) rfl rfl).1 ?_
        refine g_pure (c' := (135, [(0, .ref l0), (1, .int l1), (2, .int l2), (3, .int l3)], [.int (20 : Int32), .ref (jpt l0 0)], (jE0, M))) 1 rfl ?_
        refine g_ia rfl (jk_ok (kd := 8) pl0 (by decide) (by decide) rfl rfl) (fun v14 => ?_)
        exact g_ret rfl rfl (fun _ h => h)
      refine g_eq (fun q15 => ?_) (fun q15 => ?_)
      · refine g_t1 q15 rfl rfl ?_
        refine g_pure (c' := (138, [(0, .ref l0), (1, .int l1), (2, .int l2), (3, .int l3)], [.ref l0], (jE0, M))) 1 rfl ?_
        refine g_wI rfl (jc_v rfl rfl (jv_o pl0 rfl) rfl) (c193 l0 M pl0) (by decide) (fun v17 M16 qv17 => ?_)
        exact g_ret rfl rfl (fun _ h => h)
      refine g_eq (fun q19 => ?_) (fun q19 => ?_)
      · refine g_t1 q19 rfl rfl ?_
        refine g_pure (c' := (143, [(0, .ref l0), (1, .int l1), (2, .int l2), (3, .int l3)], [.ref l0], (jE0, M))) 1 rfl ?_
        refine g_gf (ci := 7) (k := 27) rfl rfl rfl pl0 ?_
        exact g_ret rfl rfl (fun _ h => h)
      refine g_eq (fun q20 => ?_) (fun q20 => ?_)
      · refine g_t1 q20 rfl rfl ?_
        refine g_pure (c' := (148, [(0, .ref l0), (1, .int l1), (2, .int l2), (3, .int l3)], [.ref l0], (jE0, M))) 1 rfl ?_
        refine g_gf (ci := 7) (k := 1) rfl rfl rfl pl0 ?_
        exact g_ret rfl rfl (fun _ h => h)
      refine g_eq (fun q21 => ?_) (fun q21 => ?_)
      · refine g_t1 q21 rfl rfl ?_
        refine g_pure (c' := (153, [(0, .ref l0), (1, .int l1), (2, .int l2), (3, .int l3)], [.ref l0], (jE0, M))) 1 rfl ?_
        refine g_gf (ci := 7) (k := 4) rfl rfl rfl pl0 ?_
        exact g_ret rfl rfl (fun _ h => h)
      refine g_t0 (tgt := 157) rfl (fun v h1 h2 => ?_) rfl ?_
      · rcases (show v = 0 ∨ v = 1 ∨ v = 2 ∨ v = 3 ∨ v = 4 ∨ v = 5 ∨ v = 6 ∨ v = 7 ∨ v = 8 ∨ v = 9 ∨ v = 10 ∨ v = 11 by omega) with rfl | rfl | rfl | rfl | rfl | rfl | rfl | rfl | rfl | rfl | rfl | rfl
        · exact q3
        · exact q4
        · exact q5
        · exact q7
        · exact q8
        · exact q10
        · exact q12
        · exact q13
        · exact q15
        · exact q19
        · exact q20
        · exact q21
      refine g_pure (c' := (159, [(0, .ref l0), (1, .int l1), (2, .int l2), (3, .int l3)], [.int (-3 : Int32)], (jE0, M))) 1 rfl ?_
      exact g_ret rfl rfl (fun _ h => h)
/-- CometKinModel.count -/
def f205  (l0 : Nat) (l1 : Int32) (M : JM) : Option (Int32 × JM) := (f205_4 1000 l0 l1 (0 : Int32) (0 : Int32) M)
set_option maxRecDepth 100000 in
theorem c205 {xs : Option (List Int32)} (l0 : Nat) (l1 : Int32) (M : JM) (pl0 : jok jE0 l0 7 = true) : JG xs 7 205 (f205 l0 l1 M) (fun x r => r = (some (.int x.1), (jE0, x.2))) (0, [(0, .ref l0), (1, .int l1)], [], (jE0, M)) := by
    unfold f205
    refine g_pure (c' := (4, [(3, .int (0 : Int32)), (2, .int (0 : Int32)), (0, .ref l0), (1, .int l1)], [], (jE0, M))) 4 rfl ?_
    refine g_weakk (lv := [(0, .ref l0), (1, .int l1), (2, .int (0 : Int32)), (3, .int (0 : Int32))]) ⟨rfl, rfl, rfl, rfl, trivial⟩ [0, 1, 2, 3] rfl (by decide) [3, 2, 0, 1] rfl (by decide) ?_
    exact (c205_4 1000 l0 l1 (0 : Int32) (0 : Int32) M pl0)
def f217_1076 (xs : Option (List Int32)) (h18 : Nat → Nat → Nat → Int32 → JM → Option (Int32 × JM)) (l0 : Nat) (l1 : Nat) (l2 : Nat) (l3 : Int32) (M : JM) : Option (Int32 × JM) := (h18 l0 l1 l2 (l3 + (5 : Int32)) M)
set_option maxRecDepth 100000 in
theorem c217_1076 {xs : Option (List Int32)} (h18 : Nat → Nat → Nat → Int32 → JM → Option (Int32 × JM)) (H18 : ∀ (l0 : Nat) (l1 : Nat) (l2 : Nat) (l3 : Int32) (M : JM) (pl1 : jok jE0 l1 6 = true) (pl2 : jok jE0 l2 7 = true), JG xs 17 217 (h18 l0 l1 l2 l3 M) (fun x r => r = (some (.int x.1), (jE0, x.2))) (18, [(0, .ref l0), (1, .ref l1), (2, .ref l2), (3, .int l3)], [], (jE0, M))) : ∀ (l0 : Nat) (l1 : Nat) (l2 : Nat) (l3 : Int32) (M : JM) (pl1 : jok jE0 l1 6 = true) (pl2 : jok jE0 l2 7 = true), JG xs 17 217 (f217_1076 xs h18 l0 l1 l2 l3 M) (fun x r => r = (some (.int x.1), (jE0, x.2))) (1076, [(0, .ref l0), (1, .ref l1), (2, .ref l2), (3, .int l3)], [], (jE0, M)) := by
    intro l0 l1 l2 l3 M pl1 pl2
    unfold f217_1076
    refine g_pure (c' := (18, [(3, .int (l3 + (5 : Int32))), (0, .ref l0), (1, .ref l1), (2, .ref l2)], [], (jE0, M))) 2 rfl ?_
    refine g_weakk (lv := [(0, .ref l0), (1, .ref l1), (2, .ref l2), (3, .int (l3 + (5 : Int32)))]) ⟨rfl, rfl, rfl, rfl, trivial⟩ [0, 1, 2, 3] rfl (by decide) [3, 0, 1, 2] rfl (by decide) ?_
    exact (H18 l0 l1 l2 (l3 + (5 : Int32)) M pl1 pl2)
def f217_172 (xs : Option (List Int32)) (h18 : Nat → Nat → Nat → Int32 → JM → Option (Int32 × JM)) (l0 : Nat) (l1 : Nat) (l2 : Nat) (l3 : Int32) (M : JM) : Option (Int32 × JM) := ((jlx xs l0 (l3 + (1 : Int32)) M).bind fun v5 => ((f68 l1 v5 M).bind fun z13 => ((jlx xs l0 (l3 + (1 : Int32)) z13.2).bind fun v8 => ((f128 l2 v8 z13.2).bind fun z12 => (if z13.1 = z12.1 then (f217_1076 xs h18 l0 l1 l2 l3 z12.2) else (some ((0 : Int32), z12.2)))))))
set_option maxRecDepth 100000 in
theorem c217_172 {xs : Option (List Int32)} (h18 : Nat → Nat → Nat → Int32 → JM → Option (Int32 × JM)) (H18 : ∀ (l0 : Nat) (l1 : Nat) (l2 : Nat) (l3 : Int32) (M : JM) (pl1 : jok jE0 l1 6 = true) (pl2 : jok jE0 l2 7 = true), JG xs 17 217 (h18 l0 l1 l2 l3 M) (fun x r => r = (some (.int x.1), (jE0, x.2))) (18, [(0, .ref l0), (1, .ref l1), (2, .ref l2), (3, .int l3)], [], (jE0, M))) : ∀ (l0 : Nat) (l1 : Nat) (l2 : Nat) (l3 : Int32) (M : JM) (pl1 : jok jE0 l1 6 = true) (pl2 : jok jE0 l2 7 = true), JG xs 17 217 (f217_172 xs h18 l0 l1 l2 l3 M) (fun x r => r = (some (.int x.1), (jE0, x.2))) (172, [(0, .ref l0), (1, .ref l1), (2, .ref l2), (3, .int l3)], [], (jE0, M)) := by
    intro l0 l1 l2 l3 M pl1 pl2
    unfold f217_172
    refine g_pure (c' := (177, [(0, .ref l0), (1, .ref l1), (2, .ref l2), (3, .int l3)], [.int (l3 + (1 : Int32)), .ref l0, .ref l1], (jE0, M))) 5 rfl ?_
    refine g_ix rfl (fun v5 => ?_)
    refine g_wI rfl (jc_v rfl rfl (jv_o pl1 rfl) rfl) (c68 l1 v5 M pl1) (by decide) (fun v7 M6 qv7 => ?_)
    refine g_pure (c' := (186, [(0, .ref l0), (1, .ref l1), (2, .ref l2), (3, .int l3)], [.int (l3 + (1 : Int32)), .ref l0, .ref l2, .int v7], (jE0, M6))) 5 rfl ?_
    refine g_ix rfl (fun v8 => ?_)
    refine g_wI rfl (jc_v rfl rfl (jv_o pl2 rfl) rfl) (c128 l2 v8 M6 pl2) (by decide) (fun v10 M9 qv10 => ?_)
    refine g_ic_eq (tgt := 1076) rfl rfl (fun q11 => ?_) (fun q11 => ?_)
    · exact (c217_1076 h18 H18 l0 l1 l2 l3 M9 pl1 pl2)
    · refine g_pure (c' := (194, [(0, .ref l0), (1, .ref l1), (2, .ref l2), (3, .int l3)], [.int (0 : Int32)], (jE0, M9))) 1 rfl ?_
      exact g_ret rfl rfl (fun _ h => h)
def f217_195 (xs : Option (List Int32)) (h18 : Nat → Nat → Nat → Int32 → JM → Option (Int32 × JM)) (l0 : Nat) (l1 : Nat) (l2 : Nat) (l3 : Int32) (M : JM) : Option (Int32 × JM) := ((f69 l1 M).bind fun z21 => ((f129 l2 z21.2).bind fun z20 => (if z21.1 = z20.1 then (f217_1076 xs h18 l0 l1 l2 l3 z20.2) else (some ((0 : Int32), z20.2)))))
set_option maxRecDepth 100000 in
theorem c217_195 {xs : Option (List Int32)} (h18 : Nat → Nat → Nat → Int32 → JM → Option (Int32 × JM)) (H18 : ∀ (l0 : Nat) (l1 : Nat) (l2 : Nat) (l3 : Int32) (M : JM) (pl1 : jok jE0 l1 6 = true) (pl2 : jok jE0 l2 7 = true), JG xs 17 217 (h18 l0 l1 l2 l3 M) (fun x r => r = (some (.int x.1), (jE0, x.2))) (18, [(0, .ref l0), (1, .ref l1), (2, .ref l2), (3, .int l3)], [], (jE0, M))) : ∀ (l0 : Nat) (l1 : Nat) (l2 : Nat) (l3 : Int32) (M : JM) (pl1 : jok jE0 l1 6 = true) (pl2 : jok jE0 l2 7 = true), JG xs 17 217 (f217_195 xs h18 l0 l1 l2 l3 M) (fun x r => r = (some (.int x.1), (jE0, x.2))) (195, [(0, .ref l0), (1, .ref l1), (2, .ref l2), (3, .int l3)], [], (jE0, M)) := by
    intro l0 l1 l2 l3 M pl1 pl2
    unfold f217_195
    refine g_pure (c' := (196, [(0, .ref l0), (1, .ref l1), (2, .ref l2), (3, .int l3)], [.ref l1], (jE0, M))) 1 rfl ?_
    refine g_wI rfl (jc_v rfl rfl (jv_o pl1 rfl) rfl) (c69 l1 M pl1) (by decide) (fun v16 M15 qv16 => ?_)
    refine g_pure (c' := (200, [(0, .ref l0), (1, .ref l1), (2, .ref l2), (3, .int l3)], [.ref l2, .int v16], (jE0, M15))) 1 rfl ?_
    refine g_wI rfl (jc_v rfl rfl (jv_o pl2 rfl) rfl) (c129 l2 M15 pl2) (by decide) (fun v18 M17 qv18 => ?_)
    refine g_ic_eq (tgt := 1076) rfl rfl (fun q19 => ?_) (fun q19 => ?_)
    · exact (c217_1076 h18 H18 l0 l1 l2 l3 M17 pl1 pl2)
    · refine g_pure (c' := (207, [(0, .ref l0), (1, .ref l1), (2, .ref l2), (3, .int l3)], [.int (0 : Int32)], (jE0, M17))) 1 rfl ?_
      exact g_ret rfl rfl (fun _ h => h)
def f217_208 (xs : Option (List Int32)) (h18 : Nat → Nat → Nat → Int32 → JM → Option (Int32 × JM)) (l0 : Nat) (l1 : Nat) (l2 : Nat) (l3 : Int32) (M : JM) : Option (Int32 × JM) := ((f70 xs l1 M).bind fun z29 => ((f141 l2 z29.2).bind fun z28 => (if z29.1 = z28.1 then (f217_1076 xs h18 l0 l1 l2 l3 z28.2) else (some ((0 : Int32), z28.2)))))
set_option maxRecDepth 100000 in
theorem c217_208 {xs : Option (List Int32)} (h18 : Nat → Nat → Nat → Int32 → JM → Option (Int32 × JM)) (H18 : ∀ (l0 : Nat) (l1 : Nat) (l2 : Nat) (l3 : Int32) (M : JM) (pl1 : jok jE0 l1 6 = true) (pl2 : jok jE0 l2 7 = true), JG xs 17 217 (h18 l0 l1 l2 l3 M) (fun x r => r = (some (.int x.1), (jE0, x.2))) (18, [(0, .ref l0), (1, .ref l1), (2, .ref l2), (3, .int l3)], [], (jE0, M))) : ∀ (l0 : Nat) (l1 : Nat) (l2 : Nat) (l3 : Int32) (M : JM) (pl1 : jok jE0 l1 6 = true) (pl2 : jok jE0 l2 7 = true), JG xs 17 217 (f217_208 xs h18 l0 l1 l2 l3 M) (fun x r => r = (some (.int x.1), (jE0, x.2))) (208, [(0, .ref l0), (1, .ref l1), (2, .ref l2), (3, .int l3)], [], (jE0, M)) := by
    intro l0 l1 l2 l3 M pl1 pl2
    unfold f217_208
    refine g_pure (c' := (209, [(0, .ref l0), (1, .ref l1), (2, .ref l2), (3, .int l3)], [.ref l1], (jE0, M))) 1 rfl ?_
    refine g_wI rfl (jc_v rfl rfl (jv_o pl1 rfl) rfl) (c70 l1 M pl1) (by decide) (fun v24 M23 qv24 => ?_)
    refine g_pure (c' := (213, [(0, .ref l0), (1, .ref l1), (2, .ref l2), (3, .int l3)], [.ref l2, .int v24], (jE0, M23))) 1 rfl ?_
    refine g_wI rfl (jc_v rfl rfl (jv_o pl2 rfl) rfl) (c141 l2 M23 pl2) (by decide) (fun v26 M25 qv26 => ?_)
    refine g_ic_eq (tgt := 1076) rfl rfl (fun q27 => ?_) (fun q27 => ?_)
    · exact (c217_1076 h18 H18 l0 l1 l2 l3 M25 pl1 pl2)
    · refine g_pure (c' := (220, [(0, .ref l0), (1, .ref l1), (2, .ref l2), (3, .int l3)], [.int (0 : Int32)], (jE0, M25))) 1 rfl ?_
      exact g_ret rfl rfl (fun _ h => h)
def f217_221 (xs : Option (List Int32)) (h18 : Nat → Nat → Nat → Int32 → JM → Option (Int32 × JM)) (l0 : Nat) (l1 : Nat) (l2 : Nat) (l3 : Int32) (M : JM) : Option (Int32 × JM) := ((f71 xs l1 M).bind fun z37 => ((f146 l2 z37.2).bind fun z36 => (if z37.1 = z36.1 then (f217_1076 xs h18 l0 l1 l2 l3 z36.2) else (some ((0 : Int32), z36.2)))))
set_option maxRecDepth 100000 in
theorem c217_221 {xs : Option (List Int32)} (h18 : Nat → Nat → Nat → Int32 → JM → Option (Int32 × JM)) (H18 : ∀ (l0 : Nat) (l1 : Nat) (l2 : Nat) (l3 : Int32) (M : JM) (pl1 : jok jE0 l1 6 = true) (pl2 : jok jE0 l2 7 = true), JG xs 17 217 (h18 l0 l1 l2 l3 M) (fun x r => r = (some (.int x.1), (jE0, x.2))) (18, [(0, .ref l0), (1, .ref l1), (2, .ref l2), (3, .int l3)], [], (jE0, M))) : ∀ (l0 : Nat) (l1 : Nat) (l2 : Nat) (l3 : Int32) (M : JM) (pl1 : jok jE0 l1 6 = true) (pl2 : jok jE0 l2 7 = true), JG xs 17 217 (f217_221 xs h18 l0 l1 l2 l3 M) (fun x r => r = (some (.int x.1), (jE0, x.2))) (221, [(0, .ref l0), (1, .ref l1), (2, .ref l2), (3, .int l3)], [], (jE0, M)) := by
    intro l0 l1 l2 l3 M pl1 pl2
    unfold f217_221
    refine g_pure (c' := (222, [(0, .ref l0), (1, .ref l1), (2, .ref l2), (3, .int l3)], [.ref l1], (jE0, M))) 1 rfl ?_
    refine g_wI rfl (jc_v rfl rfl (jv_o pl1 rfl) rfl) (c71 l1 M pl1) (by decide) (fun v32 M31 qv32 => ?_)
    refine g_pure (c' := (226, [(0, .ref l0), (1, .ref l1), (2, .ref l2), (3, .int l3)], [.ref l2, .int v32], (jE0, M31))) 1 rfl ?_
    refine g_wI rfl (jc_v rfl rfl (jv_o pl2 rfl) rfl) (c146 l2 M31 pl2) (by decide) (fun v34 M33 qv34 => ?_)
    refine g_ic_eq (tgt := 1076) rfl rfl (fun q35 => ?_) (fun q35 => ?_)
    · exact (c217_1076 h18 H18 l0 l1 l2 l3 M33 pl1 pl2)
    · refine g_pure (c' := (233, [(0, .ref l0), (1, .ref l1), (2, .ref l2), (3, .int l3)], [.int (0 : Int32)], (jE0, M33))) 1 rfl ?_
      exact g_ret rfl rfl (fun _ h => h)
def f217_234 (xs : Option (List Int32)) (h18 : Nat → Nat → Nat → Int32 → JM → Option (Int32 × JM)) (l0 : Nat) (l1 : Nat) (l2 : Nat) (l3 : Int32) (M : JM) : Option (Int32 × JM) := ((jlx xs l0 (l3 + (1 : Int32)) M).bind fun v39 => ((jlx xs l0 (l3 + (2 : Int32)) M).bind fun v40 => ((f72 M l1 v39 v40).bind fun v41 => ((jlx xs l0 (l3 + (1 : Int32)) M).bind fun v42 => ((jlx xs l0 (l3 + (2 : Int32)) M).bind fun v43 => ((f163 M l2 v42 v43).bind fun v44 => (if v41 = v44 then (f217_1076 xs h18 l0 l1 l2 l3 M) else (some ((0 : Int32), M)))))))))
set_option maxRecDepth 100000 in
theorem c217_234 {xs : Option (List Int32)} (h18 : Nat → Nat → Nat → Int32 → JM → Option (Int32 × JM)) (H18 : ∀ (l0 : Nat) (l1 : Nat) (l2 : Nat) (l3 : Int32) (M : JM) (pl1 : jok jE0 l1 6 = true) (pl2 : jok jE0 l2 7 = true), JG xs 17 217 (h18 l0 l1 l2 l3 M) (fun x r => r = (some (.int x.1), (jE0, x.2))) (18, [(0, .ref l0), (1, .ref l1), (2, .ref l2), (3, .int l3)], [], (jE0, M))) : ∀ (l0 : Nat) (l1 : Nat) (l2 : Nat) (l3 : Int32) (M : JM) (pl1 : jok jE0 l1 6 = true) (pl2 : jok jE0 l2 7 = true), JG xs 17 217 (f217_234 xs h18 l0 l1 l2 l3 M) (fun x r => r = (some (.int x.1), (jE0, x.2))) (234, [(0, .ref l0), (1, .ref l1), (2, .ref l2), (3, .int l3)], [], (jE0, M)) := by
    intro l0 l1 l2 l3 M pl1 pl2
    unfold f217_234
    refine g_pure (c' := (239, [(0, .ref l0), (1, .ref l1), (2, .ref l2), (3, .int l3)], [.int (l3 + (1 : Int32)), .ref l0, .ref l1], (jE0, M))) 5 rfl ?_
    refine g_ix rfl (fun v39 => ?_)
    refine g_pure (c' := (244, [(0, .ref l0), (1, .ref l1), (2, .ref l2), (3, .int l3)], [.int (l3 + (2 : Int32)), .ref l0, .int v39, .ref l1], (jE0, M))) 4 rfl ?_
    refine g_ix rfl (fun v40 => ?_)
    refine g_cI rfl (jc_v rfl rfl (jv_o pl1 rfl) rfl) (c72 l1 v39 v40 pl1) (by decide) (fun v41 qv41 => ?_)
    refine g_pure (c' := (253, [(0, .ref l0), (1, .ref l1), (2, .ref l2), (3, .int l3)], [.int (l3 + (1 : Int32)), .ref l0, .ref l2, .int v41], (jE0, M))) 5 rfl ?_
    refine g_ix rfl (fun v42 => ?_)
    refine g_pure (c' := (258, [(0, .ref l0), (1, .ref l1), (2, .ref l2), (3, .int l3)], [.int (l3 + (2 : Int32)), .ref l0, .int v42, .ref l2, .int v41], (jE0, M))) 4 rfl ?_
    refine g_ix rfl (fun v43 => ?_)
    refine g_cI rfl (jc_v rfl rfl (jv_o pl2 rfl) rfl) (c163 l2 v42 v43 pl2) (by decide) (fun v44 qv44 => ?_)
    refine g_ic_eq (tgt := 1076) rfl rfl (fun q45 => ?_) (fun q45 => ?_)
    · exact (c217_1076 h18 H18 l0 l1 l2 l3 M pl1 pl2)
    · refine g_pure (c' := (266, [(0, .ref l0), (1, .ref l1), (2, .ref l2), (3, .int l3)], [.int (0 : Int32)], (jE0, M))) 1 rfl ?_
      exact g_ret rfl rfl (fun _ h => h)
def f217_267 (xs : Option (List Int32)) (h18 : Nat → Nat → Nat → Int32 → JM → Option (Int32 × JM)) (l0 : Nat) (l1 : Nat) (l2 : Nat) (l3 : Int32) (M : JM) : Option (Int32 × JM) := ((jlx xs l0 (l3 + (1 : Int32)) M).bind fun v47 => ((jlx xs l0 (l3 + (2 : Int32)) M).bind fun v48 => ((f73 M l1 v47 v48).bind fun v49 => ((jlx xs l0 (l3 + (1 : Int32)) M).bind fun v50 => ((jlx xs l0 (l3 + (2 : Int32)) M).bind fun v51 => ((f164 M l2 v50 v51).bind fun v52 => (if v49 = v52 then (f217_1076 xs h18 l0 l1 l2 l3 M) else (some ((0 : Int32), M)))))))))
set_option maxRecDepth 100000 in
theorem c217_267 {xs : Option (List Int32)} (h18 : Nat → Nat → Nat → Int32 → JM → Option (Int32 × JM)) (H18 : ∀ (l0 : Nat) (l1 : Nat) (l2 : Nat) (l3 : Int32) (M : JM) (pl1 : jok jE0 l1 6 = true) (pl2 : jok jE0 l2 7 = true), JG xs 17 217 (h18 l0 l1 l2 l3 M) (fun x r => r = (some (.int x.1), (jE0, x.2))) (18, [(0, .ref l0), (1, .ref l1), (2, .ref l2), (3, .int l3)], [], (jE0, M))) : ∀ (l0 : Nat) (l1 : Nat) (l2 : Nat) (l3 : Int32) (M : JM) (pl1 : jok jE0 l1 6 = true) (pl2 : jok jE0 l2 7 = true), JG xs 17 217 (f217_267 xs h18 l0 l1 l2 l3 M) (fun x r => r = (some (.int x.1), (jE0, x.2))) (267, [(0, .ref l0), (1, .ref l1), (2, .ref l2), (3, .int l3)], [], (jE0, M)) := by
    intro l0 l1 l2 l3 M pl1 pl2
    unfold f217_267
    refine g_pure (c' := (272, [(0, .ref l0), (1, .ref l1), (2, .ref l2), (3, .int l3)], [.int (l3 + (1 : Int32)), .ref l0, .ref l1], (jE0, M))) 5 rfl ?_
    refine g_ix rfl (fun v47 => ?_)
    refine g_pure (c' := (277, [(0, .ref l0), (1, .ref l1), (2, .ref l2), (3, .int l3)], [.int (l3 + (2 : Int32)), .ref l0, .int v47, .ref l1], (jE0, M))) 4 rfl ?_
    refine g_ix rfl (fun v48 => ?_)
    refine g_cI rfl (jc_v rfl rfl (jv_o pl1 rfl) rfl) (c73 l1 v47 v48 pl1) (by decide) (fun v49 qv49 => ?_)
    refine g_pure (c' := (286, [(0, .ref l0), (1, .ref l1), (2, .ref l2), (3, .int l3)], [.int (l3 + (1 : Int32)), .ref l0, .ref l2, .int v49], (jE0, M))) 5 rfl ?_
    refine g_ix rfl (fun v50 => ?_)
    refine g_pure (c' := (291, [(0, .ref l0), (1, .ref l1), (2, .ref l2), (3, .int l3)], [.int (l3 + (2 : Int32)), .ref l0, .int v50, .ref l2, .int v49], (jE0, M))) 4 rfl ?_
    refine g_ix rfl (fun v51 => ?_)
    refine g_cI rfl (jc_v rfl rfl (jv_o pl2 rfl) rfl) (c164 l2 v50 v51 pl2) (by decide) (fun v52 qv52 => ?_)
    refine g_ic_eq (tgt := 1076) rfl rfl (fun q53 => ?_) (fun q53 => ?_)
    · exact (c217_1076 h18 H18 l0 l1 l2 l3 M pl1 pl2)
    · refine g_pure (c' := (299, [(0, .ref l0), (1, .ref l1), (2, .ref l2), (3, .int l3)], [.int (0 : Int32)], (jE0, M))) 1 rfl ?_
      exact g_ret rfl rfl (fun _ h => h)
def f217_300 (xs : Option (List Int32)) (h18 : Nat → Nat → Nat → Int32 → JM → Option (Int32 × JM)) (l0 : Nat) (l1 : Nat) (l2 : Nat) (l3 : Int32) (M : JM) : Option (Int32 × JM) := ((jlx xs l0 (l3 + (1 : Int32)) M).bind fun v55 => ((jlx xs l0 (l3 + (2 : Int32)) M).bind fun v56 => ((f74 xs M l1 v55 v56).bind fun v57 => ((jlx xs l0 (l3 + (1 : Int32)) M).bind fun v58 => ((jlx xs l0 (l3 + (2 : Int32)) M).bind fun v59 => ((f165 M l2 v58 v59).bind fun v60 => (if v57 = v60 then (f217_1076 xs h18 l0 l1 l2 l3 M) else (some ((0 : Int32), M)))))))))
set_option maxRecDepth 100000 in
theorem c217_300 {xs : Option (List Int32)} (h18 : Nat → Nat → Nat → Int32 → JM → Option (Int32 × JM)) (H18 : ∀ (l0 : Nat) (l1 : Nat) (l2 : Nat) (l3 : Int32) (M : JM) (pl1 : jok jE0 l1 6 = true) (pl2 : jok jE0 l2 7 = true), JG xs 17 217 (h18 l0 l1 l2 l3 M) (fun x r => r = (some (.int x.1), (jE0, x.2))) (18, [(0, .ref l0), (1, .ref l1), (2, .ref l2), (3, .int l3)], [], (jE0, M))) : ∀ (l0 : Nat) (l1 : Nat) (l2 : Nat) (l3 : Int32) (M : JM) (pl1 : jok jE0 l1 6 = true) (pl2 : jok jE0 l2 7 = true), JG xs 17 217 (f217_300 xs h18 l0 l1 l2 l3 M) (fun x r => r = (some (.int x.1), (jE0, x.2))) (300, [(0, .ref l0), (1, .ref l1), (2, .ref l2), (3, .int l3)], [], (jE0, M)) := by
    intro l0 l1 l2 l3 M pl1 pl2
    unfold f217_300
    refine g_pure (c' := (305, [(0, .ref l0), (1, .ref l1), (2, .ref l2), (3, .int l3)], [.int (l3 + (1 : Int32)), .ref l0, .ref l1], (jE0, M))) 5 rfl ?_
    refine g_ix rfl (fun v55 => ?_)
    refine g_pure (c' := (310, [(0, .ref l0), (1, .ref l1), (2, .ref l2), (3, .int l3)], [.int (l3 + (2 : Int32)), .ref l0, .int v55, .ref l1], (jE0, M))) 4 rfl ?_
    refine g_ix rfl (fun v56 => ?_)
    refine g_cI rfl (jc_v rfl rfl (jv_o pl1 rfl) rfl) (c74 l1 v55 v56 pl1) (by decide) (fun v57 qv57 => ?_)
    refine g_pure (c' := (319, [(0, .ref l0), (1, .ref l1), (2, .ref l2), (3, .int l3)], [.int (l3 + (1 : Int32)), .ref l0, .ref l2, .int v57], (jE0, M))) 5 rfl ?_
    refine g_ix rfl (fun v58 => ?_)
    refine g_pure (c' := (324, [(0, .ref l0), (1, .ref l1), (2, .ref l2), (3, .int l3)], [.int (l3 + (2 : Int32)), .ref l0, .int v58, .ref l2, .int v57], (jE0, M))) 4 rfl ?_
    refine g_ix rfl (fun v59 => ?_)
    refine g_cI rfl (jc_v rfl rfl (jv_o pl2 rfl) rfl) (c165 l2 v58 v59 pl2) (by decide) (fun v60 qv60 => ?_)
    refine g_ic_eq (tgt := 1076) rfl rfl (fun q61 => ?_) (fun q61 => ?_)
    · exact (c217_1076 h18 H18 l0 l1 l2 l3 M pl1 pl2)
    · refine g_pure (c' := (332, [(0, .ref l0), (1, .ref l1), (2, .ref l2), (3, .int l3)], [.int (0 : Int32)], (jE0, M))) 1 rfl ?_
      exact g_ret rfl rfl (fun _ h => h)
def f217_333 (xs : Option (List Int32)) (h18 : Nat → Nat → Nat → Int32 → JM → Option (Int32 × JM)) (l0 : Nat) (l1 : Nat) (l2 : Nat) (l3 : Int32) (M : JM) : Option (Int32 × JM) := ((jlx xs l0 (l3 + (1 : Int32)) M).bind fun v63 => ((jlx xs l0 (l3 + (2 : Int32)) M).bind fun v64 => ((f75 xs M l1 v63 v64).bind fun v65 => ((jlx xs l0 (l3 + (1 : Int32)) M).bind fun v66 => ((jlx xs l0 (l3 + (2 : Int32)) M).bind fun v67 => ((f166 M l2 v66 v67).bind fun v68 => (if v65 = v68 then (f217_1076 xs h18 l0 l1 l2 l3 M) else (some ((0 : Int32), M)))))))))
set_option maxRecDepth 100000 in
theorem c217_333 {xs : Option (List Int32)} (h18 : Nat → Nat → Nat → Int32 → JM → Option (Int32 × JM)) (H18 : ∀ (l0 : Nat) (l1 : Nat) (l2 : Nat) (l3 : Int32) (M : JM) (pl1 : jok jE0 l1 6 = true) (pl2 : jok jE0 l2 7 = true), JG xs 17 217 (h18 l0 l1 l2 l3 M) (fun x r => r = (some (.int x.1), (jE0, x.2))) (18, [(0, .ref l0), (1, .ref l1), (2, .ref l2), (3, .int l3)], [], (jE0, M))) : ∀ (l0 : Nat) (l1 : Nat) (l2 : Nat) (l3 : Int32) (M : JM) (pl1 : jok jE0 l1 6 = true) (pl2 : jok jE0 l2 7 = true), JG xs 17 217 (f217_333 xs h18 l0 l1 l2 l3 M) (fun x r => r = (some (.int x.1), (jE0, x.2))) (333, [(0, .ref l0), (1, .ref l1), (2, .ref l2), (3, .int l3)], [], (jE0, M)) := by
    intro l0 l1 l2 l3 M pl1 pl2
    unfold f217_333
    refine g_pure (c' := (338, [(0, .ref l0), (1, .ref l1), (2, .ref l2), (3, .int l3)], [.int (l3 + (1 : Int32)), .ref l0, .ref l1], (jE0, M))) 5 rfl ?_
    refine g_ix rfl (fun v63 => ?_)
    refine g_pure (c' := (343, [(0, .ref l0), (1, .ref l1), (2, .ref l2), (3, .int l3)], [.int (l3 + (2 : Int32)), .ref l0, .int v63, .ref l1], (jE0, M))) 4 rfl ?_
    refine g_ix rfl (fun v64 => ?_)
    refine g_cI rfl (jc_v rfl rfl (jv_o pl1 rfl) rfl) (c75 l1 v63 v64 pl1) (by decide) (fun v65 qv65 => ?_)
    refine g_pure (c' := (352, [(0, .ref l0), (1, .ref l1), (2, .ref l2), (3, .int l3)], [.int (l3 + (1 : Int32)), .ref l0, .ref l2, .int v65], (jE0, M))) 5 rfl ?_
    refine g_ix rfl (fun v66 => ?_)
    refine g_pure (c' := (357, [(0, .ref l0), (1, .ref l1), (2, .ref l2), (3, .int l3)], [.int (l3 + (2 : Int32)), .ref l0, .int v66, .ref l2, .int v65], (jE0, M))) 4 rfl ?_
    refine g_ix rfl (fun v67 => ?_)
    refine g_cI rfl (jc_v rfl rfl (jv_o pl2 rfl) rfl) (c166 l2 v66 v67 pl2) (by decide) (fun v68 qv68 => ?_)
    refine g_ic_eq (tgt := 1076) rfl rfl (fun q69 => ?_) (fun q69 => ?_)
    · exact (c217_1076 h18 H18 l0 l1 l2 l3 M pl1 pl2)
    · refine g_pure (c' := (365, [(0, .ref l0), (1, .ref l1), (2, .ref l2), (3, .int l3)], [.int (0 : Int32)], (jE0, M))) 1 rfl ?_
      exact g_ret rfl rfl (fun _ h => h)
def f217_366 (xs : Option (List Int32)) (h18 : Nat → Nat → Nat → Int32 → JM → Option (Int32 × JM)) (l0 : Nat) (l1 : Nat) (l2 : Nat) (l3 : Int32) (M : JM) : Option (Int32 × JM) := ((jlx xs l0 (l3 + (1 : Int32)) M).bind fun v71 => ((jlx xs l0 (l3 + (2 : Int32)) M).bind fun v72 => ((jlx xs l0 (l3 + (3 : Int32)) M).bind fun v73 => ((f76 M l1 v71 v72 v73).bind fun v74 => ((jlx xs l0 (l3 + (1 : Int32)) M).bind fun v75 => ((jlx xs l0 (l3 + (2 : Int32)) M).bind fun v76 => ((jlx xs l0 (l3 + (3 : Int32)) M).bind fun v77 => ((f167 l2 v75 v76 v77 M).bind fun z81 => (if v74 = z81.1 then (f217_1076 xs h18 l0 l1 l2 l3 z81.2) else (some ((0 : Int32), z81.2)))))))))))
set_option maxRecDepth 100000 in
theorem c217_366 {xs : Option (List Int32)} (h18 : Nat → Nat → Nat → Int32 → JM → Option (Int32 × JM)) (H18 : ∀ (l0 : Nat) (l1 : Nat) (l2 : Nat) (l3 : Int32) (M : JM) (pl1 : jok jE0 l1 6 = true) (pl2 : jok jE0 l2 7 = true), JG xs 17 217 (h18 l0 l1 l2 l3 M) (fun x r => r = (some (.int x.1), (jE0, x.2))) (18, [(0, .ref l0), (1, .ref l1), (2, .ref l2), (3, .int l3)], [], (jE0, M))) : ∀ (l0 : Nat) (l1 : Nat) (l2 : Nat) (l3 : Int32) (M : JM) (pl1 : jok jE0 l1 6 = true) (pl2 : jok jE0 l2 7 = true), JG xs 17 217 (f217_366 xs h18 l0 l1 l2 l3 M) (fun x r => r = (some (.int x.1), (jE0, x.2))) (366, [(0, .ref l0), (1, .ref l1), (2, .ref l2), (3, .int l3)], [], (jE0, M)) := by
    intro l0 l1 l2 l3 M pl1 pl2
    unfold f217_366
    refine g_pure (c' := (371, [(0, .ref l0), (1, .ref l1), (2, .ref l2), (3, .int l3)], [.int (l3 + (1 : Int32)), .ref l0, .ref l1], (jE0, M))) 5 rfl ?_
    refine g_ix rfl (fun v71 => ?_)
    refine g_pure (c' := (376, [(0, .ref l0), (1, .ref l1), (2, .ref l2), (3, .int l3)], [.int (l3 + (2 : Int32)), .ref l0, .int v71, .ref l1], (jE0, M))) 4 rfl ?_
    refine g_ix rfl (fun v72 => ?_)
    refine g_pure (c' := (381, [(0, .ref l0), (1, .ref l1), (2, .ref l2), (3, .int l3)], [.int (l3 + (3 : Int32)), .ref l0, .int v72, .int v71, .ref l1], (jE0, M))) 4 rfl ?_
    refine g_ix rfl (fun v73 => ?_)
    refine g_cI rfl (jc_v rfl rfl (jv_o pl1 rfl) rfl) (c76 l1 v71 v72 v73 pl1) (by decide) (fun v74 qv74 => ?_)
    refine g_pure (c' := (390, [(0, .ref l0), (1, .ref l1), (2, .ref l2), (3, .int l3)], [.int (l3 + (1 : Int32)), .ref l0, .ref l2, .int v74], (jE0, M))) 5 rfl ?_
    refine g_ix rfl (fun v75 => ?_)
    refine g_pure (c' := (395, [(0, .ref l0), (1, .ref l1), (2, .ref l2), (3, .int l3)], [.int (l3 + (2 : Int32)), .ref l0, .int v75, .ref l2, .int v74], (jE0, M))) 4 rfl ?_
    refine g_ix rfl (fun v76 => ?_)
    refine g_pure (c' := (400, [(0, .ref l0), (1, .ref l1), (2, .ref l2), (3, .int l3)], [.int (l3 + (3 : Int32)), .ref l0, .int v76, .int v75, .ref l2, .int v74], (jE0, M))) 4 rfl ?_
    refine g_ix rfl (fun v77 => ?_)
    refine g_wI rfl (jc_v rfl rfl (jv_o pl2 rfl) rfl) (c167 l2 v75 v76 v77 M pl2) (by decide) (fun v79 M78 qv79 => ?_)
    refine g_ic_eq (tgt := 1076) rfl rfl (fun q80 => ?_) (fun q80 => ?_)
    · exact (c217_1076 h18 H18 l0 l1 l2 l3 M78 pl1 pl2)
    · refine g_pure (c' := (408, [(0, .ref l0), (1, .ref l1), (2, .ref l2), (3, .int l3)], [.int (0 : Int32)], (jE0, M78))) 1 rfl ?_
      exact g_ret rfl rfl (fun _ h => h)
def f217_409 (xs : Option (List Int32)) (h18 : Nat → Nat → Nat → Int32 → JM → Option (Int32 × JM)) (l0 : Nat) (l1 : Nat) (l2 : Nat) (l3 : Int32) (M : JM) : Option (Int32 × JM) := ((jlx xs l0 (l3 + (1 : Int32)) M).bind fun v83 => ((jlx xs l0 (l3 + (2 : Int32)) M).bind fun v84 => ((f77 M l1 v83 v84).bind fun v85 => ((jlx xs l0 (l3 + (1 : Int32)) M).bind fun v86 => ((jlx xs l0 (l3 + (2 : Int32)) M).bind fun v87 => ((f168 l2 v86 v87 M).bind fun z91 => (if v85 = z91.1 then (f217_1076 xs h18 l0 l1 l2 l3 z91.2) else (some ((0 : Int32), z91.2)))))))))
set_option maxRecDepth 100000 in
theorem c217_409 {xs : Option (List Int32)} (h18 : Nat → Nat → Nat → Int32 → JM → Option (Int32 × JM)) (H18 : ∀ (l0 : Nat) (l1 : Nat) (l2 : Nat) (l3 : Int32) (M : JM) (pl1 : jok jE0 l1 6 = true) (pl2 : jok jE0 l2 7 = true), JG xs 17 217 (h18 l0 l1 l2 l3 M) (fun x r => r = (some (.int x.1), (jE0, x.2))) (18, [(0, .ref l0), (1, .ref l1), (2, .ref l2), (3, .int l3)], [], (jE0, M))) : ∀ (l0 : Nat) (l1 : Nat) (l2 : Nat) (l3 : Int32) (M : JM) (pl1 : jok jE0 l1 6 = true) (pl2 : jok jE0 l2 7 = true), JG xs 17 217 (f217_409 xs h18 l0 l1 l2 l3 M) (fun x r => r = (some (.int x.1), (jE0, x.2))) (409, [(0, .ref l0), (1, .ref l1), (2, .ref l2), (3, .int l3)], [], (jE0, M)) := by
    intro l0 l1 l2 l3 M pl1 pl2
    unfold f217_409
    refine g_pure (c' := (414, [(0, .ref l0), (1, .ref l1), (2, .ref l2), (3, .int l3)], [.int (l3 + (1 : Int32)), .ref l0, .ref l1], (jE0, M))) 5 rfl ?_
    refine g_ix rfl (fun v83 => ?_)
    refine g_pure (c' := (419, [(0, .ref l0), (1, .ref l1), (2, .ref l2), (3, .int l3)], [.int (l3 + (2 : Int32)), .ref l0, .int v83, .ref l1], (jE0, M))) 4 rfl ?_
    refine g_ix rfl (fun v84 => ?_)
    refine g_cI rfl (jc_v rfl rfl (jv_o pl1 rfl) rfl) (c77 l1 v83 v84 pl1) (by decide) (fun v85 qv85 => ?_)
    refine g_pure (c' := (428, [(0, .ref l0), (1, .ref l1), (2, .ref l2), (3, .int l3)], [.int (l3 + (1 : Int32)), .ref l0, .ref l2, .int v85], (jE0, M))) 5 rfl ?_
    refine g_ix rfl (fun v86 => ?_)
    refine g_pure (c' := (433, [(0, .ref l0), (1, .ref l1), (2, .ref l2), (3, .int l3)], [.int (l3 + (2 : Int32)), .ref l0, .int v86, .ref l2, .int v85], (jE0, M))) 4 rfl ?_
    refine g_ix rfl (fun v87 => ?_)
    refine g_wI rfl (jc_v rfl rfl (jv_o pl2 rfl) rfl) (c168 l2 v86 v87 M pl2) (by decide) (fun v89 M88 qv89 => ?_)
    refine g_ic_eq (tgt := 1076) rfl rfl (fun q90 => ?_) (fun q90 => ?_)
    · exact (c217_1076 h18 H18 l0 l1 l2 l3 M88 pl1 pl2)
    · refine g_pure (c' := (441, [(0, .ref l0), (1, .ref l1), (2, .ref l2), (3, .int l3)], [.int (0 : Int32)], (jE0, M88))) 1 rfl ?_
      exact g_ret rfl rfl (fun _ h => h)
def f217_442 (xs : Option (List Int32)) (h18 : Nat → Nat → Nat → Int32 → JM → Option (Int32 × JM)) (l0 : Nat) (l1 : Nat) (l2 : Nat) (l3 : Int32) (M : JM) : Option (Int32 × JM) := ((jlx xs l0 (l3 + (1 : Int32)) M).bind fun v93 => ((f78 l1 v93 M).bind fun z101 => ((jlx xs l0 (l3 + (1 : Int32)) z101.2).bind fun v96 => ((f171 l2 v96 z101.2).bind fun z100 => (if z101.1 = z100.1 then (f217_1076 xs h18 l0 l1 l2 l3 z100.2) else (some ((0 : Int32), z100.2)))))))
set_option maxRecDepth 100000 in
theorem c217_442 {xs : Option (List Int32)} (h18 : Nat → Nat → Nat → Int32 → JM → Option (Int32 × JM)) (H18 : ∀ (l0 : Nat) (l1 : Nat) (l2 : Nat) (l3 : Int32) (M : JM) (pl1 : jok jE0 l1 6 = true) (pl2 : jok jE0 l2 7 = true), JG xs 17 217 (h18 l0 l1 l2 l3 M) (fun x r => r = (some (.int x.1), (jE0, x.2))) (18, [(0, .ref l0), (1, .ref l1), (2, .ref l2), (3, .int l3)], [], (jE0, M))) : ∀ (l0 : Nat) (l1 : Nat) (l2 : Nat) (l3 : Int32) (M : JM) (pl1 : jok jE0 l1 6 = true) (pl2 : jok jE0 l2 7 = true), JG xs 17 217 (f217_442 xs h18 l0 l1 l2 l3 M) (fun x r => r = (some (.int x.1), (jE0, x.2))) (442, [(0, .ref l0), (1, .ref l1), (2, .ref l2), (3, .int l3)], [], (jE0, M)) := by
    intro l0 l1 l2 l3 M pl1 pl2
    unfold f217_442
    refine g_pure (c' := (447, [(0, .ref l0), (1, .ref l1), (2, .ref l2), (3, .int l3)], [.int (l3 + (1 : Int32)), .ref l0, .ref l1], (jE0, M))) 5 rfl ?_
    refine g_ix rfl (fun v93 => ?_)
    refine g_wI rfl (jc_v rfl rfl (jv_o pl1 rfl) rfl) (c78 l1 v93 M pl1) (by decide) (fun v95 M94 qv95 => ?_)
    refine g_pure (c' := (456, [(0, .ref l0), (1, .ref l1), (2, .ref l2), (3, .int l3)], [.int (l3 + (1 : Int32)), .ref l0, .ref l2, .int v95], (jE0, M94))) 5 rfl ?_
    refine g_ix rfl (fun v96 => ?_)
    refine g_wI rfl (jc_v rfl rfl (jv_o pl2 rfl) rfl) (c171 l2 v96 M94 pl2) (by decide) (fun v98 M97 qv98 => ?_)
    refine g_ic_eq (tgt := 1076) rfl rfl (fun q99 => ?_) (fun q99 => ?_)
    · exact (c217_1076 h18 H18 l0 l1 l2 l3 M97 pl1 pl2)
    · refine g_pure (c' := (464, [(0, .ref l0), (1, .ref l1), (2, .ref l2), (3, .int l3)], [.int (0 : Int32)], (jE0, M97))) 1 rfl ?_
      exact g_ret rfl rfl (fun _ h => h)
def f217_465 (xs : Option (List Int32)) (h18 : Nat → Nat → Nat → Int32 → JM → Option (Int32 × JM)) (l0 : Nat) (l1 : Nat) (l2 : Nat) (l3 : Int32) (M : JM) : Option (Int32 × JM) := ((jlx xs l0 (l3 + (1 : Int32)) M).bind fun v103 => ((jlx xs l0 (l3 + (2 : Int32)) M).bind fun v104 => ((f79 M l1 v103 v104).bind fun v105 => ((jlx xs l0 (l3 + (1 : Int32)) M).bind fun v106 => ((jlx xs l0 (l3 + (2 : Int32)) M).bind fun v107 => ((f174 l2 v106 v107 M).bind fun z111 => (if v105 = z111.1 then (f217_1076 xs h18 l0 l1 l2 l3 z111.2) else (some ((0 : Int32), z111.2)))))))))
set_option maxRecDepth 100000 in
theorem c217_465 {xs : Option (List Int32)} (h18 : Nat → Nat → Nat → Int32 → JM → Option (Int32 × JM)) (H18 : ∀ (l0 : Nat) (l1 : Nat) (l2 : Nat) (l3 : Int32) (M : JM) (pl1 : jok jE0 l1 6 = true) (pl2 : jok jE0 l2 7 = true), JG xs 17 217 (h18 l0 l1 l2 l3 M) (fun x r => r = (some (.int x.1), (jE0, x.2))) (18, [(0, .ref l0), (1, .ref l1), (2, .ref l2), (3, .int l3)], [], (jE0, M))) : ∀ (l0 : Nat) (l1 : Nat) (l2 : Nat) (l3 : Int32) (M : JM) (pl1 : jok jE0 l1 6 = true) (pl2 : jok jE0 l2 7 = true), JG xs 17 217 (f217_465 xs h18 l0 l1 l2 l3 M) (fun x r => r = (some (.int x.1), (jE0, x.2))) (465, [(0, .ref l0), (1, .ref l1), (2, .ref l2), (3, .int l3)], [], (jE0, M)) := by
    intro l0 l1 l2 l3 M pl1 pl2
    unfold f217_465
    refine g_pure (c' := (470, [(0, .ref l0), (1, .ref l1), (2, .ref l2), (3, .int l3)], [.int (l3 + (1 : Int32)), .ref l0, .ref l1], (jE0, M))) 5 rfl ?_
    refine g_ix rfl (fun v103 => ?_)
    refine g_pure (c' := (475, [(0, .ref l0), (1, .ref l1), (2, .ref l2), (3, .int l3)], [.int (l3 + (2 : Int32)), .ref l0, .int v103, .ref l1], (jE0, M))) 4 rfl ?_
    refine g_ix rfl (fun v104 => ?_)
    refine g_cI rfl (jc_v rfl rfl (jv_o pl1 rfl) rfl) (c79 l1 v103 v104 pl1) (by decide) (fun v105 qv105 => ?_)
    refine g_pure (c' := (484, [(0, .ref l0), (1, .ref l1), (2, .ref l2), (3, .int l3)], [.int (l3 + (1 : Int32)), .ref l0, .ref l2, .int v105], (jE0, M))) 5 rfl ?_
    refine g_ix rfl (fun v106 => ?_)
    refine g_pure (c' := (489, [(0, .ref l0), (1, .ref l1), (2, .ref l2), (3, .int l3)], [.int (l3 + (2 : Int32)), .ref l0, .int v106, .ref l2, .int v105], (jE0, M))) 4 rfl ?_
    refine g_ix rfl (fun v107 => ?_)
    refine g_wI rfl (jc_v rfl rfl (jv_o pl2 rfl) rfl) (c174 l2 v106 v107 M pl2) (by decide) (fun v109 M108 qv109 => ?_)
    refine g_ic_eq (tgt := 1076) rfl rfl (fun q110 => ?_) (fun q110 => ?_)
    · exact (c217_1076 h18 H18 l0 l1 l2 l3 M108 pl1 pl2)
    · refine g_pure (c' := (497, [(0, .ref l0), (1, .ref l1), (2, .ref l2), (3, .int l3)], [.int (0 : Int32)], (jE0, M108))) 1 rfl ?_
      exact g_ret rfl rfl (fun _ h => h)
def f217_498 (xs : Option (List Int32)) (h18 : Nat → Nat → Nat → Int32 → JM → Option (Int32 × JM)) (l0 : Nat) (l1 : Nat) (l2 : Nat) (l3 : Int32) (M : JM) : Option (Int32 × JM) := ((jlx xs l0 (l3 + (1 : Int32)) M).bind fun v113 => ((jlx xs l0 (l3 + (2 : Int32)) M).bind fun v114 => ((f80 l1 v113 v114 M).bind fun z123 => ((jlx xs l0 (l3 + (1 : Int32)) z123.2).bind fun v117 => ((jlx xs l0 (l3 + (2 : Int32)) z123.2).bind fun v118 => ((f176 l2 v117 v118 z123.2).bind fun z122 => (if z123.1 = z122.1 then (f217_1076 xs h18 l0 l1 l2 l3 z122.2) else (some ((0 : Int32), z122.2)))))))))
set_option maxRecDepth 100000 in
theorem c217_498 {xs : Option (List Int32)} (h18 : Nat → Nat → Nat → Int32 → JM → Option (Int32 × JM)) (H18 : ∀ (l0 : Nat) (l1 : Nat) (l2 : Nat) (l3 : Int32) (M : JM) (pl1 : jok jE0 l1 6 = true) (pl2 : jok jE0 l2 7 = true), JG xs 17 217 (h18 l0 l1 l2 l3 M) (fun x r => r = (some (.int x.1), (jE0, x.2))) (18, [(0, .ref l0), (1, .ref l1), (2, .ref l2), (3, .int l3)], [], (jE0, M))) : ∀ (l0 : Nat) (l1 : Nat) (l2 : Nat) (l3 : Int32) (M : JM) (pl1 : jok jE0 l1 6 = true) (pl2 : jok jE0 l2 7 = true), JG xs 17 217 (f217_498 xs h18 l0 l1 l2 l3 M) (fun x r => r = (some (.int x.1), (jE0, x.2))) (498, [(0, .ref l0), (1, .ref l1), (2, .ref l2), (3, .int l3)], [], (jE0, M)) := by
    intro l0 l1 l2 l3 M pl1 pl2
    unfold f217_498
    refine g_pure (c' := (503, [(0, .ref l0), (1, .ref l1), (2, .ref l2), (3, .int l3)], [.int (l3 + (1 : Int32)), .ref l0, .ref l1], (jE0, M))) 5 rfl ?_
    refine g_ix rfl (fun v113 => ?_)
    refine g_pure (c' := (508, [(0, .ref l0), (1, .ref l1), (2, .ref l2), (3, .int l3)], [.int (l3 + (2 : Int32)), .ref l0, .int v113, .ref l1], (jE0, M))) 4 rfl ?_
    refine g_ix rfl (fun v114 => ?_)
    refine g_wI rfl (jc_v rfl rfl (jv_o pl1 rfl) rfl) (c80 l1 v113 v114 M pl1) (by decide) (fun v116 M115 qv116 => ?_)
    refine g_pure (c' := (517, [(0, .ref l0), (1, .ref l1), (2, .ref l2), (3, .int l3)], [.int (l3 + (1 : Int32)), .ref l0, .ref l2, .int v116], (jE0, M115))) 5 rfl ?_
    refine g_ix rfl (fun v117 => ?_)
    refine g_pure (c' := (522, [(0, .ref l0), (1, .ref l1), (2, .ref l2), (3, .int l3)], [.int (l3 + (2 : Int32)), .ref l0, .int v117, .ref l2, .int v116], (jE0, M115))) 4 rfl ?_
    refine g_ix rfl (fun v118 => ?_)
    refine g_wI rfl (jc_v rfl rfl (jv_o pl2 rfl) rfl) (c176 l2 v117 v118 M115 pl2) (by decide) (fun v120 M119 qv120 => ?_)
    refine g_ic_eq (tgt := 1076) rfl rfl (fun q121 => ?_) (fun q121 => ?_)
    · exact (c217_1076 h18 H18 l0 l1 l2 l3 M119 pl1 pl2)
    · refine g_pure (c' := (530, [(0, .ref l0), (1, .ref l1), (2, .ref l2), (3, .int l3)], [.int (0 : Int32)], (jE0, M119))) 1 rfl ?_
      exact g_ret rfl rfl (fun _ h => h)
def f217_531 (xs : Option (List Int32)) (h18 : Nat → Nat → Nat → Int32 → JM → Option (Int32 × JM)) (l0 : Nat) (l1 : Nat) (l2 : Nat) (l3 : Int32) (M : JM) : Option (Int32 × JM) := ((jlx xs l0 (l3 + (1 : Int32)) M).bind fun v125 => ((f81 l1 v125 M).bind fun z133 => ((jlx xs l0 (l3 + (1 : Int32)) z133.2).bind fun v128 => ((f178 l2 v128 z133.2).bind fun z132 => (if z133.1 = z132.1 then (f217_1076 xs h18 l0 l1 l2 l3 z132.2) else (some ((0 : Int32), z132.2)))))))
set_option maxRecDepth 100000 in
theorem c217_531 {xs : Option (List Int32)} (h18 : Nat → Nat → Nat → Int32 → JM → Option (Int32 × JM)) (H18 : ∀ (l0 : Nat) (l1 : Nat) (l2 : Nat) (l3 : Int32) (M : JM) (pl1 : jok jE0 l1 6 = true) (pl2 : jok jE0 l2 7 = true), JG xs 17 217 (h18 l0 l1 l2 l3 M) (fun x r => r = (some (.int x.1), (jE0, x.2))) (18, [(0, .ref l0), (1, .ref l1), (2, .ref l2), (3, .int l3)], [], (jE0, M))) : ∀ (l0 : Nat) (l1 : Nat) (l2 : Nat) (l3 : Int32) (M : JM) (pl1 : jok jE0 l1 6 = true) (pl2 : jok jE0 l2 7 = true), JG xs 17 217 (f217_531 xs h18 l0 l1 l2 l3 M) (fun x r => r = (some (.int x.1), (jE0, x.2))) (531, [(0, .ref l0), (1, .ref l1), (2, .ref l2), (3, .int l3)], [], (jE0, M)) := by
    intro l0 l1 l2 l3 M pl1 pl2
    unfold f217_531
    refine g_pure (c' := (536, [(0, .ref l0), (1, .ref l1), (2, .ref l2), (3, .int l3)], [.int (l3 + (1 : Int32)), .ref l0, .ref l1], (jE0, M))) 5 rfl ?_
    refine g_ix rfl (fun v125 => ?_)
    refine g_wI rfl (jc_v rfl rfl (jv_o pl1 rfl) rfl) (c81 l1 v125 M pl1) (by decide) (fun v127 M126 qv127 => ?_)
    refine g_pure (c' := (545, [(0, .ref l0), (1, .ref l1), (2, .ref l2), (3, .int l3)], [.int (l3 + (1 : Int32)), .ref l0, .ref l2, .int v127], (jE0, M126))) 5 rfl ?_
    refine g_ix rfl (fun v128 => ?_)
    refine g_wI rfl (jc_v rfl rfl (jv_o pl2 rfl) rfl) (c178 l2 v128 M126 pl2) (by decide) (fun v130 M129 qv130 => ?_)
    refine g_ic_eq (tgt := 1076) rfl rfl (fun q131 => ?_) (fun q131 => ?_)
    · exact (c217_1076 h18 H18 l0 l1 l2 l3 M129 pl1 pl2)
    · refine g_pure (c' := (553, [(0, .ref l0), (1, .ref l1), (2, .ref l2), (3, .int l3)], [.int (0 : Int32)], (jE0, M129))) 1 rfl ?_
      exact g_ret rfl rfl (fun _ h => h)
def f217_554 (xs : Option (List Int32)) (h18 : Nat → Nat → Nat → Int32 → JM → Option (Int32 × JM)) (l0 : Nat) (l1 : Nat) (l2 : Nat) (l3 : Int32) (M : JM) : Option (Int32 × JM) := ((jlx xs l0 (l3 + (1 : Int32)) M).bind fun v135 => ((jlx xs l0 (l3 + (2 : Int32)) M).bind fun v136 => ((jlx xs l0 (l3 + (3 : Int32)) M).bind fun v137 => ((f82 l1 v135 v136 v137 M).bind fun z147 => ((jlx xs l0 (l3 + (1 : Int32)) z147.2).bind fun v140 => ((jlx xs l0 (l3 + (2 : Int32)) z147.2).bind fun v141 => ((jlx xs l0 (l3 + (3 : Int32)) z147.2).bind fun v142 => ((f180 l2 v140 v141 v142 z147.2).bind fun z146 => (if z147.1 = z146.1 then (f217_1076 xs h18 l0 l1 l2 l3 z146.2) else (some ((0 : Int32), z146.2)))))))))))
set_option maxRecDepth 100000 in
theorem c217_554 {xs : Option (List Int32)} (h18 : Nat → Nat → Nat → Int32 → JM → Option (Int32 × JM)) (H18 : ∀ (l0 : Nat) (l1 : Nat) (l2 : Nat) (l3 : Int32) (M : JM) (pl1 : jok jE0 l1 6 = true) (pl2 : jok jE0 l2 7 = true), JG xs 17 217 (h18 l0 l1 l2 l3 M) (fun x r => r = (some (.int x.1), (jE0, x.2))) (18, [(0, .ref l0), (1, .ref l1), (2, .ref l2), (3, .int l3)], [], (jE0, M))) : ∀ (l0 : Nat) (l1 : Nat) (l2 : Nat) (l3 : Int32) (M : JM) (pl1 : jok jE0 l1 6 = true) (pl2 : jok jE0 l2 7 = true), JG xs 17 217 (f217_554 xs h18 l0 l1 l2 l3 M) (fun x r => r = (some (.int x.1), (jE0, x.2))) (554, [(0, .ref l0), (1, .ref l1), (2, .ref l2), (3, .int l3)], [], (jE0, M)) := by
    intro l0 l1 l2 l3 M pl1 pl2
    unfold f217_554
    refine g_pure (c' := (559, [(0, .ref l0), (1, .ref l1), (2, .ref l2), (3, .int l3)], [.int (l3 + (1 : Int32)), .ref l0, .ref l1], (jE0, M))) 5 rfl ?_
    refine g_ix rfl (fun v135 => ?_)
    refine g_pure (c' := (564, [(0, .ref l0), (1, .ref l1), (2, .ref l2), (3, .int l3)], [.int (l3 + (2 : Int32)), .ref l0, .int v135, .ref l1], (jE0, M))) 4 rfl ?_
    refine g_ix rfl (fun v136 => ?_)
    refine g_pure (c' := (569, [(0, .ref l0), (1, .ref l1), (2, .ref l2), (3, .int l3)], [.int (l3 + (3 : Int32)), .ref l0, .int v136, .int v135, .ref l1], (jE0, M))) 4 rfl ?_
    refine g_ix rfl (fun v137 => ?_)
    refine g_wI rfl (jc_v rfl rfl (jv_o pl1 rfl) rfl) (c82 l1 v135 v136 v137 M pl1) (by decide) (fun v139 M138 qv139 => ?_)
    refine g_pure (c' := (578, [(0, .ref l0), (1, .ref l1), (2, .ref l2), (3, .int l3)], [.int (l3 + (1 : Int32)), .ref l0, .ref l2, .int v139], (jE0, M138))) 5 rfl ?_
    refine g_ix rfl (fun v140 => ?_)
    refine g_pure (c' := (583, [(0, .ref l0), (1, .ref l1), (2, .ref l2), (3, .int l3)], [.int (l3 + (2 : Int32)), .ref l0, .int v140, .ref l2, .int v139], (jE0, M138))) 4 rfl ?_
    refine g_ix rfl (fun v141 => ?_)
    refine g_pure (c' := (588, [(0, .ref l0), (1, .ref l1), (2, .ref l2), (3, .int l3)], [.int (l3 + (3 : Int32)), .ref l0, .int v141, .int v140, .ref l2, .int v139], (jE0, M138))) 4 rfl ?_
    refine g_ix rfl (fun v142 => ?_)
    refine g_wI rfl (jc_v rfl rfl (jv_o pl2 rfl) rfl) (c180 l2 v140 v141 v142 M138 pl2) (by decide) (fun v144 M143 qv144 => ?_)
    refine g_ic_eq (tgt := 1076) rfl rfl (fun q145 => ?_) (fun q145 => ?_)
    · exact (c217_1076 h18 H18 l0 l1 l2 l3 M143 pl1 pl2)
    · refine g_pure (c' := (596, [(0, .ref l0), (1, .ref l1), (2, .ref l2), (3, .int l3)], [.int (0 : Int32)], (jE0, M143))) 1 rfl ?_
      exact g_ret rfl rfl (fun _ h => h)
def f217_597 (xs : Option (List Int32)) (h18 : Nat → Nat → Nat → Int32 → JM → Option (Int32 × JM)) (l0 : Nat) (l1 : Nat) (l2 : Nat) (l3 : Int32) (M : JM) : Option (Int32 × JM) := ((jlx xs l0 (l3 + (1 : Int32)) M).bind fun v149 => ((jlx xs l0 (l3 + (2 : Int32)) M).bind fun v150 => ((f83 M l1 v149 v150).bind fun v151 => ((jlx xs l0 (l3 + (1 : Int32)) M).bind fun v152 => ((jlx xs l0 (l3 + (2 : Int32)) M).bind fun v153 => ((f183 l2 v152 v153 M).bind fun z157 => (if v151 = z157.1 then (f217_1076 xs h18 l0 l1 l2 l3 z157.2) else (some ((0 : Int32), z157.2)))))))))
set_option maxRecDepth 100000 in
theorem c217_597 {xs : Option (List Int32)} (h18 : Nat → Nat → Nat → Int32 → JM → Option (Int32 × JM)) (H18 : ∀ (l0 : Nat) (l1 : Nat) (l2 : Nat) (l3 : Int32) (M : JM) (pl1 : jok jE0 l1 6 = true) (pl2 : jok jE0 l2 7 = true), JG xs 17 217 (h18 l0 l1 l2 l3 M) (fun x r => r = (some (.int x.1), (jE0, x.2))) (18, [(0, .ref l0), (1, .ref l1), (2, .ref l2), (3, .int l3)], [], (jE0, M))) : ∀ (l0 : Nat) (l1 : Nat) (l2 : Nat) (l3 : Int32) (M : JM) (pl1 : jok jE0 l1 6 = true) (pl2 : jok jE0 l2 7 = true), JG xs 17 217 (f217_597 xs h18 l0 l1 l2 l3 M) (fun x r => r = (some (.int x.1), (jE0, x.2))) (597, [(0, .ref l0), (1, .ref l1), (2, .ref l2), (3, .int l3)], [], (jE0, M)) := by
    intro l0 l1 l2 l3 M pl1 pl2
    unfold f217_597
    refine g_pure (c' := (602, [(0, .ref l0), (1, .ref l1), (2, .ref l2), (3, .int l3)], [.int (l3 + (1 : Int32)), .ref l0, .ref l1], (jE0, M))) 5 rfl ?_
    refine g_ix rfl (fun v149 => ?_)
    refine g_pure (c' := (607, [(0, .ref l0), (1, .ref l1), (2, .ref l2), (3, .int l3)], [.int (l3 + (2 : Int32)), .ref l0, .int v149, .ref l1], (jE0, M))) 4 rfl ?_
    refine g_ix rfl (fun v150 => ?_)
    refine g_cI rfl (jc_v rfl rfl (jv_o pl1 rfl) rfl) (c83 l1 v149 v150 pl1) (by decide) (fun v151 qv151 => ?_)
    refine g_pure (c' := (616, [(0, .ref l0), (1, .ref l1), (2, .ref l2), (3, .int l3)], [.int (l3 + (1 : Int32)), .ref l0, .ref l2, .int v151], (jE0, M))) 5 rfl ?_
    refine g_ix rfl (fun v152 => ?_)
    refine g_pure (c' := (621, [(0, .ref l0), (1, .ref l1), (2, .ref l2), (3, .int l3)], [.int (l3 + (2 : Int32)), .ref l0, .int v152, .ref l2, .int v151], (jE0, M))) 4 rfl ?_
    refine g_ix rfl (fun v153 => ?_)
    refine g_wI rfl (jc_v rfl rfl (jv_o pl2 rfl) rfl) (c183 l2 v152 v153 M pl2) (by decide) (fun v155 M154 qv155 => ?_)
    refine g_ic_eq (tgt := 1076) rfl rfl (fun q156 => ?_) (fun q156 => ?_)
    · exact (c217_1076 h18 H18 l0 l1 l2 l3 M154 pl1 pl2)
    · refine g_pure (c' := (629, [(0, .ref l0), (1, .ref l1), (2, .ref l2), (3, .int l3)], [.int (0 : Int32)], (jE0, M154))) 1 rfl ?_
      exact g_ret rfl rfl (fun _ h => h)
def f217_630 (xs : Option (List Int32)) (h18 : Nat → Nat → Nat → Int32 → JM → Option (Int32 × JM)) (l0 : Nat) (l1 : Nat) (l2 : Nat) (l3 : Int32) (M : JM) : Option (Int32 × JM) := ((jlx xs l0 (l3 + (1 : Int32)) M).bind fun v159 => ((f84 l1 v159 M).bind fun z167 => ((jlx xs l0 (l3 + (1 : Int32)) z167.2).bind fun v162 => ((f184 l2 v162 z167.2).bind fun z166 => (if z167.1 = z166.1 then (f217_1076 xs h18 l0 l1 l2 l3 z166.2) else (some ((0 : Int32), z166.2)))))))
set_option maxRecDepth 100000 in
theorem c217_630 {xs : Option (List Int32)} (h18 : Nat → Nat → Nat → Int32 → JM → Option (Int32 × JM)) (H18 : ∀ (l0 : Nat) (l1 : Nat) (l2 : Nat) (l3 : Int32) (M : JM) (pl1 : jok jE0 l1 6 = true) (pl2 : jok jE0 l2 7 = true), JG xs 17 217 (h18 l0 l1 l2 l3 M) (fun x r => r = (some (.int x.1), (jE0, x.2))) (18, [(0, .ref l0), (1, .ref l1), (2, .ref l2), (3, .int l3)], [], (jE0, M))) : ∀ (l0 : Nat) (l1 : Nat) (l2 : Nat) (l3 : Int32) (M : JM) (pl1 : jok jE0 l1 6 = true) (pl2 : jok jE0 l2 7 = true), JG xs 17 217 (f217_630 xs h18 l0 l1 l2 l3 M) (fun x r => r = (some (.int x.1), (jE0, x.2))) (630, [(0, .ref l0), (1, .ref l1), (2, .ref l2), (3, .int l3)], [], (jE0, M)) := by
    intro l0 l1 l2 l3 M pl1 pl2
    unfold f217_630
    refine g_pure (c' := (635, [(0, .ref l0), (1, .ref l1), (2, .ref l2), (3, .int l3)], [.int (l3 + (1 : Int32)), .ref l0, .ref l1], (jE0, M))) 5 rfl ?_
    refine g_ix rfl (fun v159 => ?_)
    refine g_wI rfl (jc_v rfl rfl (jv_o pl1 rfl) rfl) (c84 l1 v159 M pl1) (by decide) (fun v161 M160 qv161 => ?_)
    refine g_pure (c' := (644, [(0, .ref l0), (1, .ref l1), (2, .ref l2), (3, .int l3)], [.int (l3 + (1 : Int32)), .ref l0, .ref l2, .int v161], (jE0, M160))) 5 rfl ?_
    refine g_ix rfl (fun v162 => ?_)
    refine g_wI rfl (jc_v rfl rfl (jv_o pl2 rfl) rfl) (c184 l2 v162 M160 pl2) (by decide) (fun v164 M163 qv164 => ?_)
    refine g_ic_eq (tgt := 1076) rfl rfl (fun q165 => ?_) (fun q165 => ?_)
    · exact (c217_1076 h18 H18 l0 l1 l2 l3 M163 pl1 pl2)
    · refine g_pure (c' := (652, [(0, .ref l0), (1, .ref l1), (2, .ref l2), (3, .int l3)], [.int (0 : Int32)], (jE0, M163))) 1 rfl ?_
      exact g_ret rfl rfl (fun _ h => h)
def f217_653 (xs : Option (List Int32)) (h18 : Nat → Nat → Nat → Int32 → JM → Option (Int32 × JM)) (l0 : Nat) (l1 : Nat) (l2 : Nat) (l3 : Int32) (M : JM) : Option (Int32 × JM) := ((f85 l1 M).bind fun z175 => ((f185 l2 z175.2).bind fun z174 => (if z175.1 = z174.1 then (f217_1076 xs h18 l0 l1 l2 l3 z174.2) else (some ((0 : Int32), z174.2)))))
set_option maxRecDepth 100000 in
theorem c217_653 {xs : Option (List Int32)} (h18 : Nat → Nat → Nat → Int32 → JM → Option (Int32 × JM)) (H18 : ∀ (l0 : Nat) (l1 : Nat) (l2 : Nat) (l3 : Int32) (M : JM) (pl1 : jok jE0 l1 6 = true) (pl2 : jok jE0 l2 7 = true), JG xs 17 217 (h18 l0 l1 l2 l3 M) (fun x r => r = (some (.int x.1), (jE0, x.2))) (18, [(0, .ref l0), (1, .ref l1), (2, .ref l2), (3, .int l3)], [], (jE0, M))) : ∀ (l0 : Nat) (l1 : Nat) (l2 : Nat) (l3 : Int32) (M : JM) (pl1 : jok jE0 l1 6 = true) (pl2 : jok jE0 l2 7 = true), JG xs 17 217 (f217_653 xs h18 l0 l1 l2 l3 M) (fun x r => r = (some (.int x.1), (jE0, x.2))) (653, [(0, .ref l0), (1, .ref l1), (2, .ref l2), (3, .int l3)], [], (jE0, M)) := by
    intro l0 l1 l2 l3 M pl1 pl2
    unfold f217_653
    refine g_pure (c' := (654, [(0, .ref l0), (1, .ref l1), (2, .ref l2), (3, .int l3)], [.ref l1], (jE0, M))) 1 rfl ?_
    refine g_wI rfl (jc_v rfl rfl (jv_o pl1 rfl) rfl) (c85 l1 M pl1) (by decide) (fun v170 M169 qv170 => ?_)
    refine g_pure (c' := (658, [(0, .ref l0), (1, .ref l1), (2, .ref l2), (3, .int l3)], [.ref l2, .int v170], (jE0, M169))) 1 rfl ?_
    refine g_wI rfl (jc_v rfl rfl (jv_o pl2 rfl) rfl) (c185 l2 M169 pl2) (by decide) (fun v172 M171 qv172 => ?_)
    refine g_ic_eq (tgt := 1076) rfl rfl (fun q173 => ?_) (fun q173 => ?_)
    · exact (c217_1076 h18 H18 l0 l1 l2 l3 M171 pl1 pl2)
    · refine g_pure (c' := (665, [(0, .ref l0), (1, .ref l1), (2, .ref l2), (3, .int l3)], [.int (0 : Int32)], (jE0, M171))) 1 rfl ?_
      exact g_ret rfl rfl (fun _ h => h)
def f217_666 (xs : Option (List Int32)) (h18 : Nat → Nat → Nat → Int32 → JM → Option (Int32 × JM)) (l0 : Nat) (l1 : Nat) (l2 : Nat) (l3 : Int32) (M : JM) : Option (Int32 × JM) := ((jlx xs l0 (l3 + (1 : Int32)) M).bind fun v177 => ((f86 l1 v177 M).bind fun z185 => ((jlx xs l0 (l3 + (1 : Int32)) z185.2).bind fun v180 => ((f186 l2 v180 z185.2).bind fun z184 => (if z185.1 = z184.1 then (f217_1076 xs h18 l0 l1 l2 l3 z184.2) else (some ((0 : Int32), z184.2)))))))
set_option maxRecDepth 100000 in
theorem c217_666 {xs : Option (List Int32)} (h18 : Nat → Nat → Nat → Int32 → JM → Option (Int32 × JM)) (H18 : ∀ (l0 : Nat) (l1 : Nat) (l2 : Nat) (l3 : Int32) (M : JM) (pl1 : jok jE0 l1 6 = true) (pl2 : jok jE0 l2 7 = true), JG xs 17 217 (h18 l0 l1 l2 l3 M) (fun x r => r = (some (.int x.1), (jE0, x.2))) (18, [(0, .ref l0), (1, .ref l1), (2, .ref l2), (3, .int l3)], [], (jE0, M))) : ∀ (l0 : Nat) (l1 : Nat) (l2 : Nat) (l3 : Int32) (M : JM) (pl1 : jok jE0 l1 6 = true) (pl2 : jok jE0 l2 7 = true), JG xs 17 217 (f217_666 xs h18 l0 l1 l2 l3 M) (fun x r => r = (some (.int x.1), (jE0, x.2))) (666, [(0, .ref l0), (1, .ref l1), (2, .ref l2), (3, .int l3)], [], (jE0, M)) := by
    intro l0 l1 l2 l3 M pl1 pl2
    unfold f217_666
    refine g_pure (c' := (671, [(0, .ref l0), (1, .ref l1), (2, .ref l2), (3, .int l3)], [.int (l3 + (1 : Int32)), .ref l0, .ref l1], (jE0, M))) 5 rfl ?_
    refine g_ix rfl (fun v177 => ?_)
    refine g_wI rfl (jc_v rfl rfl (jv_o pl1 rfl) rfl) (c86 l1 v177 M pl1) (by decide) (fun v179 M178 qv179 => ?_)
    refine g_pure (c' := (680, [(0, .ref l0), (1, .ref l1), (2, .ref l2), (3, .int l3)], [.int (l3 + (1 : Int32)), .ref l0, .ref l2, .int v179], (jE0, M178))) 5 rfl ?_
    refine g_ix rfl (fun v180 => ?_)
    refine g_wI rfl (jc_v rfl rfl (jv_o pl2 rfl) rfl) (c186 l2 v180 M178 pl2) (by decide) (fun v182 M181 qv182 => ?_)
    refine g_ic_eq (tgt := 1076) rfl rfl (fun q183 => ?_) (fun q183 => ?_)
    · exact (c217_1076 h18 H18 l0 l1 l2 l3 M181 pl1 pl2)
    · refine g_pure (c' := (688, [(0, .ref l0), (1, .ref l1), (2, .ref l2), (3, .int l3)], [.int (0 : Int32)], (jE0, M181))) 1 rfl ?_
      exact g_ret rfl rfl (fun _ h => h)
def f217_689 (xs : Option (List Int32)) (h18 : Nat → Nat → Nat → Int32 → JM → Option (Int32 × JM)) (l0 : Nat) (l1 : Nat) (l2 : Nat) (l3 : Int32) (M : JM) : Option (Int32 × JM) := ((jlx xs l0 (l3 + (1 : Int32)) M).bind fun v187 => ((f87 l1 v187 M).bind fun z195 => ((jlx xs l0 (l3 + (1 : Int32)) z195.2).bind fun v190 => ((f187 l2 v190 z195.2).bind fun z194 => (if z195.1 = z194.1 then (f217_1076 xs h18 l0 l1 l2 l3 z194.2) else (some ((0 : Int32), z194.2)))))))
set_option maxRecDepth 100000 in
theorem c217_689 {xs : Option (List Int32)} (h18 : Nat → Nat → Nat → Int32 → JM → Option (Int32 × JM)) (H18 : ∀ (l0 : Nat) (l1 : Nat) (l2 : Nat) (l3 : Int32) (M : JM) (pl1 : jok jE0 l1 6 = true) (pl2 : jok jE0 l2 7 = true), JG xs 17 217 (h18 l0 l1 l2 l3 M) (fun x r => r = (some (.int x.1), (jE0, x.2))) (18, [(0, .ref l0), (1, .ref l1), (2, .ref l2), (3, .int l3)], [], (jE0, M))) : ∀ (l0 : Nat) (l1 : Nat) (l2 : Nat) (l3 : Int32) (M : JM) (pl1 : jok jE0 l1 6 = true) (pl2 : jok jE0 l2 7 = true), JG xs 17 217 (f217_689 xs h18 l0 l1 l2 l3 M) (fun x r => r = (some (.int x.1), (jE0, x.2))) (689, [(0, .ref l0), (1, .ref l1), (2, .ref l2), (3, .int l3)], [], (jE0, M)) := by
    intro l0 l1 l2 l3 M pl1 pl2
    unfold f217_689
    refine g_pure (c' := (694, [(0, .ref l0), (1, .ref l1), (2, .ref l2), (3, .int l3)], [.int (l3 + (1 : Int32)), .ref l0, .ref l1], (jE0, M))) 5 rfl ?_
    refine g_ix rfl (fun v187 => ?_)
    refine g_wI rfl (jc_v rfl rfl (jv_o pl1 rfl) rfl) (c87 l1 v187 M pl1) (by decide) (fun v189 M188 qv189 => ?_)
    refine g_pure (c' := (703, [(0, .ref l0), (1, .ref l1), (2, .ref l2), (3, .int l3)], [.int (l3 + (1 : Int32)), .ref l0, .ref l2, .int v189], (jE0, M188))) 5 rfl ?_
    refine g_ix rfl (fun v190 => ?_)
    refine g_wI rfl (jc_v rfl rfl (jv_o pl2 rfl) rfl) (c187 l2 v190 M188 pl2) (by decide) (fun v192 M191 qv192 => ?_)
    refine g_ic_eq (tgt := 1076) rfl rfl (fun q193 => ?_) (fun q193 => ?_)
    · exact (c217_1076 h18 H18 l0 l1 l2 l3 M191 pl1 pl2)
    · refine g_pure (c' := (711, [(0, .ref l0), (1, .ref l1), (2, .ref l2), (3, .int l3)], [.int (0 : Int32)], (jE0, M191))) 1 rfl ?_
      exact g_ret rfl rfl (fun _ h => h)
def f217_712 (xs : Option (List Int32)) (h18 : Nat → Nat → Nat → Int32 → JM → Option (Int32 × JM)) (l0 : Nat) (l1 : Nat) (l2 : Nat) (l3 : Int32) (M : JM) : Option (Int32 × JM) := ((jlx xs l0 (l3 + (1 : Int32)) M).bind fun v197 => ((jlx xs l0 (l3 + (2 : Int32)) M).bind fun v198 => ((jlx xs l0 (l3 + (3 : Int32)) M).bind fun v199 => ((f88 M l1 v197 v198 v199).bind fun v200 => ((jlx xs l0 (l3 + (1 : Int32)) M).bind fun v201 => ((jlx xs l0 (l3 + (2 : Int32)) M).bind fun v202 => ((jlx xs l0 (l3 + (3 : Int32)) M).bind fun v203 => ((f188 l2 v201 v202 v203 M).bind fun z207 => (if v200 = z207.1 then (f217_1076 xs h18 l0 l1 l2 l3 z207.2) else (some ((0 : Int32), z207.2)))))))))))
set_option maxRecDepth 100000 in
theorem c217_712 {xs : Option (List Int32)} (h18 : Nat → Nat → Nat → Int32 → JM → Option (Int32 × JM)) (H18 : ∀ (l0 : Nat) (l1 : Nat) (l2 : Nat) (l3 : Int32) (M : JM) (pl1 : jok jE0 l1 6 = true) (pl2 : jok jE0 l2 7 = true), JG xs 17 217 (h18 l0 l1 l2 l3 M) (fun x r => r = (some (.int x.1), (jE0, x.2))) (18, [(0, .ref l0), (1, .ref l1), (2, .ref l2), (3, .int l3)], [], (jE0, M))) : ∀ (l0 : Nat) (l1 : Nat) (l2 : Nat) (l3 : Int32) (M : JM) (pl1 : jok jE0 l1 6 = true) (pl2 : jok jE0 l2 7 = true), JG xs 17 217 (f217_712 xs h18 l0 l1 l2 l3 M) (fun x r => r = (some (.int x.1), (jE0, x.2))) (712, [(0, .ref l0), (1, .ref l1), (2, .ref l2), (3, .int l3)], [], (jE0, M)) := by
    intro l0 l1 l2 l3 M pl1 pl2
    unfold f217_712
    refine g_pure (c' := (717, [(0, .ref l0), (1, .ref l1), (2, .ref l2), (3, .int l3)], [.int (l3 + (1 : Int32)), .ref l0, .ref l1], (jE0, M))) 5 rfl ?_
    refine g_ix rfl (fun v197 => ?_)
    refine g_pure (c' := (722, [(0, .ref l0), (1, .ref l1), (2, .ref l2), (3, .int l3)], [.int (l3 + (2 : Int32)), .ref l0, .int v197, .ref l1], (jE0, M))) 4 rfl ?_
    refine g_ix rfl (fun v198 => ?_)
    refine g_pure (c' := (727, [(0, .ref l0), (1, .ref l1), (2, .ref l2), (3, .int l3)], [.int (l3 + (3 : Int32)), .ref l0, .int v198, .int v197, .ref l1], (jE0, M))) 4 rfl ?_
    refine g_ix rfl (fun v199 => ?_)
    refine g_cI rfl (jc_v rfl rfl (jv_o pl1 rfl) rfl) (c88 l1 v197 v198 v199 pl1) (by decide) (fun v200 qv200 => ?_)
    refine g_pure (c' := (736, [(0, .ref l0), (1, .ref l1), (2, .ref l2), (3, .int l3)], [.int (l3 + (1 : Int32)), .ref l0, .ref l2, .int v200], (jE0, M))) 5 rfl ?_
    refine g_ix rfl (fun v201 => ?_)
    refine g_pure (c' := (741, [(0, .ref l0), (1, .ref l1), (2, .ref l2), (3, .int l3)], [.int (l3 + (2 : Int32)), .ref l0, .int v201, .ref l2, .int v200], (jE0, M))) 4 rfl ?_
    refine g_ix rfl (fun v202 => ?_)
    refine g_pure (c' := (746, [(0, .ref l0), (1, .ref l1), (2, .ref l2), (3, .int l3)], [.int (l3 + (3 : Int32)), .ref l0, .int v202, .int v201, .ref l2, .int v200], (jE0, M))) 4 rfl ?_
    refine g_ix rfl (fun v203 => ?_)
    refine g_wI rfl (jc_v rfl rfl (jv_o pl2 rfl) rfl) (c188 l2 v201 v202 v203 M pl2) (by decide) (fun v205 M204 qv205 => ?_)
    refine g_ic_eq (tgt := 1076) rfl rfl (fun q206 => ?_) (fun q206 => ?_)
    · exact (c217_1076 h18 H18 l0 l1 l2 l3 M204 pl1 pl2)
    · refine g_pure (c' := (754, [(0, .ref l0), (1, .ref l1), (2, .ref l2), (3, .int l3)], [.int (0 : Int32)], (jE0, M204))) 1 rfl ?_
      exact g_ret rfl rfl (fun _ h => h)
def f217_755 (xs : Option (List Int32)) (h18 : Nat → Nat → Nat → Int32 → JM → Option (Int32 × JM)) (l0 : Nat) (l1 : Nat) (l2 : Nat) (l3 : Int32) (M : JM) : Option (Int32 × JM) := ((jlx xs l0 (l3 + (1 : Int32)) M).bind fun v209 => ((jlx xs l0 (l3 + (2 : Int32)) M).bind fun v210 => ((f89 M l1 v209 v210).bind fun v211 => ((jlx xs l0 (l3 + (1 : Int32)) M).bind fun v212 => ((jlx xs l0 (l3 + (2 : Int32)) M).bind fun v213 => ((f189 l2 v212 v213 M).bind fun z217 => (if v211 = z217.1 then (f217_1076 xs h18 l0 l1 l2 l3 z217.2) else (some ((0 : Int32), z217.2)))))))))
set_option maxRecDepth 100000 in
theorem c217_755 {xs : Option (List Int32)} (h18 : Nat → Nat → Nat → Int32 → JM → Option (Int32 × JM)) (H18 : ∀ (l0 : Nat) (l1 : Nat) (l2 : Nat) (l3 : Int32) (M : JM) (pl1 : jok jE0 l1 6 = true) (pl2 : jok jE0 l2 7 = true), JG xs 17 217 (h18 l0 l1 l2 l3 M) (fun x r => r = (some (.int x.1), (jE0, x.2))) (18, [(0, .ref l0), (1, .ref l1), (2, .ref l2), (3, .int l3)], [], (jE0, M))) : ∀ (l0 : Nat) (l1 : Nat) (l2 : Nat) (l3 : Int32) (M : JM) (pl1 : jok jE0 l1 6 = true) (pl2 : jok jE0 l2 7 = true), JG xs 17 217 (f217_755 xs h18 l0 l1 l2 l3 M) (fun x r => r = (some (.int x.1), (jE0, x.2))) (755, [(0, .ref l0), (1, .ref l1), (2, .ref l2), (3, .int l3)], [], (jE0, M)) := by
    intro l0 l1 l2 l3 M pl1 pl2
    unfold f217_755
    refine g_pure (c' := (760, [(0, .ref l0), (1, .ref l1), (2, .ref l2), (3, .int l3)], [.int (l3 + (1 : Int32)), .ref l0, .ref l1], (jE0, M))) 5 rfl ?_
    refine g_ix rfl (fun v209 => ?_)
    refine g_pure (c' := (765, [(0, .ref l0), (1, .ref l1), (2, .ref l2), (3, .int l3)], [.int (l3 + (2 : Int32)), .ref l0, .int v209, .ref l1], (jE0, M))) 4 rfl ?_
    refine g_ix rfl (fun v210 => ?_)
    refine g_cI rfl (jc_v rfl rfl (jv_o pl1 rfl) rfl) (c89 l1 v209 v210 pl1) (by decide) (fun v211 qv211 => ?_)
    refine g_pure (c' := (774, [(0, .ref l0), (1, .ref l1), (2, .ref l2), (3, .int l3)], [.int (l3 + (1 : Int32)), .ref l0, .ref l2, .int v211], (jE0, M))) 5 rfl ?_
    refine g_ix rfl (fun v212 => ?_)
    refine g_pure (c' := (779, [(0, .ref l0), (1, .ref l1), (2, .ref l2), (3, .int l3)], [.int (l3 + (2 : Int32)), .ref l0, .int v212, .ref l2, .int v211], (jE0, M))) 4 rfl ?_
    refine g_ix rfl (fun v213 => ?_)
    refine g_wI rfl (jc_v rfl rfl (jv_o pl2 rfl) rfl) (c189 l2 v212 v213 M pl2) (by decide) (fun v215 M214 qv215 => ?_)
    refine g_ic_eq (tgt := 1076) rfl rfl (fun q216 => ?_) (fun q216 => ?_)
    · exact (c217_1076 h18 H18 l0 l1 l2 l3 M214 pl1 pl2)
    · refine g_pure (c' := (787, [(0, .ref l0), (1, .ref l1), (2, .ref l2), (3, .int l3)], [.int (0 : Int32)], (jE0, M214))) 1 rfl ?_
      exact g_ret rfl rfl (fun _ h => h)
def f217_788 (xs : Option (List Int32)) (h18 : Nat → Nat → Nat → Int32 → JM → Option (Int32 × JM)) (l0 : Nat) (l1 : Nat) (l2 : Nat) (l3 : Int32) (M : JM) : Option (Int32 × JM) := ((jlx xs l0 (l3 + (1 : Int32)) M).bind fun v219 => ((jlx xs l0 (l3 + (2 : Int32)) M).bind fun v220 => ((jlx xs l0 (l3 + (3 : Int32)) M).bind fun v221 => ((jlx xs l0 (l3 + (4 : Int32)) M).bind fun v222 => ((f90 l1 v219 v220 v221 v222 M).bind fun z233 => ((jlx xs l0 (l3 + (1 : Int32)) z233.2).bind fun v225 => ((jlx xs l0 (l3 + (2 : Int32)) z233.2).bind fun v226 => ((jlx xs l0 (l3 + (3 : Int32)) z233.2).bind fun v227 => ((jlx xs l0 (l3 + (4 : Int32)) z233.2).bind fun v228 => ((f190 l2 v225 v226 v227 v228 z233.2).bind fun z232 => (if z233.1 = z232.1 then (f217_1076 xs h18 l0 l1 l2 l3 z232.2) else (some ((0 : Int32), z232.2)))))))))))))
set_option maxRecDepth 100000 in
theorem c217_788 {xs : Option (List Int32)} (h18 : Nat → Nat → Nat → Int32 → JM → Option (Int32 × JM)) (H18 : ∀ (l0 : Nat) (l1 : Nat) (l2 : Nat) (l3 : Int32) (M : JM) (pl1 : jok jE0 l1 6 = true) (pl2 : jok jE0 l2 7 = true), JG xs 17 217 (h18 l0 l1 l2 l3 M) (fun x r => r = (some (.int x.1), (jE0, x.2))) (18, [(0, .ref l0), (1, .ref l1), (2, .ref l2), (3, .int l3)], [], (jE0, M))) : ∀ (l0 : Nat) (l1 : Nat) (l2 : Nat) (l3 : Int32) (M : JM) (pl1 : jok jE0 l1 6 = true) (pl2 : jok jE0 l2 7 = true), JG xs 17 217 (f217_788 xs h18 l0 l1 l2 l3 M) (fun x r => r = (some (.int x.1), (jE0, x.2))) (788, [(0, .ref l0), (1, .ref l1), (2, .ref l2), (3, .int l3)], [], (jE0, M)) := by
    intro l0 l1 l2 l3 M pl1 pl2
    unfold f217_788
    refine g_pure (c' := (793, [(0, .ref l0), (1, .ref l1), (2, .ref l2), (3, .int l3)], [.int (l3 + (1 : Int32)), .ref l0, .ref l1], (jE0, M))) 5 rfl ?_
    refine g_ix rfl (fun v219 => ?_)
    refine g_pure (c' := (798, [(0, .ref l0), (1, .ref l1), (2, .ref l2), (3, .int l3)], [.int (l3 + (2 : Int32)), .ref l0, .int v219, .ref l1], (jE0, M))) 4 rfl ?_
    refine g_ix rfl (fun v220 => ?_)
    refine g_pure (c' := (803, [(0, .ref l0), (1, .ref l1), (2, .ref l2), (3, .int l3)], [.int (l3 + (3 : Int32)), .ref l0, .int v220, .int v219, .ref l1], (jE0, M))) 4 rfl ?_
    refine g_ix rfl (fun v221 => ?_)
    refine g_pure (c' := (808, [(0, .ref l0), (1, .ref l1), (2, .ref l2), (3, .int l3)], [.int (l3 + (4 : Int32)), .ref l0, .int v221, .int v220, .int v219, .ref l1], (jE0, M))) 4 rfl ?_
    refine g_ix rfl (fun v222 => ?_)
    refine g_wI rfl (jc_v rfl rfl (jv_o pl1 rfl) rfl) (c90 l1 v219 v220 v221 v222 M pl1) (by decide) (fun v224 M223 qv224 => ?_)
    refine g_pure (c' := (817, [(0, .ref l0), (1, .ref l1), (2, .ref l2), (3, .int l3)], [.int (l3 + (1 : Int32)), .ref l0, .ref l2, .int v224], (jE0, M223))) 5 rfl ?_
    refine g_ix rfl (fun v225 => ?_)
    refine g_pure (c' := (822, [(0, .ref l0), (1, .ref l1), (2, .ref l2), (3, .int l3)], [.int (l3 + (2 : Int32)), .ref l0, .int v225, .ref l2, .int v224], (jE0, M223))) 4 rfl ?_
    refine g_ix rfl (fun v226 => ?_)
    refine g_pure (c' := (827, [(0, .ref l0), (1, .ref l1), (2, .ref l2), (3, .int l3)], [.int (l3 + (3 : Int32)), .ref l0, .int v226, .int v225, .ref l2, .int v224], (jE0, M223))) 4 rfl ?_
    refine g_ix rfl (fun v227 => ?_)
    refine g_pure (c' := (832, [(0, .ref l0), (1, .ref l1), (2, .ref l2), (3, .int l3)], [.int (l3 + (4 : Int32)), .ref l0, .int v227, .int v226, .int v225, .ref l2, .int v224], (jE0, M223))) 4 rfl ?_
    refine g_ix rfl (fun v228 => ?_)
    refine g_wI rfl (jc_v rfl rfl (jv_o pl2 rfl) rfl) (c190 l2 v225 v226 v227 v228 M223 pl2) (by decide) (fun v230 M229 qv230 => ?_)
    refine g_ic_eq (tgt := 1076) rfl rfl (fun q231 => ?_) (fun q231 => ?_)
    · exact (c217_1076 h18 H18 l0 l1 l2 l3 M229 pl1 pl2)
    · refine g_pure (c' := (840, [(0, .ref l0), (1, .ref l1), (2, .ref l2), (3, .int l3)], [.int (0 : Int32)], (jE0, M229))) 1 rfl ?_
      exact g_ret rfl rfl (fun _ h => h)
def f217_841 (xs : Option (List Int32)) (h18 : Nat → Nat → Nat → Int32 → JM → Option (Int32 × JM)) (l0 : Nat) (l1 : Nat) (l2 : Nat) (l3 : Int32) (M : JM) : Option (Int32 × JM) := ((jlx xs l0 (l3 + (1 : Int32)) M).bind fun v235 => ((f91 l1 v235 M).bind fun z243 => ((jlx xs l0 (l3 + (1 : Int32)) z243.2).bind fun v238 => ((f192 l2 v238 z243.2).bind fun z242 => (if z243.1 = z242.1 then (f217_1076 xs h18 l0 l1 l2 l3 z242.2) else (some ((0 : Int32), z242.2)))))))
set_option maxRecDepth 100000 in
theorem c217_841 {xs : Option (List Int32)} (h18 : Nat → Nat → Nat → Int32 → JM → Option (Int32 × JM)) (H18 : ∀ (l0 : Nat) (l1 : Nat) (l2 : Nat) (l3 : Int32) (M : JM) (pl1 : jok jE0 l1 6 = true) (pl2 : jok jE0 l2 7 = true), JG xs 17 217 (h18 l0 l1 l2 l3 M) (fun x r => r = (some (.int x.1), (jE0, x.2))) (18, [(0, .ref l0), (1, .ref l1), (2, .ref l2), (3, .int l3)], [], (jE0, M))) : ∀ (l0 : Nat) (l1 : Nat) (l2 : Nat) (l3 : Int32) (M : JM) (pl1 : jok jE0 l1 6 = true) (pl2 : jok jE0 l2 7 = true), JG xs 17 217 (f217_841 xs h18 l0 l1 l2 l3 M) (fun x r => r = (some (.int x.1), (jE0, x.2))) (841, [(0, .ref l0), (1, .ref l1), (2, .ref l2), (3, .int l3)], [], (jE0, M)) := by
    intro l0 l1 l2 l3 M pl1 pl2
    unfold f217_841
    refine g_pure (c' := (846, [(0, .ref l0), (1, .ref l1), (2, .ref l2), (3, .int l3)], [.int (l3 + (1 : Int32)), .ref l0, .ref l1], (jE0, M))) 5 rfl ?_
    refine g_ix rfl (fun v235 => ?_)
    refine g_wI rfl (jc_v rfl rfl (jv_o pl1 rfl) rfl) (c91 l1 v235 M pl1) (by decide) (fun v237 M236 qv237 => ?_)
    refine g_pure (c' := (855, [(0, .ref l0), (1, .ref l1), (2, .ref l2), (3, .int l3)], [.int (l3 + (1 : Int32)), .ref l0, .ref l2, .int v237], (jE0, M236))) 5 rfl ?_
    refine g_ix rfl (fun v238 => ?_)
    refine g_wI rfl (jc_v rfl rfl (jv_o pl2 rfl) rfl) (c192 l2 v238 M236 pl2) (by decide) (fun v240 M239 qv240 => ?_)
    refine g_ic_eq (tgt := 1076) rfl rfl (fun q241 => ?_) (fun q241 => ?_)
    · exact (c217_1076 h18 H18 l0 l1 l2 l3 M239 pl1 pl2)
    · refine g_pure (c' := (863, [(0, .ref l0), (1, .ref l1), (2, .ref l2), (3, .int l3)], [.int (0 : Int32)], (jE0, M239))) 1 rfl ?_
      exact g_ret rfl rfl (fun _ h => h)
def f217_864 (xs : Option (List Int32)) (h18 : Nat → Nat → Nat → Int32 → JM → Option (Int32 × JM)) (l0 : Nat) (l1 : Nat) (l2 : Nat) (l3 : Int32) (M : JM) : Option (Int32 × JM) := ((jlx xs l0 (l3 + (1 : Int32)) M).bind fun v245 => ((f92 l1 v245 M).bind fun z253 => ((jlx xs l0 (l3 + (1 : Int32)) z253.2).bind fun v248 => ((f194 l2 v248 z253.2).bind fun z252 => (if z253.1 = z252.1 then (f217_1076 xs h18 l0 l1 l2 l3 z252.2) else (some ((0 : Int32), z252.2)))))))
set_option maxRecDepth 100000 in
theorem c217_864 {xs : Option (List Int32)} (h18 : Nat → Nat → Nat → Int32 → JM → Option (Int32 × JM)) (H18 : ∀ (l0 : Nat) (l1 : Nat) (l2 : Nat) (l3 : Int32) (M : JM) (pl1 : jok jE0 l1 6 = true) (pl2 : jok jE0 l2 7 = true), JG xs 17 217 (h18 l0 l1 l2 l3 M) (fun x r => r = (some (.int x.1), (jE0, x.2))) (18, [(0, .ref l0), (1, .ref l1), (2, .ref l2), (3, .int l3)], [], (jE0, M))) : ∀ (l0 : Nat) (l1 : Nat) (l2 : Nat) (l3 : Int32) (M : JM) (pl1 : jok jE0 l1 6 = true) (pl2 : jok jE0 l2 7 = true), JG xs 17 217 (f217_864 xs h18 l0 l1 l2 l3 M) (fun x r => r = (some (.int x.1), (jE0, x.2))) (864, [(0, .ref l0), (1, .ref l1), (2, .ref l2), (3, .int l3)], [], (jE0, M)) := by
    intro l0 l1 l2 l3 M pl1 pl2
    unfold f217_864
    refine g_pure (c' := (869, [(0, .ref l0), (1, .ref l1), (2, .ref l2), (3, .int l3)], [.int (l3 + (1 : Int32)), .ref l0, .ref l1], (jE0, M))) 5 rfl ?_
    refine g_ix rfl (fun v245 => ?_)
    refine g_wI rfl (jc_v rfl rfl (jv_o pl1 rfl) rfl) (c92 l1 v245 M pl1) (by decide) (fun v247 M246 qv247 => ?_)
    refine g_pure (c' := (878, [(0, .ref l0), (1, .ref l1), (2, .ref l2), (3, .int l3)], [.int (l3 + (1 : Int32)), .ref l0, .ref l2, .int v247], (jE0, M246))) 5 rfl ?_
    refine g_ix rfl (fun v248 => ?_)
    refine g_wI rfl (jc_v rfl rfl (jv_o pl2 rfl) rfl) (c194 l2 v248 M246 pl2) (by decide) (fun v250 M249 qv250 => ?_)
    refine g_ic_eq (tgt := 1076) rfl rfl (fun q251 => ?_) (fun q251 => ?_)
    · exact (c217_1076 h18 H18 l0 l1 l2 l3 M249 pl1 pl2)
    · refine g_pure (c' := (886, [(0, .ref l0), (1, .ref l1), (2, .ref l2), (3, .int l3)], [.int (0 : Int32)], (jE0, M249))) 1 rfl ?_
      exact g_ret rfl rfl (fun _ h => h)
def f217_887 (xs : Option (List Int32)) (h18 : Nat → Nat → Nat → Int32 → JM → Option (Int32 × JM)) (l0 : Nat) (l1 : Nat) (l2 : Nat) (l3 : Int32) (M : JM) : Option (Int32 × JM) := ((jlx xs l0 (l3 + (1 : Int32)) M).bind fun v255 => ((jlx xs l0 (l3 + (2 : Int32)) M).bind fun v256 => ((jlx xs l0 (l3 + (3 : Int32)) M).bind fun v257 => ((jlx xs l0 (l3 + (4 : Int32)) M).bind fun v258 => ((f93 l1 v255 v256 v257 v258 M).bind fun z269 => ((jlx xs l0 (l3 + (1 : Int32)) z269.2).bind fun v261 => ((jlx xs l0 (l3 + (2 : Int32)) z269.2).bind fun v262 => ((jlx xs l0 (l3 + (3 : Int32)) z269.2).bind fun v263 => ((jlx xs l0 (l3 + (4 : Int32)) z269.2).bind fun v264 => ((f195 l2 v261 v262 v263 v264 z269.2).bind fun z268 => (if z269.1 = z268.1 then (f217_1076 xs h18 l0 l1 l2 l3 z268.2) else (some ((0 : Int32), z268.2)))))))))))))
set_option maxRecDepth 100000 in
theorem c217_887 {xs : Option (List Int32)} (h18 : Nat → Nat → Nat → Int32 → JM → Option (Int32 × JM)) (H18 : ∀ (l0 : Nat) (l1 : Nat) (l2 : Nat) (l3 : Int32) (M : JM) (pl1 : jok jE0 l1 6 = true) (pl2 : jok jE0 l2 7 = true), JG xs 17 217 (h18 l0 l1 l2 l3 M) (fun x r => r = (some (.int x.1), (jE0, x.2))) (18, [(0, .ref l0), (1, .ref l1), (2, .ref l2), (3, .int l3)], [], (jE0, M))) : ∀ (l0 : Nat) (l1 : Nat) (l2 : Nat) (l3 : Int32) (M : JM) (pl1 : jok jE0 l1 6 = true) (pl2 : jok jE0 l2 7 = true), JG xs 17 217 (f217_887 xs h18 l0 l1 l2 l3 M) (fun x r => r = (some (.int x.1), (jE0, x.2))) (887, [(0, .ref l0), (1, .ref l1), (2, .ref l2), (3, .int l3)], [], (jE0, M)) := by
    intro l0 l1 l2 l3 M pl1 pl2
    unfold f217_887
    refine g_pure (c' := (892, [(0, .ref l0), (1, .ref l1), (2, .ref l2), (3, .int l3)], [.int (l3 + (1 : Int32)), .ref l0, .ref l1], (jE0, M))) 5 rfl ?_
    refine g_ix rfl (fun v255 => ?_)
    refine g_pure (c' := (897, [(0, .ref l0), (1, .ref l1), (2, .ref l2), (3, .int l3)], [.int (l3 + (2 : Int32)), .ref l0, .int v255, .ref l1], (jE0, M))) 4 rfl ?_
    refine g_ix rfl (fun v256 => ?_)
    refine g_pure (c' := (902, [(0, .ref l0), (1, .ref l1), (2, .ref l2), (3, .int l3)], [.int (l3 + (3 : Int32)), .ref l0, .int v256, .int v255, .ref l1], (jE0, M))) 4 rfl ?_
    refine g_ix rfl (fun v257 => ?_)
    refine g_pure (c' := (907, [(0, .ref l0), (1, .ref l1), (2, .ref l2), (3, .int l3)], [.int (l3 + (4 : Int32)), .ref l0, .int v257, .int v256, .int v255, .ref l1], (jE0, M))) 4 rfl ?_
    refine g_ix rfl (fun v258 => ?_)
    refine g_wI rfl (jc_v rfl rfl (jv_o pl1 rfl) rfl) (c93 l1 v255 v256 v257 v258 M pl1) (by decide) (fun v260 M259 qv260 => ?_)
    refine g_pure (c' := (916, [(0, .ref l0), (1, .ref l1), (2, .ref l2), (3, .int l3)], [.int (l3 + (1 : Int32)), .ref l0, .ref l2, .int v260], (jE0, M259))) 5 rfl ?_
    refine g_ix rfl (fun v261 => ?_)
    refine g_pure (c' := (921, [(0, .ref l0), (1, .ref l1), (2, .ref l2), (3, .int l3)], [.int (l3 + (2 : Int32)), .ref l0, .int v261, .ref l2, .int v260], (jE0, M259))) 4 rfl ?_
    refine g_ix rfl (fun v262 => ?_)
    refine g_pure (c' := (926, [(0, .ref l0), (1, .ref l1), (2, .ref l2), (3, .int l3)], [.int (l3 + (3 : Int32)), .ref l0, .int v262, .int v261, .ref l2, .int v260], (jE0, M259))) 4 rfl ?_
    refine g_ix rfl (fun v263 => ?_)
    refine g_pure (c' := (931, [(0, .ref l0), (1, .ref l1), (2, .ref l2), (3, .int l3)], [.int (l3 + (4 : Int32)), .ref l0, .int v263, .int v262, .int v261, .ref l2, .int v260], (jE0, M259))) 4 rfl ?_
    refine g_ix rfl (fun v264 => ?_)
    refine g_wI rfl (jc_v rfl rfl (jv_o pl2 rfl) rfl) (c195 l2 v261 v262 v263 v264 M259 pl2) (by decide) (fun v266 M265 qv266 => ?_)
    refine g_ic_eq (tgt := 1076) rfl rfl (fun q267 => ?_) (fun q267 => ?_)
    · exact (c217_1076 h18 H18 l0 l1 l2 l3 M265 pl1 pl2)
    · refine g_pure (c' := (939, [(0, .ref l0), (1, .ref l1), (2, .ref l2), (3, .int l3)], [.int (0 : Int32)], (jE0, M265))) 1 rfl ?_
      exact g_ret rfl rfl (fun _ h => h)
def f217_940 (xs : Option (List Int32)) (h18 : Nat → Nat → Nat → Int32 → JM → Option (Int32 × JM)) (l0 : Nat) (l1 : Nat) (l2 : Nat) (l3 : Int32) (M : JM) : Option (Int32 × JM) := ((f94 l1 M).bind fun z277 => ((f196 l2 z277.2).bind fun z276 => (if z277.1 = z276.1 then (f217_1076 xs h18 l0 l1 l2 l3 z276.2) else (some ((0 : Int32), z276.2)))))
set_option maxRecDepth 100000 in
theorem c217_940 {xs : Option (List Int32)} (h18 : Nat → Nat → Nat → Int32 → JM → Option (Int32 × JM)) (H18 : ∀ (l0 : Nat) (l1 : Nat) (l2 : Nat) (l3 : Int32) (M : JM) (pl1 : jok jE0 l1 6 = true) (pl2 : jok jE0 l2 7 = true), JG xs 17 217 (h18 l0 l1 l2 l3 M) (fun x r => r = (some (.int x.1), (jE0, x.2))) (18, [(0, .ref l0), (1, .ref l1), (2, .ref l2), (3, .int l3)], [], (jE0, M))) : ∀ (l0 : Nat) (l1 : Nat) (l2 : Nat) (l3 : Int32) (M : JM) (pl1 : jok jE0 l1 6 = true) (pl2 : jok jE0 l2 7 = true), JG xs 17 217 (f217_940 xs h18 l0 l1 l2 l3 M) (fun x r => r = (some (.int x.1), (jE0, x.2))) (940, [(0, .ref l0), (1, .ref l1), (2, .ref l2), (3, .int l3)], [], (jE0, M)) := by
    intro l0 l1 l2 l3 M pl1 pl2
    unfold f217_940
    refine g_pure (c' := (941, [(0, .ref l0), (1, .ref l1), (2, .ref l2), (3, .int l3)], [.ref l1], (jE0, M))) 1 rfl ?_
    refine g_wI rfl (jc_v rfl rfl (jv_o pl1 rfl) rfl) (c94 l1 M pl1) (by decide) (fun v272 M271 qv272 => ?_)
    refine g_pure (c' := (945, [(0, .ref l0), (1, .ref l1), (2, .ref l2), (3, .int l3)], [.ref l2, .int v272], (jE0, M271))) 1 rfl ?_
    refine g_wI rfl (jc_v rfl rfl (jv_o pl2 rfl) rfl) (c196 l2 M271 pl2) (by decide) (fun v274 M273 qv274 => ?_)
    refine g_ic_eq (tgt := 1076) rfl rfl (fun q275 => ?_) (fun q275 => ?_)
    · exact (c217_1076 h18 H18 l0 l1 l2 l3 M273 pl1 pl2)
    · refine g_pure (c' := (952, [(0, .ref l0), (1, .ref l1), (2, .ref l2), (3, .int l3)], [.int (0 : Int32)], (jE0, M273))) 1 rfl ?_
      exact g_ret rfl rfl (fun _ h => h)
def f217_953 (xs : Option (List Int32)) (h18 : Nat → Nat → Nat → Int32 → JM → Option (Int32 × JM)) (l0 : Nat) (l1 : Nat) (l2 : Nat) (l3 : Int32) (M : JM) : Option (Int32 × JM) := ((jlx xs l0 (l3 + (1 : Int32)) M).bind fun v279 => ((f95 l1 v279 M).bind fun z287 => ((jlx xs l0 (l3 + (1 : Int32)) z287.2).bind fun v282 => ((f200 l2 v282 z287.2).bind fun z286 => (if z287.1 = z286.1 then (f217_1076 xs h18 l0 l1 l2 l3 z286.2) else (some ((0 : Int32), z286.2)))))))
set_option maxRecDepth 100000 in
theorem c217_953 {xs : Option (List Int32)} (h18 : Nat → Nat → Nat → Int32 → JM → Option (Int32 × JM)) (H18 : ∀ (l0 : Nat) (l1 : Nat) (l2 : Nat) (l3 : Int32) (M : JM) (pl1 : jok jE0 l1 6 = true) (pl2 : jok jE0 l2 7 = true), JG xs 17 217 (h18 l0 l1 l2 l3 M) (fun x r => r = (some (.int x.1), (jE0, x.2))) (18, [(0, .ref l0), (1, .ref l1), (2, .ref l2), (3, .int l3)], [], (jE0, M))) : ∀ (l0 : Nat) (l1 : Nat) (l2 : Nat) (l3 : Int32) (M : JM) (pl1 : jok jE0 l1 6 = true) (pl2 : jok jE0 l2 7 = true), JG xs 17 217 (f217_953 xs h18 l0 l1 l2 l3 M) (fun x r => r = (some (.int x.1), (jE0, x.2))) (953, [(0, .ref l0), (1, .ref l1), (2, .ref l2), (3, .int l3)], [], (jE0, M)) := by
    intro l0 l1 l2 l3 M pl1 pl2
    unfold f217_953
    refine g_pure (c' := (958, [(0, .ref l0), (1, .ref l1), (2, .ref l2), (3, .int l3)], [.int (l3 + (1 : Int32)), .ref l0, .ref l1], (jE0, M))) 5 rfl ?_
    refine g_ix rfl (fun v279 => ?_)
    refine g_wI rfl (jc_v rfl rfl (jv_o pl1 rfl) rfl) (c95 l1 v279 M pl1) (by decide) (fun v281 M280 qv281 => ?_)
    refine g_pure (c' := (967, [(0, .ref l0), (1, .ref l1), (2, .ref l2), (3, .int l3)], [.int (l3 + (1 : Int32)), .ref l0, .ref l2, .int v281], (jE0, M280))) 5 rfl ?_
    refine g_ix rfl (fun v282 => ?_)
    refine g_wI rfl (jc_v rfl rfl (jv_o pl2 rfl) rfl) (c200 l2 v282 M280 pl2) (by decide) (fun v284 M283 qv284 => ?_)
    refine g_ic_eq (tgt := 1076) rfl rfl (fun q285 => ?_) (fun q285 => ?_)
    · exact (c217_1076 h18 H18 l0 l1 l2 l3 M283 pl1 pl2)
    · refine g_pure (c' := (975, [(0, .ref l0), (1, .ref l1), (2, .ref l2), (3, .int l3)], [.int (0 : Int32)], (jE0, M283))) 1 rfl ?_
      exact g_ret rfl rfl (fun _ h => h)
def f217_976 (xs : Option (List Int32)) (h18 : Nat → Nat → Nat → Int32 → JM → Option (Int32 × JM)) (l0 : Nat) (l1 : Nat) (l2 : Nat) (l3 : Int32) (M : JM) : Option (Int32 × JM) := ((jlx xs l0 (l3 + (1 : Int32)) M).bind fun v289 => ((f96 l1 v289 M).bind fun z297 => ((jlx xs l0 (l3 + (1 : Int32)) z297.2).bind fun v292 => ((f201 l2 v292 z297.2).bind fun z296 => (if z297.1 = z296.1 then (f217_1076 xs h18 l0 l1 l2 l3 z296.2) else (some ((0 : Int32), z296.2)))))))
set_option maxRecDepth 100000 in
theorem c217_976 {xs : Option (List Int32)} (h18 : Nat → Nat → Nat → Int32 → JM → Option (Int32 × JM)) (H18 : ∀ (l0 : Nat) (l1 : Nat) (l2 : Nat) (l3 : Int32) (M : JM) (pl1 : jok jE0 l1 6 = true) (pl2 : jok jE0 l2 7 = true), JG xs 17 217 (h18 l0 l1 l2 l3 M) (fun x r => r = (some (.int x.1), (jE0, x.2))) (18, [(0, .ref l0), (1, .ref l1), (2, .ref l2), (3, .int l3)], [], (jE0, M))) : ∀ (l0 : Nat) (l1 : Nat) (l2 : Nat) (l3 : Int32) (M : JM) (pl1 : jok jE0 l1 6 = true) (pl2 : jok jE0 l2 7 = true), JG xs 17 217 (f217_976 xs h18 l0 l1 l2 l3 M) (fun x r => r = (some (.int x.1), (jE0, x.2))) (976, [(0, .ref l0), (1, .ref l1), (2, .ref l2), (3, .int l3)], [], (jE0, M)) := by
    intro l0 l1 l2 l3 M pl1 pl2
    unfold f217_976
    refine g_pure (c' := (981, [(0, .ref l0), (1, .ref l1), (2, .ref l2), (3, .int l3)], [.int (l3 + (1 : Int32)), .ref l0, .ref l1], (jE0, M))) 5 rfl ?_
    refine g_ix rfl (fun v289 => ?_)
    refine g_wI rfl (jc_v rfl rfl (jv_o pl1 rfl) rfl) (c96 l1 v289 M pl1) (by decide) (fun v291 M290 qv291 => ?_)
    refine g_pure (c' := (990, [(0, .ref l0), (1, .ref l1), (2, .ref l2), (3, .int l3)], [.int (l3 + (1 : Int32)), .ref l0, .ref l2, .int v291], (jE0, M290))) 5 rfl ?_
    refine g_ix rfl (fun v292 => ?_)
    refine g_wI rfl (jc_v rfl rfl (jv_o pl2 rfl) rfl) (c201 l2 v292 M290 pl2) (by decide) (fun v294 M293 qv294 => ?_)
    refine g_ic_eq (tgt := 1076) rfl rfl (fun q295 => ?_) (fun q295 => ?_)
    · exact (c217_1076 h18 H18 l0 l1 l2 l3 M293 pl1 pl2)
    · refine g_pure (c' := (998, [(0, .ref l0), (1, .ref l1), (2, .ref l2), (3, .int l3)], [.int (0 : Int32)], (jE0, M293))) 1 rfl ?_
      exact g_ret rfl rfl (fun _ h => h)
def f217_999 (xs : Option (List Int32)) (h18 : Nat → Nat → Nat → Int32 → JM → Option (Int32 × JM)) (l0 : Nat) (l1 : Nat) (l2 : Nat) (l3 : Int32) (M : JM) : Option (Int32 × JM) := ((jlx xs l0 (l3 + (1 : Int32)) M).bind fun v299 => ((jlx xs l0 (l3 + (2 : Int32)) M).bind fun v300 => ((jlx xs l0 (l3 + (3 : Int32)) M).bind fun v301 => ((jlx xs l0 (l3 + (4 : Int32)) M).bind fun v302 => ((f97 M l1 v299 v300 v301 v302).bind fun v303 => ((jlx xs l0 (l3 + (1 : Int32)) M).bind fun v304 => ((jlx xs l0 (l3 + (2 : Int32)) M).bind fun v305 => ((jlx xs l0 (l3 + (3 : Int32)) M).bind fun v306 => ((jlx xs l0 (l3 + (4 : Int32)) M).bind fun v307 => ((f204 l2 v304 v305 v306 v307 M).bind fun z311 => (if (lg_cmp v303 z311.1) = (0 : Int32) then (f217_1076 xs h18 l0 l1 l2 l3 z311.2) else (some ((0 : Int32), z311.2)))))))))))))
set_option maxRecDepth 100000 in
theorem c217_999 {xs : Option (List Int32)} (h18 : Nat → Nat → Nat → Int32 → JM → Option (Int32 × JM)) (H18 : ∀ (l0 : Nat) (l1 : Nat) (l2 : Nat) (l3 : Int32) (M : JM) (pl1 : jok jE0 l1 6 = true) (pl2 : jok jE0 l2 7 = true), JG xs 17 217 (h18 l0 l1 l2 l3 M) (fun x r => r = (some (.int x.1), (jE0, x.2))) (18, [(0, .ref l0), (1, .ref l1), (2, .ref l2), (3, .int l3)], [], (jE0, M))) : ∀ (l0 : Nat) (l1 : Nat) (l2 : Nat) (l3 : Int32) (M : JM) (pl1 : jok jE0 l1 6 = true) (pl2 : jok jE0 l2 7 = true), JG xs 17 217 (f217_999 xs h18 l0 l1 l2 l3 M) (fun x r => r = (some (.int x.1), (jE0, x.2))) (999, [(0, .ref l0), (1, .ref l1), (2, .ref l2), (3, .int l3)], [], (jE0, M)) := by
    intro l0 l1 l2 l3 M pl1 pl2
    unfold f217_999
    refine g_pure (c' := (1004, [(0, .ref l0), (1, .ref l1), (2, .ref l2), (3, .int l3)], [.int (l3 + (1 : Int32)), .ref l0, .ref l1], (jE0, M))) 5 rfl ?_
    refine g_ix rfl (fun v299 => ?_)
    refine g_pure (c' := (1009, [(0, .ref l0), (1, .ref l1), (2, .ref l2), (3, .int l3)], [.int (l3 + (2 : Int32)), .ref l0, .int v299, .ref l1], (jE0, M))) 4 rfl ?_
    refine g_ix rfl (fun v300 => ?_)
    refine g_pure (c' := (1014, [(0, .ref l0), (1, .ref l1), (2, .ref l2), (3, .int l3)], [.int (l3 + (3 : Int32)), .ref l0, .int v300, .int v299, .ref l1], (jE0, M))) 4 rfl ?_
    refine g_ix rfl (fun v301 => ?_)
    refine g_pure (c' := (1019, [(0, .ref l0), (1, .ref l1), (2, .ref l2), (3, .int l3)], [.int (l3 + (4 : Int32)), .ref l0, .int v301, .int v300, .int v299, .ref l1], (jE0, M))) 4 rfl ?_
    refine g_ix rfl (fun v302 => ?_)
    refine g_cL rfl (jc_v rfl rfl (jv_o pl1 rfl) rfl) (c97 l1 v299 v300 v301 v302 pl1) (by decide) (fun v303 qv303 => ?_)
    refine g_pure (c' := (1028, [(0, .ref l0), (1, .ref l1), (2, .ref l2), (3, .int l3)], [.int (l3 + (1 : Int32)), .ref l0, .ref l2, .long v303], (jE0, M))) 5 rfl ?_
    refine g_ix rfl (fun v304 => ?_)
    refine g_pure (c' := (1033, [(0, .ref l0), (1, .ref l1), (2, .ref l2), (3, .int l3)], [.int (l3 + (2 : Int32)), .ref l0, .int v304, .ref l2, .long v303], (jE0, M))) 4 rfl ?_
    refine g_ix rfl (fun v305 => ?_)
    refine g_pure (c' := (1038, [(0, .ref l0), (1, .ref l1), (2, .ref l2), (3, .int l3)], [.int (l3 + (3 : Int32)), .ref l0, .int v305, .int v304, .ref l2, .long v303], (jE0, M))) 4 rfl ?_
    refine g_ix rfl (fun v306 => ?_)
    refine g_pure (c' := (1043, [(0, .ref l0), (1, .ref l1), (2, .ref l2), (3, .int l3)], [.int (l3 + (4 : Int32)), .ref l0, .int v306, .int v305, .int v304, .ref l2, .long v303], (jE0, M))) 4 rfl ?_
    refine g_ix rfl (fun v307 => ?_)
    refine g_wL rfl (jc_v rfl rfl (jv_o pl2 rfl) rfl) (c204 l2 v304 v305 v306 v307 M pl2) (by decide) (fun v309 M308 qv309 => ?_)
    refine g_pure (c' := (1048, [(0, .ref l0), (1, .ref l1), (2, .ref l2), (3, .int l3)], [.int (lg_cmp v303 v309)], (jE0, M308))) 1 rfl ?_
    refine g_if_eq (tgt := 1076) rfl rfl (fun q310 => ?_) (fun q310 => ?_)
    · exact (c217_1076 h18 H18 l0 l1 l2 l3 M308 pl1 pl2)
    · refine g_pure (c' := (1052, [(0, .ref l0), (1, .ref l1), (2, .ref l2), (3, .int l3)], [.int (0 : Int32)], (jE0, M308))) 1 rfl ?_
      exact g_ret rfl rfl (fun _ h => h)
def f217_1053 (xs : Option (List Int32)) (h18 : Nat → Nat → Nat → Int32 → JM → Option (Int32 × JM)) (l0 : Nat) (l1 : Nat) (l2 : Nat) (l3 : Int32) (M : JM) : Option (Int32 × JM) := ((jlx xs l0 (l3 + (1 : Int32)) M).bind fun v313 => ((f98 M l1 v313).bind fun v314 => ((jlx xs l0 (l3 + (1 : Int32)) M).bind fun v315 => ((f205 l2 v315 M).bind fun z319 => (if v314 = z319.1 then (f217_1076 xs h18 l0 l1 l2 l3 z319.2) else (some ((0 : Int32), z319.2)))))))
set_option maxRecDepth 100000 in
theorem c217_1053 {xs : Option (List Int32)} (h18 : Nat → Nat → Nat → Int32 → JM → Option (Int32 × JM)) (H18 : ∀ (l0 : Nat) (l1 : Nat) (l2 : Nat) (l3 : Int32) (M : JM) (pl1 : jok jE0 l1 6 = true) (pl2 : jok jE0 l2 7 = true), JG xs 17 217 (h18 l0 l1 l2 l3 M) (fun x r => r = (some (.int x.1), (jE0, x.2))) (18, [(0, .ref l0), (1, .ref l1), (2, .ref l2), (3, .int l3)], [], (jE0, M))) : ∀ (l0 : Nat) (l1 : Nat) (l2 : Nat) (l3 : Int32) (M : JM) (pl1 : jok jE0 l1 6 = true) (pl2 : jok jE0 l2 7 = true), JG xs 17 217 (f217_1053 xs h18 l0 l1 l2 l3 M) (fun x r => r = (some (.int x.1), (jE0, x.2))) (1053, [(0, .ref l0), (1, .ref l1), (2, .ref l2), (3, .int l3)], [], (jE0, M)) := by
    intro l0 l1 l2 l3 M pl1 pl2
    unfold f217_1053
    refine g_pure (c' := (1058, [(0, .ref l0), (1, .ref l1), (2, .ref l2), (3, .int l3)], [.int (l3 + (1 : Int32)), .ref l0, .ref l1], (jE0, M))) 5 rfl ?_
    refine g_ix rfl (fun v313 => ?_)
    refine g_cI rfl (jc_v rfl rfl (jv_o pl1 rfl) rfl) (c98 l1 v313 pl1) (by decide) (fun v314 qv314 => ?_)
    refine g_pure (c' := (1067, [(0, .ref l0), (1, .ref l1), (2, .ref l2), (3, .int l3)], [.int (l3 + (1 : Int32)), .ref l0, .ref l2, .int v314], (jE0, M))) 5 rfl ?_
    refine g_ix rfl (fun v315 => ?_)
    refine g_wI rfl (jc_v rfl rfl (jv_o pl2 rfl) rfl) (c205 l2 v315 M pl2) (by decide) (fun v317 M316 qv317 => ?_)
    refine g_ic_eq (tgt := 1076) rfl rfl (fun q318 => ?_) (fun q318 => ?_)
    · exact (c217_1076 h18 H18 l0 l1 l2 l3 M316 pl1 pl2)
    · refine g_pure (c' := (1075, [(0, .ref l0), (1, .ref l1), (2, .ref l2), (3, .int l3)], [.int (0 : Int32)], (jE0, M316))) 1 rfl ?_
      exact g_ret rfl rfl (fun _ h => h)
def f217_18 (xs : Option (List Int32)) : Nat → Nat → Nat → Nat → Int32 → JM → Option (Int32 × JM)
  | 0, _, _, _, _, _ => none
  | n + 1, l0, l1, l2, l3, M => ((jal xs l0).bind fun v1 => (if (v1 - (5 : Int32)) < l3 then (some ((1 : Int32), M)) else ((jlx xs l0 l3 M).bind fun v3 => (if (v3 &&& (31 : Int32)) = (0 : Int32) then (f217_172 xs (f217_18 xs n) l0 l1 l2 l3 M) else (if (v3 &&& (31 : Int32)) = (1 : Int32) then (f217_195 xs (f217_18 xs n) l0 l1 l2 l3 M) else (if (v3 &&& (31 : Int32)) = (2 : Int32) then (f217_208 xs (f217_18 xs n) l0 l1 l2 l3 M) else (if (v3 &&& (31 : Int32)) = (3 : Int32) then (f217_221 xs (f217_18 xs n) l0 l1 l2 l3 M) else (if (v3 &&& (31 : Int32)) = (4 : Int32) then (f217_234 xs (f217_18 xs n) l0 l1 l2 l3 M) else (if (v3 &&& (31 : Int32)) = (5 : Int32) then (f217_267 xs (f217_18 xs n) l0 l1 l2 l3 M) else (if (v3 &&& (31 : Int32)) = (6 : Int32) then (f217_300 xs (f217_18 xs n) l0 l1 l2 l3 M) else (if (v3 &&& (31 : Int32)) = (7 : Int32) then (f217_333 xs (f217_18 xs n) l0 l1 l2 l3 M) else (if (v3 &&& (31 : Int32)) = (8 : Int32) then (f217_366 xs (f217_18 xs n) l0 l1 l2 l3 M) else (if (v3 &&& (31 : Int32)) = (9 : Int32) then (f217_409 xs (f217_18 xs n) l0 l1 l2 l3 M) else (if (v3 &&& (31 : Int32)) = (10 : Int32) then (f217_442 xs (f217_18 xs n) l0 l1 l2 l3 M) else (if (v3 &&& (31 : Int32)) = (11 : Int32) then (f217_465 xs (f217_18 xs n) l0 l1 l2 l3 M) else (if (v3 &&& (31 : Int32)) = (12 : Int32) then (f217_498 xs (f217_18 xs n) l0 l1 l2 l3 M) else (if (v3 &&& (31 : Int32)) = (13 : Int32) then (f217_531 xs (f217_18 xs n) l0 l1 l2 l3 M) else (if (v3 &&& (31 : Int32)) = (14 : Int32) then (f217_554 xs (f217_18 xs n) l0 l1 l2 l3 M) else (if (v3 &&& (31 : Int32)) = (15 : Int32) then (f217_597 xs (f217_18 xs n) l0 l1 l2 l3 M) else (if (v3 &&& (31 : Int32)) = (16 : Int32) then (f217_630 xs (f217_18 xs n) l0 l1 l2 l3 M) else (if (v3 &&& (31 : Int32)) = (17 : Int32) then (f217_653 xs (f217_18 xs n) l0 l1 l2 l3 M) else (if (v3 &&& (31 : Int32)) = (18 : Int32) then (f217_666 xs (f217_18 xs n) l0 l1 l2 l3 M) else (if (v3 &&& (31 : Int32)) = (19 : Int32) then (f217_689 xs (f217_18 xs n) l0 l1 l2 l3 M) else (if (v3 &&& (31 : Int32)) = (20 : Int32) then (f217_712 xs (f217_18 xs n) l0 l1 l2 l3 M) else (if (v3 &&& (31 : Int32)) = (21 : Int32) then (f217_755 xs (f217_18 xs n) l0 l1 l2 l3 M) else (if (v3 &&& (31 : Int32)) = (22 : Int32) then (f217_788 xs (f217_18 xs n) l0 l1 l2 l3 M) else (if (v3 &&& (31 : Int32)) = (23 : Int32) then (f217_841 xs (f217_18 xs n) l0 l1 l2 l3 M) else (if (v3 &&& (31 : Int32)) = (24 : Int32) then (f217_864 xs (f217_18 xs n) l0 l1 l2 l3 M) else (if (v3 &&& (31 : Int32)) = (25 : Int32) then (f217_887 xs (f217_18 xs n) l0 l1 l2 l3 M) else (if (v3 &&& (31 : Int32)) = (26 : Int32) then (f217_940 xs (f217_18 xs n) l0 l1 l2 l3 M) else (if (v3 &&& (31 : Int32)) = (27 : Int32) then (f217_953 xs (f217_18 xs n) l0 l1 l2 l3 M) else (if (v3 &&& (31 : Int32)) = (28 : Int32) then (f217_976 xs (f217_18 xs n) l0 l1 l2 l3 M) else (if (v3 &&& (31 : Int32)) = (29 : Int32) then (f217_999 xs (f217_18 xs n) l0 l1 l2 l3 M) else (if (v3 &&& (31 : Int32)) = (30 : Int32) then (f217_1053 xs (f217_18 xs n) l0 l1 l2 l3 M) else (f217_1076 xs (f217_18 xs n) l0 l1 l2 l3 M)))))))))))))))))))))))))))))))))))
set_option maxRecDepth 100000 in
theorem c217_18 {xs : Option (List Int32)} : ∀ (n : Nat) (l0 : Nat) (l1 : Nat) (l2 : Nat) (l3 : Int32) (M : JM) (pl1 : jok jE0 l1 6 = true) (pl2 : jok jE0 l2 7 = true), JG xs 17 217 (f217_18 xs n l0 l1 l2 l3 M) (fun x r => r = (some (.int x.1), (jE0, x.2))) (18, [(0, .ref l0), (1, .ref l1), (2, .ref l2), (3, .int l3)], [], (jE0, M))
  | 0, _, _, _, _, _, _, _ => by rw [f217_18]; exact g_none
  | n + 1, l0, l1, l2, l3, M, pl1, pl2 => by
    rw [f217_18]
    refine g_pure (c' := (20, [(0, .ref l0), (1, .ref l1), (2, .ref l2), (3, .int l3)], [.ref l0, .int l3], (jE0, M))) 2 rfl ?_
    refine g_ax rfl (fun v1 => ?_)
    refine g_pure (c' := (23, [(0, .ref l0), (1, .ref l1), (2, .ref l2), (3, .int l3)], [.int (v1 - (5 : Int32)), .int l3], (jE0, M))) 2 rfl ?_
    refine g_ic_gt (tgt := 1082) rfl rfl (fun q2 => ?_) (fun q2 => ?_)
    · refine g_pure (c' := (1083, [(0, .ref l0), (1, .ref l1), (2, .ref l2), (3, .int l3)], [.int (1 : Int32)], (jE0, M))) 1 rfl ?_
      exact g_ret rfl rfl (fun _ h => h)
    · refine g_pure (c' := (28, [(0, .ref l0), (1, .ref l1), (2, .ref l2), (3, .int l3)], [.int l3, .ref l0], (jE0, M))) 2 rfl ?_
      refine g_ix rfl (fun v3 => ?_)
      refine g_pure (c' := (32, [(0, .ref l0), (1, .ref l1), (2, .ref l2), (3, .int l3)], [.int (v3 &&& (31 : Int32))], (jE0, M))) 2 rfl ?_
      refine g_eq (fun q4 => ?_) (fun q4 => ?_)
      · refine g_t1 q4 rfl rfl ?_
        exact (c217_172 (f217_18 xs n) (c217_18 n) l0 l1 l2 l3 M pl1 pl2)
      refine g_eq (fun q14 => ?_) (fun q14 => ?_)
      · refine g_t1 q14 rfl rfl ?_
        exact (c217_195 (f217_18 xs n) (c217_18 n) l0 l1 l2 l3 M pl1 pl2)
      refine g_eq (fun q22 => ?_) (fun q22 => ?_)
      · refine g_t1 q22 rfl rfl ?_
        exact (c217_208 (f217_18 xs n) (c217_18 n) l0 l1 l2 l3 M pl1 pl2)
      refine g_eq (fun q30 => ?_) (fun q30 => ?_)
      · refine g_t1 q30 rfl rfl ?_
        exact (c217_221 (f217_18 xs n) (c217_18 n) l0 l1 l2 l3 M pl1 pl2)
      refine g_eq (fun q38 => ?_) (fun q38 => ?_)
      · refine g_t1 q38 rfl rfl ?_
        exact (c217_234 (f217_18 xs n) (c217_18 n) l0 l1 l2 l3 M pl1 pl2)
      refine g_eq (fun q46 => ?_) (fun q46 => ?_)
      · refine g_t1 q46 rfl rfl ?_
        exact (c217_267 (f217_18 xs n) (c217_18 n) l0 l1 l2 l3 M pl1 pl2)
      refine g_eq (fun q54 => ?_) (fun q54 => ?_)
      · refine g_t1 q54 rfl rfl ?_
        exact (c217_300 (f217_18 xs n) (c217_18 n) l0 l1 l2 l3 M pl1 pl2)
      refine g_eq (fun q62 => ?_) (fun q62 => ?_)
      · refine g_t1 q62 rfl rfl ?_
        exact (c217_333 (f217_18 xs n) (c217_18 n) l0 l1 l2 l3 M pl1 pl2)
      refine g_eq (fun q70 => ?_) (fun q70 => ?_)
      · refine g_t1 q70 rfl rfl ?_
        exact (c217_366 (f217_18 xs n) (c217_18 n) l0 l1 l2 l3 M pl1 pl2)
      refine g_eq (fun q82 => ?_) (fun q82 => ?_)
      · refine g_t1 q82 rfl rfl ?_
        exact (c217_409 (f217_18 xs n) (c217_18 n) l0 l1 l2 l3 M pl1 pl2)
      refine g_eq (fun q92 => ?_) (fun q92 => ?_)
      · refine g_t1 q92 rfl rfl ?_
        exact (c217_442 (f217_18 xs n) (c217_18 n) l0 l1 l2 l3 M pl1 pl2)
      refine g_eq (fun q102 => ?_) (fun q102 => ?_)
      · refine g_t1 q102 rfl rfl ?_
        exact (c217_465 (f217_18 xs n) (c217_18 n) l0 l1 l2 l3 M pl1 pl2)
      refine g_eq (fun q112 => ?_) (fun q112 => ?_)
      · refine g_t1 q112 rfl rfl ?_
        exact (c217_498 (f217_18 xs n) (c217_18 n) l0 l1 l2 l3 M pl1 pl2)
      refine g_eq (fun q124 => ?_) (fun q124 => ?_)
      · refine g_t1 q124 rfl rfl ?_
        exact (c217_531 (f217_18 xs n) (c217_18 n) l0 l1 l2 l3 M pl1 pl2)
      refine g_eq (fun q134 => ?_) (fun q134 => ?_)
      · refine g_t1 q134 rfl rfl ?_
        exact (c217_554 (f217_18 xs n) (c217_18 n) l0 l1 l2 l3 M pl1 pl2)
      refine g_eq (fun q148 => ?_) (fun q148 => ?_)
      · refine g_t1 q148 rfl rfl ?_
        exact (c217_597 (f217_18 xs n) (c217_18 n) l0 l1 l2 l3 M pl1 pl2)
      refine g_eq (fun q158 => ?_) (fun q158 => ?_)
      · refine g_t1 q158 rfl rfl ?_
        exact (c217_630 (f217_18 xs n) (c217_18 n) l0 l1 l2 l3 M pl1 pl2)
      refine g_eq (fun q168 => ?_) (fun q168 => ?_)
      · refine g_t1 q168 rfl rfl ?_
        exact (c217_653 (f217_18 xs n) (c217_18 n) l0 l1 l2 l3 M pl1 pl2)
      refine g_eq (fun q176 => ?_) (fun q176 => ?_)
      · refine g_t1 q176 rfl rfl ?_
        exact (c217_666 (f217_18 xs n) (c217_18 n) l0 l1 l2 l3 M pl1 pl2)
      refine g_eq (fun q186 => ?_) (fun q186 => ?_)
      · refine g_t1 q186 rfl rfl ?_
        exact (c217_689 (f217_18 xs n) (c217_18 n) l0 l1 l2 l3 M pl1 pl2)
      refine g_eq (fun q196 => ?_) (fun q196 => ?_)
      · refine g_t1 q196 rfl rfl ?_
        exact (c217_712 (f217_18 xs n) (c217_18 n) l0 l1 l2 l3 M pl1 pl2)
      refine g_eq (fun q208 => ?_) (fun q208 => ?_)
      · refine g_t1 q208 rfl rfl ?_
        exact (c217_755 (f217_18 xs n) (c217_18 n) l0 l1 l2 l3 M pl1 pl2)
      refine g_eq (fun q218 => ?_) (fun q218 => ?_)
      · refine g_t1 q218 rfl rfl ?_
        exact (c217_788 (f217_18 xs n) (c217_18 n) l0 l1 l2 l3 M pl1 pl2)
      refine g_eq (fun q234 => ?_) (fun q234 => ?_)
      · refine g_t1 q234 rfl rfl ?_
        exact (c217_841 (f217_18 xs n) (c217_18 n) l0 l1 l2 l3 M pl1 pl2)
      refine g_eq (fun q244 => ?_) (fun q244 => ?_)
      · refine g_t1 q244 rfl rfl ?_
        exact (c217_864 (f217_18 xs n) (c217_18 n) l0 l1 l2 l3 M pl1 pl2)
      refine g_eq (fun q254 => ?_) (fun q254 => ?_)
      · refine g_t1 q254 rfl rfl ?_
        exact (c217_887 (f217_18 xs n) (c217_18 n) l0 l1 l2 l3 M pl1 pl2)
      refine g_eq (fun q270 => ?_) (fun q270 => ?_)
      · refine g_t1 q270 rfl rfl ?_
        exact (c217_940 (f217_18 xs n) (c217_18 n) l0 l1 l2 l3 M pl1 pl2)
      refine g_eq (fun q278 => ?_) (fun q278 => ?_)
      · refine g_t1 q278 rfl rfl ?_
        exact (c217_953 (f217_18 xs n) (c217_18 n) l0 l1 l2 l3 M pl1 pl2)
      refine g_eq (fun q288 => ?_) (fun q288 => ?_)
      · refine g_t1 q288 rfl rfl ?_
        exact (c217_976 (f217_18 xs n) (c217_18 n) l0 l1 l2 l3 M pl1 pl2)
      refine g_eq (fun q298 => ?_) (fun q298 => ?_)
      · refine g_t1 q298 rfl rfl ?_
        exact (c217_999 (f217_18 xs n) (c217_18 n) l0 l1 l2 l3 M pl1 pl2)
      refine g_eq (fun q312 => ?_) (fun q312 => ?_)
      · refine g_t1 q312 rfl rfl ?_
        exact (c217_1053 (f217_18 xs n) (c217_18 n) l0 l1 l2 l3 M pl1 pl2)
      refine g_t0 (tgt := 1076) rfl (fun v h1 h2 => ?_) rfl ?_
      · rcases (show v = 0 ∨ v = 1 ∨ v = 2 ∨ v = 3 ∨ v = 4 ∨ v = 5 ∨ v = 6 ∨ v = 7 ∨ v = 8 ∨ v = 9 ∨ v = 10 ∨ v = 11 ∨ v = 12 ∨ v = 13 ∨ v = 14 ∨ v = 15 ∨ v = 16 ∨ v = 17 ∨ v = 18 ∨ v = 19 ∨ v = 20 ∨ v = 21 ∨ v = 22 ∨ v = 23 ∨ v = 24 ∨ v = 25 ∨ v = 26 ∨ v = 27 ∨ v = 28 ∨ v = 29 ∨ v = 30 by omega) with rfl | rfl | rfl | rfl | rfl | rfl | rfl | rfl | rfl | rfl | rfl | rfl | rfl | rfl | rfl | rfl | rfl | rfl | rfl | rfl | rfl | rfl | rfl | rfl | rfl | rfl | rfl | rfl | rfl | rfl | rfl
        · exact q4
        · exact q14
        · exact q22
        · exact q30
        · exact q38
        · exact q46
        · exact q54
        · exact q62
        · exact q70
        · exact q82
        · exact q92
        · exact q102
        · exact q112
        · exact q124
        · exact q134
        · exact q148
        · exact q158
        · exact q168
        · exact q176
        · exact q186
        · exact q196
        · exact q208
        · exact q218
        · exact q234
        · exact q244
        · exact q254
        · exact q270
        · exact q278
        · exact q288
        · exact q298
        · exact q312
      exact (c217_1076 (f217_18 xs n) (c217_18 n) l0 l1 l2 l3 M pl1 pl2)
