def f192_43  (l1 : Int32) (l3 : Int32) (M : JM) : Option (Int32 × JM) := (if l1 = (0 : Int32) then (some (l3, M)) else (some ((-1 : Int32), M)))
set_option maxRecDepth 100000 in
theorem c192_43 {xs : Option (List Int32)} : ∀ (l1 : Int32) (l3 : Int32) (M : JM), JG xs 9 192 (f192_43 l1 l3 M) (fun x r => r = (some (.int x.1), (jE0, x.2))) (43, [(1, .int l1), (3, .int l3)], [], (jE0, M)) := by
    intro l1 l3 M
    unfold f192_43
    refine g_pure (c' := (44, [(1, .int l1), (3, .int l3)], [.int l1], (jE0, M))) 1 rfl ?_
    refine g_if_ne (tgt := 51) rfl rfl (fun q6 => ?_) (fun q6 => ?_)
    · refine g_pure (c' := (52, [(1, .int l1), (3, .int l3)], [.int l3], (jE0, M))) 2 rfl ?_
      exact g_ret rfl rfl (fun _ h => h)
    · refine g_pure (c' := (52, [(1, .int l1), (3, .int l3)], [.int (-1 : Int32)], (jE0, M))) 1 rfl ?_
      exact g_ret rfl rfl (fun _ h => h)
def f192_142 (h59 : Nat → Int32 → Int32 → Int32 → Int32 → JM → Option (Int32 × JM)) (h85 : Nat → Int32 → Int32 → Int32 → Int32 → Int32 → JM → Option (Int32 × JM)) (l0 : Nat) (l1 : Int32) (l3 : Int32) (l4 : Int32) (l5 : Int32) (l6 : Int32) (M : JM) : Option (Int32 × JM) := (h85 l0 l1 l3 l4 l5 (l6 + (1 : Int32)) M)
set_option maxRecDepth 100000 in
theorem c192_142 {xs : Option (List Int32)} (h59 : Nat → Int32 → Int32 → Int32 → Int32 → JM → Option (Int32 × JM)) (H59 : ∀ (l0 : Nat) (l1 : Int32) (l3 : Int32) (l4 : Int32) (l5 : Int32) (M : JM) (pl0 : jok jE0 l0 7 = true), JG xs 9 192 (h59 l0 l1 l3 l4 l5 M) (fun x r => r = (some (.int x.1), (jE0, x.2))) (59, [(0, .ref l0), (1, .int l1), (3, .int l3), (4, .int l4), (5, .int l5)], [], (jE0, M))) (h85 : Nat → Int32 → Int32 → Int32 → Int32 → Int32 → JM → Option (Int32 × JM)) (H85 : ∀ (l0 : Nat) (l1 : Int32) (l3 : Int32) (l4 : Int32) (l5 : Int32) (l6 : Int32) (M : JM) (pl0 : jok jE0 l0 7 = true), JG xs 9 192 (h85 l0 l1 l3 l4 l5 l6 M) (fun x r => r = (some (.int x.1), (jE0, x.2))) (85, [(0, .ref l0), (1, .int l1), (3, .int l3), (4, .int l4), (5, .int l5), (6, .int l6)], [], (jE0, M))) : ∀ (l0 : Nat) (l1 : Int32) (l3 : Int32) (l4 : Int32) (l5 : Int32) (l6 : Int32) (M : JM) (pl0 : jok jE0 l0 7 = true), JG xs 9 192 (f192_142 h59 h85 l0 l1 l3 l4 l5 l6 M) (fun x r => r = (some (.int x.1), (jE0, x.2))) (142, [(0, .ref l0), (1, .int l1), (3, .int l3), (4, .int l4), (5, .int l5), (6, .int l6)], [], (jE0, M)) := by
    intro l0 l1 l3 l4 l5 l6 M pl0
    unfold f192_142
    refine g_pure (c' := (85, [(6, .int (l6 + (1 : Int32))), (0, .ref l0), (1, .int l1), (3, .int l3), (4, .int l4), (5, .int l5)], [], (jE0, M))) 2 rfl ?_
    refine g_weakk (lv := [(0, .ref l0), (1, .int l1), (3, .int l3), (4, .int l4), (5, .int l5), (6, .int (l6 + (1 : Int32)))]) ⟨rfl, rfl, rfl, rfl, rfl, rfl, trivial⟩ [0, 1, 3, 4, 5, 6] rfl (by decide) [6, 0, 1, 3, 4, 5] rfl (by decide) ?_
    exact (H85 l0 l1 l3 l4 l5 (l6 + (1 : Int32)) M pl0)
def f192_85 (h59 : Nat → Int32 → Int32 → Int32 → Int32 → JM → Option (Int32 × JM)) : Nat → Nat → Int32 → Int32 → Int32 → Int32 → Int32 → JM → Option (Int32 × JM)
  | 0, _, _, _, _, _, _, _ => none
  | n + 1, l0, l1, l3, l4, l5, l6, M => (if l6 < (M l0 7) then ((jla (jpt l0 25) l5 M).bind fun v10 => ((f126 v10 l6).bind fun v11 => (if v11 = (0 : Int32) then (f192_142 h59 (f192_85 h59 n) l0 l1 l3 l4 l5 l6 M) else ((jla (jpt l0 24) (l4 &&& (((1 : Int32) <<< (l6 &&& (31 : Int32))) ^^^ (-1 : Int32))) M).bind fun v13 => (if ((1 : Int32) + v13) = l3 then (if l1 = (1 : Int32) then (some (l5, M)) else (some (l6, M))) else (f192_142 h59 (f192_85 h59 n) l0 l1 l3 l4 l5 l6 M)))))) else (h59 l0 l1 l3 l4 (l5 + (1 : Int32)) M))
set_option maxRecDepth 100000 in
theorem c192_85 {xs : Option (List Int32)} (h59 : Nat → Int32 → Int32 → Int32 → Int32 → JM → Option (Int32 × JM)) (H59 : ∀ (l0 : Nat) (l1 : Int32) (l3 : Int32) (l4 : Int32) (l5 : Int32) (M : JM) (pl0 : jok jE0 l0 7 = true), JG xs 9 192 (h59 l0 l1 l3 l4 l5 M) (fun x r => r = (some (.int x.1), (jE0, x.2))) (59, [(0, .ref l0), (1, .int l1), (3, .int l3), (4, .int l4), (5, .int l5)], [], (jE0, M))) : ∀ (n : Nat) (l0 : Nat) (l1 : Int32) (l3 : Int32) (l4 : Int32) (l5 : Int32) (l6 : Int32) (M : JM) (pl0 : jok jE0 l0 7 = true), JG xs 9 192 (f192_85 h59 n l0 l1 l3 l4 l5 l6 M) (fun x r => r = (some (.int x.1), (jE0, x.2))) (85, [(0, .ref l0), (1, .int l1), (3, .int l3), (4, .int l4), (5, .int l5), (6, .int l6)], [], (jE0, M))
  | 0, _, _, _, _, _, _, _, _ => by rw [f192_85]; exact g_none
  | n + 1, l0, l1, l3, l4, l5, l6, M, pl0 => by
    rw [f192_85]
    refine g_pure (c' := (88, [(0, .ref l0), (1, .int l1), (3, .int l3), (4, .int l4), (5, .int l5), (6, .int l6)], [.ref l0, .int l6], (jE0, M))) 2 rfl ?_
    refine g_gf (ci := 7) (k := 7) rfl rfl rfl pl0 ?_
    refine g_ic_ge (tgt := 148) rfl rfl (fun q9 => ?_) (fun q9 => ?_)
    · refine g_pure (c' := (95, [(0, .ref l0), (1, .int l1), (3, .int l3), (4, .int l4), (5, .int l5), (6, .int l6)], [.ref l0], (jE0, M))) 1 rfl ?_
      refine g_gp rfl rfl rfl pl0 (jp_ok (kd := 8) pl0 (by decide) (by decide) rfl rfl).1 ?_
      refine g_pure (c' := (100, [(0, .ref l0), (1, .int l1), (3, .int l3), (4, .int l4), (5, .int l5), (6, .int l6)], [.int l5, .ref (jpt l0 25)], (jE0, M))) 1 rfl ?_
      refine g_ia rfl (jk_ok (kd := 8) pl0 (by decide) (by decide) rfl rfl) (fun v10 => ?_)
      refine g_pure (c' := (103, [(0, .ref l0), (1, .int l1), (3, .int l3), (4, .int l4), (5, .int l5), (6, .int l6)], [.int l6, .int v10], (jE0, M))) 1 rfl ?_
      refine g_cI rfl (jc_s rfl rfl) (c126 v10 l6) (by decide) (fun v11 qv11 => ?_)
      refine g_if_eq (tgt := 142) rfl rfl (fun q12 => ?_) (fun q12 => ?_)
      · exact (c192_142 h59 H59 (f192_85 h59 n) (c192_85 h59 H59 n) l0 l1 l3 l4 l5 l6 M pl0)
      · refine g_pure (c' := (111, [(0, .ref l0), (1, .int l1), (3, .int l3), (4, .int l4), (5, .int l5), (6, .int l6)], [.ref l0, .int (1 : Int32)], (jE0, M))) 2 rfl ?_
        refine g_gp rfl rfl rfl pl0 (jp_ok (kd := 8) pl0 (by decide) (by decide) rfl rfl).1 ?_
        refine g_pure (c' := (123, [(0, .ref l0), (1, .int l1), (3, .int l3), (4, .int l4), (5, .int l5), (6, .int l6)], [.int (l4 &&& (((1 : Int32) <<< (l6 &&& (31 : Int32))) ^^^ (-1 : Int32))), .ref (jpt l0 24), .int (1 : Int32)], (jE0, M))) 7 rfl ?_
        refine g_ia rfl (jk_ok (kd := 8) pl0 (by decide) (by decide) rfl rfl) (fun v13 => ?_)
        refine g_pure (c' := (126, [(0, .ref l0), (1, .int l1), (3, .int l3), (4, .int l4), (5, .int l5), (6, .int l6)], [.int l3, .int ((1 : Int32) + v13)], (jE0, M))) 2 rfl ?_
        refine g_ic_ne (tgt := 142) rfl rfl (fun q14 => ?_) (fun q14 => ?_)
        · refine g_pure (c' := (131, [(0, .ref l0), (1, .int l1), (3, .int l3), (4, .int l4), (5, .int l5), (6, .int l6)], [.int (1 : Int32), .int l1], (jE0, M))) 2 rfl ?_
          refine g_ic_ne (tgt := 139) rfl rfl (fun q15 => ?_) (fun q15 => ?_)
          · refine g_pure (c' := (141, [(0, .ref l0), (1, .int l1), (3, .int l3), (4, .int l4), (5, .int l5), (6, .int l6)], [.int l5], (jE0, M))) 2 rfl ?_
            exact g_ret rfl rfl (fun _ h => h)
          · refine g_pure (c' := (141, [(0, .ref l0), (1, .int l1), (3, .int l3), (4, .int l4), (5, .int l5), (6, .int l6)], [.int l6], (jE0, M))) 1 rfl ?_
            exact g_ret rfl rfl (fun _ h => h)
        · exact (c192_142 h59 H59 (f192_85 h59 n) (c192_85 h59 H59 n) l0 l1 l3 l4 l5 l6 M pl0)
    · refine g_pure (c' := (59, [(5, .int (l5 + (1 : Int32))), (0, .ref l0), (1, .int l1), (3, .int l3), (4, .int l4), (6, .int l6)], [], (jE0, M))) 2 rfl ?_
      refine g_weakk (lv := [(0, .ref l0), (1, .int l1), (3, .int l3), (4, .int l4), (5, .int (l5 + (1 : Int32)))]) ⟨rfl, rfl, rfl, rfl, rfl, trivial⟩ [0, 1, 3, 4, 5] rfl (by decide) [5, 0, 1, 3, 4, 6] rfl (by decide) ?_
      exact (H59 l0 l1 l3 l4 (l5 + (1 : Int32)) M pl0)
def f192_59  : Nat → Nat → Int32 → Int32 → Int32 → Int32 → JM → Option (Int32 × JM)
  | 0, _, _, _, _, _, _ => none
  | n + 1, l0, l1, l3, l4, l5, M => (if l5 < (M l0 7) then (f192_85 (f192_59 n) 1000 l0 l1 l3 (l4 &&& (((1 : Int32) <<< (l5 &&& (31 : Int32))) ^^^ (-1 : Int32))) l5 (l5 + (1 : Int32)) M) else (some ((-1 : Int32), M)))
set_option maxRecDepth 100000 in
theorem c192_59 {xs : Option (List Int32)} : ∀ (n : Nat) (l0 : Nat) (l1 : Int32) (l3 : Int32) (l4 : Int32) (l5 : Int32) (M : JM) (pl0 : jok jE0 l0 7 = true), JG xs 9 192 (f192_59 n l0 l1 l3 l4 l5 M) (fun x r => r = (some (.int x.1), (jE0, x.2))) (59, [(0, .ref l0), (1, .int l1), (3, .int l3), (4, .int l4), (5, .int l5)], [], (jE0, M))
  | 0, _, _, _, _, _, _, _ => by rw [f192_59]; exact g_none
  | n + 1, l0, l1, l3, l4, l5, M, pl0 => by
    rw [f192_59]
    refine g_pure (c' := (62, [(0, .ref l0), (1, .int l1), (3, .int l3), (4, .int l4), (5, .int l5)], [.ref l0, .int l5], (jE0, M))) 2 rfl ?_
    refine g_gf (ci := 7) (k := 7) rfl rfl rfl pl0 ?_
    refine g_ic_ge (tgt := 154) rfl rfl (fun q8 => ?_) (fun q8 => ?_)
    · refine g_pure (c' := (85, [(6, .int (l5 + (1 : Int32))), (4, .int (l4 &&& (((1 : Int32) <<< (l5 &&& (31 : Int32))) ^^^ (-1 : Int32)))), (0, .ref l0), (1, .int l1), (3, .int l3), (5, .int l5)], [], (jE0, M))) 12 rfl ?_
      refine g_weakk (lv := [(0, .ref l0), (1, .int l1), (3, .int l3), (4, .int (l4 &&& (((1 : Int32) <<< (l5 &&& (31 : Int32))) ^^^ (-1 : Int32)))), (5, .int l5), (6, .int (l5 + (1 : Int32)))]) ⟨rfl, rfl, rfl, rfl, rfl, rfl, trivial⟩ [0, 1, 3, 4, 5, 6] rfl (by decide) [6, 4, 0, 1, 3, 5] rfl (by decide) ?_
      exact (c192_85 (f192_59 n) (c192_59 n) 1000 l0 l1 l3 (l4 &&& (((1 : Int32) <<< (l5 &&& (31 : Int32))) ^^^ (-1 : Int32))) l5 (l5 + (1 : Int32)) M pl0)
    · refine g_pure (c' := (155, [(0, .ref l0), (1, .int l1), (3, .int l3), (4, .int l4), (5, .int l5)], [.int (-1 : Int32)], (jE0, M))) 1 rfl ?_
      exact g_ret rfl rfl (fun _ h => h)
/-- CometKinModel.weddings -/
def f192  (l0 : Nat) (l1 : Int32) (M : JM) : Option (Int32 × JM) := ((f125 ((l1).toInt64) (0 : Int64) (2 : Int64)).bind fun v1 => (if v1 = (0 : Int32) then (some ((-3 : Int32), M)) else ((f191 l0 M).bind fun M3 => ((jla (jpt l0 24) (((1 : Int32) <<< ((M3 l0 7) &&& (31 : Int32))) - (1 : Int32)) M3).bind fun v4 => (if l1 = (0 : Int32) then (f192_43 l1 v4 M3) else (if v4 = (0 : Int32) then (f192_43 l1 v4 M3) else (f192_59 1000 l0 l1 v4 (((1 : Int32) <<< ((M3 l0 7) &&& (31 : Int32))) - (1 : Int32)) (0 : Int32) M3)))))))
set_option maxRecDepth 100000 in
theorem c192 {xs : Option (List Int32)} (l0 : Nat) (l1 : Int32) (M : JM) (pl0 : jok jE0 l0 7 = true) : JG xs 9 192 (f192 l0 l1 M) (fun x r => r = (some (.int x.1), (jE0, x.2))) (0, [(0, .ref l0), (1, .int l1)], [], (jE0, M)) := by
    unfold f192
    refine g_pure (c' := (6, [(0, .ref l0), (1, .int l1)], [.long (2 : Int64), .long (0 : Int64), .long ((l1).toInt64)], (jE0, M))) 4 rfl ?_
    refine g_cI rfl (jc_s rfl rfl) (c125 ((l1).toInt64) (0 : Int64) (2 : Int64)) (by decide) (fun v1 qv1 => ?_)
    refine g_if_ne (tgt := 15) rfl rfl (fun q2 => ?_) (fun q2 => ?_)
    · refine g_pure (c' := (14, [(0, .ref l0), (1, .int l1)], [.int (-3 : Int32)], (jE0, M))) 1 rfl ?_
      exact g_ret rfl rfl (fun _ h => h)
    · refine g_pure (c' := (16, [(0, .ref l0), (1, .int l1)], [.ref l0], (jE0, M))) 1 rfl ?_
      refine g_wV rfl (jc_v rfl rfl (jv_o pl0 rfl) rfl) (c191 l0 M pl0) (by decide) (fun M3 => ?_)
      refine g_pure (c' := (21, [(0, .ref l0), (1, .int l1)], [.ref l0, .int (1 : Int32)], (jE0, M3))) 2 rfl ?_
      refine g_gf (ci := 7) (k := 7) rfl rfl rfl pl0 ?_
      refine g_pure (c' := (29, [(2, .int (((1 : Int32) <<< ((M3 l0 7) &&& (31 : Int32))) - (1 : Int32))), (0, .ref l0), (1, .int l1)], [.ref l0], (jE0, M3))) 5 rfl ?_
      refine g_gp rfl rfl rfl pl0 (jp_ok (kd := 8) pl0 (by decide) (by decide) rfl rfl).1 ?_
      refine g_pure (c' := (33, [(2, .int (((1 : Int32) <<< ((M3 l0 7) &&& (31 : Int32))) - (1 : Int32))), (0, .ref l0), (1, .int l1)], [.int (((1 : Int32) <<< ((M3 l0 7) &&& (31 : Int32))) - (1 : Int32)), .ref (jpt l0 24)], (jE0, M3))) 1 rfl ?_
      refine g_ia rfl (jk_ok (kd := 8) pl0 (by decide) (by decide) rfl rfl) (fun v4 => ?_)
      refine g_pure (c' := (36, [(3, .int v4), (2, .int (((1 : Int32) <<< ((M3 l0 7) &&& (31 : Int32))) - (1 : Int32))), (0, .ref l0), (1, .int l1)], [.int l1], (jE0, M3))) 2 rfl ?_
      refine g_if_eq (tgt := 43) rfl rfl (fun q5 => ?_) (fun q5 => ?_)
      · refine g_weakk (lv := [(1, .int l1), (3, .int v4)]) ⟨rfl, rfl, trivial⟩ [1, 3] rfl (by decide) [3, 2, 0, 1] rfl (by decide) ?_
        exact (c192_43 l1 v4 M3)
      · refine g_pure (c' := (40, [(3, .int v4), (2, .int (((1 : Int32) <<< ((M3 l0 7) &&& (31 : Int32))) - (1 : Int32))), (0, .ref l0), (1, .int l1)], [.int v4], (jE0, M3))) 1 rfl ?_
        refine g_if_ne (tgt := 53) rfl rfl (fun q7 => ?_) (fun q7 => ?_)
        · refine g_weakk (lv := [(1, .int l1), (3, .int v4)]) ⟨rfl, rfl, trivial⟩ [1, 3] rfl (by decide) [3, 2, 0, 1] rfl (by decide) ?_
          exact (c192_43 l1 v4 M3)
        · refine g_pure (c' := (59, [(5, .int (0 : Int32)), (4, .int (((1 : Int32) <<< ((M3 l0 7) &&& (31 : Int32))) - (1 : Int32))), (3, .int v4), (2, .int (((1 : Int32) <<< ((M3 l0 7) &&& (31 : Int32))) - (1 : Int32))), (0, .ref l0), (1, .int l1)], [], (jE0, M3))) 4 rfl ?_
          refine g_weakk (lv := [(0, .ref l0), (1, .int l1), (3, .int v4), (4, .int (((1 : Int32) <<< ((M3 l0 7) &&& (31 : Int32))) - (1 : Int32))), (5, .int (0 : Int32))]) ⟨rfl, rfl, rfl, rfl, rfl, trivial⟩ [0, 1, 3, 4, 5] rfl (by decide) [5, 4, 3, 2, 0, 1] rfl (by decide) ?_
          exact (c192_59 1000 l0 l1 v4 (((1 : Int32) <<< ((M3 l0 7) &&& (31 : Int32))) - (1 : Int32)) (0 : Int32) M3 pl0)
def f22_4 (M : JM) : Nat → Nat → Int32 → Int32 → Int32 → Option Int32
  | 0, _, _, _, _ => none
  | n + 1, l0, l1, l2, l3 => (if l3 < (M l0 0) then ((f21 M l0 l3 l1).bind fun v2 => ((f207 v2).bind fun v3 => ((f22_4 M n) l0 l1 (l2 + v3) (l3 + (1 : Int32))))) else ((jdv l2 (2 : Int32)).bind fun v4 => (some v4)))
set_option maxRecDepth 100000 in
theorem c22_4 {xs : Option (List Int32)} {M : JM} : ∀ (n : Nat) (l0 : Nat) (l1 : Int32) (l2 : Int32) (l3 : Int32) (pl0 : jok jE0 l0 0 = true), JG xs 4 22 (f22_4 M n l0 l1 l2 l3) (fun x r => r = (some (.int x), (jE0, M))) (4, [(0, .ref l0), (1, .int l1), (2, .int l2), (3, .int l3)], [], (jE0, M))
  | 0, _, _, _, _, _ => by rw [f22_4]; exact g_none
  | n + 1, l0, l1, l2, l3, pl0 => by
    rw [f22_4]
    refine g_pure (c' := (6, [(0, .ref l0), (1, .int l1), (2, .int l2), (3, .int l3)], [.ref l0, .int l3], (jE0, M))) 2 rfl ?_
    refine g_gf (ci := 0) (k := 0) rfl rfl rfl pl0 ?_
    refine g_ic_ge (tgt := 30) rfl rfl (fun q1 => ?_) (fun q1 => ?_)
    · refine g_pure (c' := (16, [(0, .ref l0), (1, .int l1), (2, .int l2), (3, .int l3)], [.int l1, .int l3, .ref l0, .int l2], (jE0, M))) 4 rfl ?_
      refine g_cI rfl (jc_v rfl rfl (jv_o pl0 rfl) rfl) (c21 l0 l3 l1 pl0) (by decide) (fun v2 qv2 => ?_)
      refine g_cI rfl (jc_s rfl rfl) (c207 v2) (by decide) (fun v3 qv3 => ?_)
      refine g_pure (c' := (4, [(3, .int (l3 + (1 : Int32))), (2, .int (l2 + v3)), (0, .ref l0), (1, .int l1)], [], (jE0, M))) 4 rfl ?_
      refine g_weakk (lv := [(0, .ref l0), (1, .int l1), (2, .int (l2 + v3)), (3, .int (l3 + (1 : Int32)))]) ⟨rfl, rfl, rfl, rfl, trivial⟩ [0, 1, 2, 3] rfl (by decide) [3, 2, 0, 1] rfl (by decide) ?_
      exact ((c22_4 n) l0 l1 (l2 + v3) (l3 + (1 : Int32)) pl0)
    · refine g_pure (c' := (32, [(0, .ref l0), (1, .int l1), (2, .int l2), (3, .int l3)], [.int (2 : Int32), .int l2], (jE0, M))) 2 rfl ?_
      refine g_d1 rfl (fun v4 => ?_)
      exact g_ret rfl rfl (fun _ h => h)
/-- CometKin$Country.pairsOfKin -/
def f22 (M : JM) (l0 : Nat) (l1 : Int32) : Option Int32 := (f22_4 M 1000 l0 l1 (0 : Int32) (0 : Int32))
set_option maxRecDepth 100000 in
theorem c22 {xs : Option (List Int32)} {M : JM} (l0 : Nat) (l1 : Int32) (pl0 : jok jE0 l0 0 = true) : JG xs 4 22 (f22 M l0 l1) (fun x r => r = (some (.int x), (jE0, M))) (0, [(0, .ref l0), (1, .int l1)], [], (jE0, M)) := by
    unfold f22
    refine g_pure (c' := (4, [(3, .int (0 : Int32)), (2, .int (0 : Int32)), (0, .ref l0), (1, .int l1)], [], (jE0, M))) 4 rfl ?_
    refine g_weakk (lv := [(0, .ref l0), (1, .int l1), (2, .int (0 : Int32)), (3, .int (0 : Int32))]) ⟨rfl, rfl, rfl, rfl, trivial⟩ [0, 1, 2, 3] rfl (by decide) [3, 2, 0, 1] rfl (by decide) ?_
    exact (c22_4 1000 l0 l1 (0 : Int32) (0 : Int32) pl0)
def f9_2  : Nat → Nat → Int32 → JM → Option JM
  | 0, _, _, _ => none
  | n + 1, l0, l2, M => (if l2 < (M l0 1) then ((f42 M (jpt l0 8) (l2 + (1 : Int32))).bind fun v2 => ((f43 (jpt l0 8) l2 v2 M).bind fun M3 => ((f42 M3 (jpt l0 9) (l2 + (1 : Int32))).bind fun v4 => ((f43 (jpt l0 9) l2 v4 M3).bind fun M5 => ((f9_2 n) l0 (l2 + (1 : Int32)) M5))))) else ((some (jup M l0 1 ((M l0 1) - (1 : Int32)))).bind fun M6 => ((f10 l0 M6).bind fun M7 => ((f13 l0 M7).bind fun M8 => (some M8)))))
set_option maxRecDepth 100000 in
theorem c9_2 {xs : Option (List Int32)} : ∀ (n : Nat) (l0 : Nat) (l2 : Int32) (M : JM) (pl0 : jok jE0 l0 0 = true), JG xs 4 9 (f9_2 n l0 l2 M) (fun x r => r = (none, (jE0, x))) (2, [(0, .ref l0), (2, .int l2)], [], (jE0, M))
  | 0, _, _, _, _ => by rw [f9_2]; exact g_none
  | n + 1, l0, l2, M, pl0 => by
    rw [f9_2]
    refine g_pure (c' := (4, [(0, .ref l0), (2, .int l2)], [.ref l0, .int l2], (jE0, M))) 2 rfl ?_
    refine g_gf (ci := 0) (k := 1) rfl rfl rfl pl0 ?_
    refine g_ic_ge (tgt := 52) rfl rfl (fun q1 => ?_) (fun q1 => ?_)
    · refine g_pure (c' := (11, [(0, .ref l0), (2, .int l2)], [.ref l0], (jE0, M))) 1 rfl ?_
      refine g_gp rfl rfl rfl pl0 (jp_ok (kd := 3) pl0 (by decide) (by decide) rfl rfl).1 ?_
      refine g_pure (c' := (16, [(0, .ref l0), (2, .int l2)], [.ref l0, .int l2, .ref (jpt l0 8)], (jE0, M))) 2 rfl ?_
      refine g_gp rfl rfl rfl pl0 (jp_ok (kd := 3) pl0 (by decide) (by decide) rfl rfl).1 ?_
      refine g_pure (c' := (22, [(0, .ref l0), (2, .int l2)], [.int (l2 + (1 : Int32)), .ref (jpt l0 8), .int l2, .ref (jpt l0 8)], (jE0, M))) 3 rfl ?_
      refine g_cI rfl (jc_v rfl rfl (jv_o (jk_ok (kd := 3) pl0 (by decide) (by decide) rfl rfl) rfl) rfl) (c42 (jpt l0 8) (l2 + (1 : Int32)) (jk_ok (kd := 3) pl0 (by decide) (by decide) rfl rfl)) (by decide) (fun v2 qv2 => ?_)
      refine g_wV rfl (jc_v rfl rfl (jv_o (jk_ok (kd := 3) pl0 (by decide) (by decide) rfl rfl) rfl) rfl) (c43 (jpt l0 8) l2 v2 M (jk_ok (kd := 3) pl0 (by decide) (by decide) rfl rfl)) (by decide) (fun M3 => ?_)
      refine g_pure (c' := (29, [(0, .ref l0), (2, .int l2)], [.ref l0], (jE0, M3))) 1 rfl ?_
      refine g_gp rfl rfl rfl pl0 (jp_ok (kd := 3) pl0 (by decide) (by decide) rfl rfl).1 ?_
      refine g_pure (c' := (34, [(0, .ref l0), (2, .int l2)], [.ref l0, .int l2, .ref (jpt l0 9)], (jE0, M3))) 2 rfl ?_
      refine g_gp rfl rfl rfl pl0 (jp_ok (kd := 3) pl0 (by decide) (by decide) rfl rfl).1 ?_
      refine g_pure (c' := (40, [(0, .ref l0), (2, .int l2)], [.int (l2 + (1 : Int32)), .ref (jpt l0 9), .int l2, .ref (jpt l0 9)], (jE0, M3))) 3 rfl ?_
      refine g_cI rfl (jc_v rfl rfl (jv_o (jk_ok (kd := 3) pl0 (by decide) (by decide) rfl rfl) rfl) rfl) (c42 (jpt l0 9) (l2 + (1 : Int32)) (jk_ok (kd := 3) pl0 (by decide) (by decide) rfl rfl)) (by decide) (fun v4 qv4 => ?_)
      refine g_wV rfl (jc_v rfl rfl (jv_o (jk_ok (kd := 3) pl0 (by decide) (by decide) rfl rfl) rfl) rfl) (c43 (jpt l0 9) l2 v4 M3 (jk_ok (kd := 3) pl0 (by decide) (by decide) rfl rfl)) (by decide) (fun M5 => ?_)
      refine g_pure (c' := (2, [(2, .int (l2 + (1 : Int32))), (0, .ref l0)], [], (jE0, M5))) 2 rfl ?_
      refine g_weakk (lv := [(0, .ref l0), (2, .int (l2 + (1 : Int32)))]) ⟨rfl, rfl, trivial⟩ [0, 2] rfl (by decide) [2, 0] rfl (by decide) ?_
      exact ((c9_2 n) l0 (l2 + (1 : Int32)) M5 pl0)
    · refine g_pure (c' := (54, [(0, .ref l0), (2, .int l2)], [.ref l0, .ref l0], (jE0, M))) 2 rfl ?_
      refine g_gf (ci := 0) (k := 1) rfl rfl rfl pl0 ?_
      refine g_pure (c' := (59, [(0, .ref l0), (2, .int l2)], [.int ((M l0 1) - (1 : Int32)), .ref l0], (jE0, M))) 2 rfl ?_
      refine g_pf (ci := 0) (k := 1) rfl rfl rfl rfl pl0 (fun M6 => ?_)
      refine g_pure (c' := (63, [(0, .ref l0), (2, .int l2)], [.ref l0], (jE0, M6))) 1 rfl ?_
      refine g_wV rfl (jc_v rfl rfl (jv_o pl0 rfl) rfl) (c10 l0 M6 pl0) (by decide) (fun M7 => ?_)
      refine g_pure (c' := (67, [(0, .ref l0), (2, .int l2)], [.ref l0], (jE0, M7))) 1 rfl ?_
      refine g_wV rfl (jc_v rfl rfl (jv_o pl0 rfl) rfl) (c13 l0 M7 pl0) (by decide) (fun M8 => ?_)
      exact g_ret rfl rfl (fun _ h => h)
/-- CometKin$Country.dropComet -/
def f9  (l0 : Nat) (l1 : Int32) (M : JM) : Option JM := (f9_2 1000 l0 l1 M)
set_option maxRecDepth 100000 in
theorem c9 {xs : Option (List Int32)} (l0 : Nat) (l1 : Int32) (M : JM) (pl0 : jok jE0 l0 0 = true) : JG xs 4 9 (f9 l0 l1 M) (fun x r => r = (none, (jE0, x))) (0, [(0, .ref l0), (1, .int l1)], [], (jE0, M)) := by
    unfold f9
    refine g_pure (c' := (2, [(2, .int l1), (0, .ref l0), (1, .int l1)], [], (jE0, M))) 2 rfl ?_
    refine g_weakk (lv := [(0, .ref l0), (2, .int l1)]) ⟨rfl, rfl, trivial⟩ [0, 2] rfl (by decide) [2, 0, 1] rfl (by decide) ?_
    exact (c9_2 1000 l0 l1 M pl0)
def f92_103 (h35 : Nat → Int32 → Int32 → Int32 → Int32 → Int32 → JM → Option (Int32 × JM)) (l0 : Nat) (l1 : Int32) (l2 : Int32) (l3 : Int32) (l4 : Int32) (l5 : Int32) (M : JM) : Option (Int32 × JM) := (h35 l0 l1 l2 l3 l4 (l5 + (1 : Int32)) M)
set_option maxRecDepth 100000 in
theorem c92_103 {xs : Option (List Int32)} (h35 : Nat → Int32 → Int32 → Int32 → Int32 → Int32 → JM → Option (Int32 × JM)) (H35 : ∀ (l0 : Nat) (l1 : Int32) (l2 : Int32) (l3 : Int32) (l4 : Int32) (l5 : Int32) (M : JM) (pl0 : jok jE0 l0 6 = true), JG xs 5 92 (h35 l0 l1 l2 l3 l4 l5 M) (fun x r => r = (some (.int x.1), (jE0, x.2))) (35, [(0, .ref l0), (1, .int l1), (2, .int l2), (3, .int l3), (4, .int l4), (5, .int l5)], [], (jE0, M))) : ∀ (l0 : Nat) (l1 : Int32) (l2 : Int32) (l3 : Int32) (l4 : Int32) (l5 : Int32) (M : JM) (pl0 : jok jE0 l0 6 = true), JG xs 5 92 (f92_103 h35 l0 l1 l2 l3 l4 l5 M) (fun x r => r = (some (.int x.1), (jE0, x.2))) (103, [(0, .ref l0), (1, .int l1), (2, .int l2), (3, .int l3), (4, .int l4), (5, .int l5)], [], (jE0, M)) := by
    intro l0 l1 l2 l3 l4 l5 M pl0
    unfold f92_103
    refine g_pure (c' := (35, [(5, .int (l5 + (1 : Int32))), (0, .ref l0), (1, .int l1), (2, .int l2), (3, .int l3), (4, .int l4)], [], (jE0, M))) 2 rfl ?_
    refine g_weakk (lv := [(0, .ref l0), (1, .int l1), (2, .int l2), (3, .int l3), (4, .int l4), (5, .int (l5 + (1 : Int32)))]) ⟨rfl, rfl, rfl, rfl, rfl, rfl, trivial⟩ [0, 1, 2, 3, 4, 5] rfl (by decide) [5, 0, 1, 2, 3, 4] rfl (by decide) ?_
    exact (H35 l0 l1 l2 l3 l4 (l5 + (1 : Int32)) M pl0)
def f92_35  : Nat → Nat → Int32 → Int32 → Int32 → Int32 → Int32 → JM → Option (Int32 × JM)
  | 0, _, _, _, _, _, _, _ => none
  | n + 1, l0, l1, l2, l3, l4, l5, M => (if l5 < (M (jpt l0 1) 1) then ((f1 (jpt l0 2) (jpt l0 1) M).bind fun M5 => ((f9 (jpt l0 2) l5 M5).bind fun M6 => ((f22 M6 (jpt l0 2) (M6 (jpt l0 3) 0)).bind fun v7 => (if (0 : Int32) < (l4 - v7) then (if l3 < (l4 - v7) then (f92_103 (f92_35 n) l0 l1 l5 (l4 - v7) l4 l5 M6) else (f92_103 (f92_35 n) l0 l1 l2 l3 l4 l5 M6)) else (f92_103 (f92_35 n) l0 l1 l2 l3 l4 l5 M6))))) else (if l1 = (0 : Int32) then (some (l2, M)) else (some (l3, M))))
set_option maxRecDepth 100000 in
theorem c92_35 {xs : Option (List Int32)} : ∀ (n : Nat) (l0 : Nat) (l1 : Int32) (l2 : Int32) (l3 : Int32) (l4 : Int32) (l5 : Int32) (M : JM) (pl0 : jok jE0 l0 6 = true), JG xs 5 92 (f92_35 n l0 l1 l2 l3 l4 l5 M) (fun x r => r = (some (.int x.1), (jE0, x.2))) (35, [(0, .ref l0), (1, .int l1), (2, .int l2), (3, .int l3), (4, .int l4), (5, .int l5)], [], (jE0, M))
  | 0, _, _, _, _, _, _, _, _ => by rw [f92_35]; exact g_none
  | n + 1, l0, l1, l2, l3, l4, l5, M, pl0 => by
    rw [f92_35]
    refine g_pure (c' := (38, [(0, .ref l0), (1, .int l1), (2, .int l2), (3, .int l3), (4, .int l4), (5, .int l5)], [.ref l0, .int l5], (jE0, M))) 2 rfl ?_
    refine g_gp rfl rfl rfl pl0 (jp_ok (kd := 0) pl0 (by decide) (by decide) rfl rfl).1 ?_
    refine g_gf (ci := 0) (k := 1) rfl rfl rfl (jk_ok (kd := 0) pl0 (by decide) (by decide) rfl rfl) ?_
    refine g_ic_ge (tgt := 109) rfl rfl (fun q4 => ?_) (fun q4 => ?_)
    · refine g_pure (c' := (48, [(0, .ref l0), (1, .int l1), (2, .int l2), (3, .int l3), (4, .int l4), (5, .int l5)], [.ref l0], (jE0, M))) 1 rfl ?_
      refine g_gp rfl rfl rfl pl0 (jp_ok (kd := 0) pl0 (by decide) (by decide) rfl rfl).1 ?_
      refine g_pure (c' := (52, [(0, .ref l0), (1, .int l1), (2, .int l2), (3, .int l3), (4, .int l4), (5, .int l5)], [.ref l0, .ref (jpt l0 2)], (jE0, M))) 1 rfl ?_
      refine g_gp rfl rfl rfl pl0 (jp_ok (kd := 0) pl0 (by decide) (by decide) rfl rfl).1 ?_
      refine g_wV rfl (jc_v rfl rfl (jv_o (jk_ok (kd := 0) pl0 (by decide) (by decide) rfl rfl) rfl) rfl) (c1 (jpt l0 2) (jpt l0 1) M (jk_ok (kd := 0) pl0 (by decide) (by decide) rfl rfl) (jk_ok (kd := 0) pl0 (by decide) (by decide) rfl rfl)) (by decide) (fun M5 => ?_)
      refine g_pure (c' := (59, [(0, .ref l0), (1, .int l1), (2, .int l2), (3, .int l3), (4, .int l4), (5, .int l5)], [.ref l0], (jE0, M5))) 1 rfl ?_
      refine g_gp rfl rfl rfl pl0 (jp_ok (kd := 0) pl0 (by decide) (by decide) rfl rfl).1 ?_
      refine g_pure (c' := (64, [(0, .ref l0), (1, .int l1), (2, .int l2), (3, .int l3), (4, .int l4), (5, .int l5)], [.int l5, .ref (jpt l0 2)], (jE0, M5))) 1 rfl ?_
      refine g_wV rfl (jc_v rfl rfl (jv_o (jk_ok (kd := 0) pl0 (by decide) (by decide) rfl rfl) rfl) rfl) (c9 (jpt l0 2) l5 M5 (jk_ok (kd := 0) pl0 (by decide) (by decide) rfl rfl)) (by decide) (fun M6 => ?_)
      refine g_pure (c' := (70, [(0, .ref l0), (1, .int l1), (2, .int l2), (3, .int l3), (4, .int l4), (5, .int l5)], [.ref l0, .int l4], (jE0, M6))) 2 rfl ?_
      refine g_gp rfl rfl rfl pl0 (jp_ok (kd := 0) pl0 (by decide) (by decide) rfl rfl).1 ?_
      refine g_pure (c' := (74, [(0, .ref l0), (1, .int l1), (2, .int l2), (3, .int l3), (4, .int l4), (5, .int l5)], [.ref l0, .ref (jpt l0 2), .int l4], (jE0, M6))) 1 rfl ?_
      refine g_gp rfl rfl rfl pl0 (jp_ok (kd := 2) pl0 (by decide) (by decide) rfl rfl).1 ?_
      refine g_gf (ci := 2) (k := 0) rfl rfl rfl (jk_ok (kd := 2) pl0 (by decide) (by decide) rfl rfl) ?_
      refine g_cI rfl (jc_v rfl rfl (jv_o (jk_ok (kd := 0) pl0 (by decide) (by decide) rfl rfl) rfl) rfl) (c22 (jpt l0 2) (M6 (jpt l0 3) 0) (jk_ok (kd := 0) pl0 (by decide) (by decide) rfl rfl)) (by decide) (fun v7 qv7 => ?_)
      refine g_pure (c' := (88, [(6, .int (l4 - v7)), (0, .ref l0), (1, .int l1), (2, .int l2), (3, .int l3), (4, .int l4), (5, .int l5)], [.int (l4 - v7)], (jE0, M6))) 3 rfl ?_
      refine g_if_le (tgt := 103) rfl rfl (fun q8 => ?_) (fun q8 => ?_)
      · refine g_pure (c' := (94, [(6, .int (l4 - v7)), (0, .ref l0), (1, .int l1), (2, .int l2), (3, .int l3), (4, .int l4), (5, .int l5)], [.int l3, .int (l4 - v7)], (jE0, M6))) 2 rfl ?_
        refine g_ic_le (tgt := 103) rfl rfl (fun q9 => ?_) (fun q9 => ?_)
        · refine g_pure (c' := (103, [(2, .int l5), (3, .int (l4 - v7)), (6, .int (l4 - v7)), (0, .ref l0), (1, .int l1), (4, .int l4), (5, .int l5)], [], (jE0, M6))) 4 rfl ?_
          refine g_weakk (lv := [(0, .ref l0), (1, .int l1), (2, .int l5), (3, .int (l4 - v7)), (4, .int l4), (5, .int l5)]) ⟨rfl, rfl, rfl, rfl, rfl, rfl, trivial⟩ [0, 1, 2, 3, 4, 5] rfl (by decide) [2, 3, 6, 0, 1, 4, 5] rfl (by decide) ?_
          exact (c92_103 (f92_35 n) (c92_35 n) l0 l1 l5 (l4 - v7) l4 l5 M6 pl0)
        · refine g_weakk (lv := [(0, .ref l0), (1, .int l1), (2, .int l2), (3, .int l3), (4, .int l4), (5, .int l5)]) ⟨rfl, rfl, rfl, rfl, rfl, rfl, trivial⟩ [0, 1, 2, 3, 4, 5] rfl (by decide) [6, 0, 1, 2, 3, 4, 5] rfl (by decide) ?_
          exact (c92_103 (f92_35 n) (c92_35 n) l0 l1 l2 l3 l4 l5 M6 pl0)
      · refine g_weakk (lv := [(0, .ref l0), (1, .int l1), (2, .int l2), (3, .int l3), (4, .int l4), (5, .int l5)]) ⟨rfl, rfl, rfl, rfl, rfl, rfl, trivial⟩ [0, 1, 2, 3, 4, 5] rfl (by decide) [6, 0, 1, 2, 3, 4, 5] rfl (by decide) ?_
        exact (c92_103 (f92_35 n) (c92_35 n) l0 l1 l2 l3 l4 l5 M6 pl0)
    · refine g_pure (c' := (110, [(0, .ref l0), (1, .int l1), (2, .int l2), (3, .int l3), (4, .int l4), (5, .int l5)], [.int l1], (jE0, M))) 1 rfl ?_
      refine g_if_ne (tgt := 117) rfl rfl (fun q10 => ?_) (fun q10 => ?_)
      · refine g_pure (c' := (118, [(0, .ref l0), (1, .int l1), (2, .int l2), (3, .int l3), (4, .int l4), (5, .int l5)], [.int l2], (jE0, M))) 2 rfl ?_
        exact g_ret rfl rfl (fun _ h => h)
      · refine g_pure (c' := (118, [(0, .ref l0), (1, .int l1), (2, .int l2), (3, .int l3), (4, .int l4), (5, .int l5)], [.int l3], (jE0, M))) 1 rfl ?_
        exact g_ret rfl rfl (fun _ h => h)
/-- CometKin.makes -/
def f92  (l0 : Nat) (l1 : Int32) (M : JM) : Option (Int32 × JM) := (if l1 < (0 : Int32) then (some ((-3 : Int32), M)) else (if (1 : Int32) < l1 then (some ((-3 : Int32), M)) else ((f22 M (jpt l0 1) (M (jpt l0 3) 0)).bind fun v3 => (f92_35 1000 l0 l1 (-1 : Int32) (-1 : Int32) v3 (0 : Int32) M))))
set_option maxRecDepth 100000 in
theorem c92 {xs : Option (List Int32)} (l0 : Nat) (l1 : Int32) (M : JM) (pl0 : jok jE0 l0 6 = true) : JG xs 5 92 (f92 l0 l1 M) (fun x r => r = (some (.int x.1), (jE0, x.2))) (0, [(0, .ref l0), (1, .int l1)], [], (jE0, M)) := by
    unfold f92
    refine g_pure (c' := (1, [(0, .ref l0), (1, .int l1)], [.int l1], (jE0, M))) 1 rfl ?_
    refine g_if_lt (tgt := 9) rfl rfl (fun q1 => ?_) (fun q1 => ?_)
    · refine g_pure (c' := (11, [(0, .ref l0), (1, .int l1)], [.int (-3 : Int32)], (jE0, M))) 1 rfl ?_
      exact g_ret rfl rfl (fun _ h => h)
    · refine g_pure (c' := (6, [(0, .ref l0), (1, .int l1)], [.int (1 : Int32), .int l1], (jE0, M))) 2 rfl ?_
      refine g_ic_le (tgt := 12) rfl rfl (fun q2 => ?_) (fun q2 => ?_)
      · refine g_pure (c' := (11, [(0, .ref l0), (1, .int l1)], [.int (-3 : Int32)], (jE0, M))) 1 rfl ?_
        exact g_ret rfl rfl (fun _ h => h)
      · refine g_pure (c' := (17, [(3, .int (-1 : Int32)), (2, .int (-1 : Int32)), (0, .ref l0), (1, .int l1)], [.ref l0], (jE0, M))) 5 rfl ?_
        refine g_gp rfl rfl rfl pl0 (jp_ok (kd := 0) pl0 (by decide) (by decide) rfl rfl).1 ?_
        refine g_pure (c' := (21, [(3, .int (-1 : Int32)), (2, .int (-1 : Int32)), (0, .ref l0), (1, .int l1)], [.ref l0, .ref (jpt l0 1)], (jE0, M))) 1 rfl ?_
        refine g_gp rfl rfl rfl pl0 (jp_ok (kd := 2) pl0 (by decide) (by decide) rfl rfl).1 ?_
        refine g_gf (ci := 2) (k := 0) rfl rfl rfl (jk_ok (kd := 2) pl0 (by decide) (by decide) rfl rfl) ?_
        refine g_cI rfl (jc_v rfl rfl (jv_o (jk_ok (kd := 0) pl0 (by decide) (by decide) rfl rfl) rfl) rfl) (c22 (jpt l0 1) (M (jpt l0 3) 0) (jk_ok (kd := 0) pl0 (by decide) (by decide) rfl rfl)) (by decide) (fun v3 qv3 => ?_)
        refine g_pure (c' := (35, [(5, .int (0 : Int32)), (4, .int v3), (3, .int (-1 : Int32)), (2, .int (-1 : Int32)), (0, .ref l0), (1, .int l1)], [], (jE0, M))) 3 rfl ?_
        refine g_weakk (lv := [(0, .ref l0), (1, .int l1), (2, .int (-1 : Int32)), (3, .int (-1 : Int32)), (4, .int v3), (5, .int (0 : Int32))]) ⟨rfl, rfl, rfl, rfl, rfl, rfl, trivial⟩ [0, 1, 2, 3, 4, 5] rfl (by decide) [5, 4, 3, 2, 0, 1] rfl (by decide) ?_
        exact (c92_35 1000 l0 l1 (-1 : Int32) (-1 : Int32) v3 (0 : Int32) M pl0)
def f193_46 (h4 : Nat → Int32 → Int32 → JM → Option (Int32 × JM)) (h16 : Nat → Int32 → Int32 → Int32 → JM → Option (Int32 × JM)) (l0 : Nat) (l2 : Int32) (l3 : Int32) (s0 : Int32) (s1 : Int32) (M : JM) : Option (Int32 × JM) := (h16 l0 (s1 + s0) l2 (l3 + (1 : Int32)) M)
set_option maxRecDepth 100000 in
theorem c193_46 {xs : Option (List Int32)} (h4 : Nat → Int32 → Int32 → JM → Option (Int32 × JM)) (H4 : ∀ (l0 : Nat) (l1 : Int32) (l2 : Int32) (M : JM) (pl0 : jok jE0 l0 7 = true), JG xs 6 193 (h4 l0 l1 l2 M) (fun x r => r = (some (.int x.1), (jE0, x.2))) (4, [(0, .ref l0), (1, .int l1), (2, .int l2)], [], (jE0, M))) (h16 : Nat → Int32 → Int32 → Int32 → JM → Option (Int32 × JM)) (H16 : ∀ (l0 : Nat) (l1 : Int32) (l2 : Int32) (l3 : Int32) (M : JM) (pl0 : jok jE0 l0 7 = true), JG xs 6 193 (h16 l0 l1 l2 l3 M) (fun x r => r = (some (.int x.1), (jE0, x.2))) (16, [(0, .ref l0), (1, .int l1), (2, .int l2), (3, .int l3)], [], (jE0, M))) : ∀ (l0 : Nat) (l2 : Int32) (l3 : Int32) (s0 : Int32) (s1 : Int32) (M : JM) (pl0 : jok jE0 l0 7 = true), JG xs 6 193 (f193_46 h4 h16 l0 l2 l3 s0 s1 M) (fun x r => r = (some (.int x.1), (jE0, x.2))) (46, [(0, .ref l0), (2, .int l2), (3, .int l3)], [.int s0, .int s1], (jE0, M)) := by
    intro l0 l2 l3 s0 s1 M pl0
    unfold f193_46
    refine g_pure (c' := (16, [(3, .int (l3 + (1 : Int32))), (1, .int (s1 + s0)), (0, .ref l0), (2, .int l2)], [], (jE0, M))) 4 rfl ?_
    refine g_weakk (lv := [(0, .ref l0), (1, .int (s1 + s0)), (2, .int l2), (3, .int (l3 + (1 : Int32)))]) ⟨rfl, rfl, rfl, rfl, trivial⟩ [0, 1, 2, 3] rfl (by decide) [3, 1, 0, 2] rfl (by decide) ?_
    exact (H16 l0 (s1 + s0) l2 (l3 + (1 : Int32)) M pl0)
def f193_16 (h4 : Nat → Int32 → Int32 → JM → Option (Int32 × JM)) : Nat → Nat → Int32 → Int32 → Int32 → JM → Option (Int32 × JM)
  | 0, _, _, _, _, _ => none
  | n + 1, l0, l1, l2, l3, M => (if l3 < (M l0 7) then ((jla (jpt l0 0) (0 : Int32) M).bind fun v3 => ((f156 l0 l2 l3 v3 M).bind fun z7 => (if z7.1 = (-1 : Int32) then (f193_46 h4 (f193_16 h4 n) l0 l2 l3 (0 : Int32) l1 z7.2) else (f193_46 h4 (f193_16 h4 n) l0 l2 l3 (1 : Int32) l1 z7.2)))) else (h4 l0 l1 (l2 + (1 : Int32)) M))
set_option maxRecDepth 100000 in
theorem c193_16 {xs : Option (List Int32)} (h4 : Nat → Int32 → Int32 → JM → Option (Int32 × JM)) (H4 : ∀ (l0 : Nat) (l1 : Int32) (l2 : Int32) (M : JM) (pl0 : jok jE0 l0 7 = true), JG xs 6 193 (h4 l0 l1 l2 M) (fun x r => r = (some (.int x.1), (jE0, x.2))) (4, [(0, .ref l0), (1, .int l1), (2, .int l2)], [], (jE0, M))) : ∀ (n : Nat) (l0 : Nat) (l1 : Int32) (l2 : Int32) (l3 : Int32) (M : JM) (pl0 : jok jE0 l0 7 = true), JG xs 6 193 (f193_16 h4 n l0 l1 l2 l3 M) (fun x r => r = (some (.int x.1), (jE0, x.2))) (16, [(0, .ref l0), (1, .int l1), (2, .int l2), (3, .int l3)], [], (jE0, M))
  | 0, _, _, _, _, _, _ => by rw [f193_16]; exact g_none
  | n + 1, l0, l1, l2, l3, M, pl0 => by
    rw [f193_16]
    refine g_pure (c' := (18, [(0, .ref l0), (1, .int l1), (2, .int l2), (3, .int l3)], [.ref l0, .int l3], (jE0, M))) 2 rfl ?_
    refine g_gf (ci := 7) (k := 7) rfl rfl rfl pl0 ?_
    refine g_ic_ge (tgt := 54) rfl rfl (fun q2 => ?_) (fun q2 => ?_)
    · refine g_pure (c' := (29, [(0, .ref l0), (1, .int l1), (2, .int l2), (3, .int l3)], [.ref l0, .int l3, .int l2, .ref l0, .int l1], (jE0, M))) 5 rfl ?_
      refine g_gp rfl rfl rfl pl0 (jp_ok (kd := 8) pl0 (by decide) (by decide) rfl rfl).1 ?_
      refine g_pure (c' := (33, [(0, .ref l0), (1, .int l1), (2, .int l2), (3, .int l3)], [.int (0 : Int32), .ref (jpt l0 0), .int l3, .int l2, .ref l0, .int l1], (jE0, M))) 1 rfl ?_
      refine g_ia rfl (jk_ok (kd := 8) pl0 (by decide) (by decide) rfl rfl) (fun v3 => ?_)
      refine g_wI rfl (jc_v rfl rfl (jv_o pl0 rfl) rfl) (c156 l0 l2 l3 v3 M pl0) (by decide) (fun v5 M4 qv5 => ?_)
      refine g_pure (c' := (38, [(0, .ref l0), (1, .int l1), (2, .int l2), (3, .int l3)], [.int (-1 : Int32), .int v5, .int l1], (jE0, M4))) 1 rfl ?_
      refine g_ic_ne (tgt := 45) rfl rfl (fun q6 => ?_) (fun q6 => ?_)
      · refine g_pure (c' := (46, [(0, .ref l0), (1, .int l1), (2, .int l2), (3, .int l3)], [.int (0 : Int32), .int l1], (jE0, M4))) 2 rfl ?_
        refine g_weakk (lv := [(0, .ref l0), (2, .int l2), (3, .int l3)]) ⟨rfl, rfl, rfl, trivial⟩ [0, 2, 3] rfl (by decide) [0, 1, 2, 3] rfl (by decide) ?_
        exact (c193_46 h4 H4 (f193_16 h4 n) (c193_16 h4 H4 n) l0 l2 l3 (0 : Int32) l1 M4 pl0)
      · refine g_pure (c' := (46, [(0, .ref l0), (1, .int l1), (2, .int l2), (3, .int l3)], [.int (1 : Int32), .int l1], (jE0, M4))) 1 rfl ?_
        refine g_weakk (lv := [(0, .ref l0), (2, .int l2), (3, .int l3)]) ⟨rfl, rfl, rfl, trivial⟩ [0, 2, 3] rfl (by decide) [0, 1, 2, 3] rfl (by decide) ?_
        exact (c193_46 h4 H4 (f193_16 h4 n) (c193_16 h4 H4 n) l0 l2 l3 (1 : Int32) l1 M4 pl0)
    · refine g_pure (c' := (4, [(2, .int (l2 + (1 : Int32))), (0, .ref l0), (1, .int l1), (3, .int l3)], [], (jE0, M))) 2 rfl ?_
      refine g_weakk (lv := [(0, .ref l0), (1, .int l1), (2, .int (l2 + (1 : Int32)))]) ⟨rfl, rfl, rfl, trivial⟩ [0, 1, 2] rfl (by decide) [2, 0, 1, 3] rfl (by decide) ?_
      exact (H4 l0 l1 (l2 + (1 : Int32)) M pl0)
def f193_4  : Nat → Nat → Int32 → Int32 → JM → Option (Int32 × JM)
  | 0, _, _, _, _ => none
  | n + 1, l0, l1, l2, M => (if l2 < (M l0 7) then (f193_16 (f193_4 n) 1000 l0 l1 l2 (l2 + (1 : Int32)) M) else (some (l1, M)))
set_option maxRecDepth 100000 in
theorem c193_4 {xs : Option (List Int32)} : ∀ (n : Nat) (l0 : Nat) (l1 : Int32) (l2 : Int32) (M : JM) (pl0 : jok jE0 l0 7 = true), JG xs 6 193 (f193_4 n l0 l1 l2 M) (fun x r => r = (some (.int x.1), (jE0, x.2))) (4, [(0, .ref l0), (1, .int l1), (2, .int l2)], [], (jE0, M))
  | 0, _, _, _, _, _ => by rw [f193_4]; exact g_none
  | n + 1, l0, l1, l2, M, pl0 => by
    rw [f193_4]
    refine g_pure (c' := (6, [(0, .ref l0), (1, .int l1), (2, .int l2)], [.ref l0, .int l2], (jE0, M))) 2 rfl ?_
    refine g_gf (ci := 7) (k := 7) rfl rfl rfl pl0 ?_
    refine g_ic_ge (tgt := 60) rfl rfl (fun q1 => ?_) (fun q1 => ?_)
    · refine g_pure (c' := (16, [(3, .int (l2 + (1 : Int32))), (0, .ref l0), (1, .int l1), (2, .int l2)], [], (jE0, M))) 4 rfl ?_
      refine g_weakk (lv := [(0, .ref l0), (1, .int l1), (2, .int l2), (3, .int (l2 + (1 : Int32)))]) ⟨rfl, rfl, rfl, rfl, trivial⟩ [0, 1, 2, 3] rfl (by decide) [3, 0, 1, 2] rfl (by decide) ?_
      exact (c193_16 (f193_4 n) (c193_4 n) 1000 l0 l1 l2 (l2 + (1 : Int32)) M pl0)
    · refine g_pure (c' := (61, [(0, .ref l0), (1, .int l1), (2, .int l2)], [.int l1], (jE0, M))) 1 rfl ?_
      exact g_ret rfl rfl (fun _ h => h)
/-- CometKinModel.pairsNow -/
def f193  (l0 : Nat) (M : JM) : Option (Int32 × JM) := (f193_4 1000 l0 (0 : Int32) (0 : Int32) M)
set_option maxRecDepth 100000 in
theorem c193 {xs : Option (List Int32)} (l0 : Nat) (M : JM) (pl0 : jok jE0 l0 7 = true) : JG xs 6 193 (f193 l0 M) (fun x r => r = (some (.int x.1), (jE0, x.2))) (0, [(0, .ref l0)], [], (jE0, M)) := by
    unfold f193
    refine g_pure (c' := (4, [(2, .int (0 : Int32)), (1, .int (0 : Int32)), (0, .ref l0)], [], (jE0, M))) 4 rfl ?_
    refine g_weakk (lv := [(0, .ref l0), (1, .int (0 : Int32)), (2, .int (0 : Int32))]) ⟨rfl, rfl, rfl, trivial⟩ [0, 1, 2] rfl (by decide) [2, 1, 0] rfl (by decide) ?_
    exact (c193_4 1000 l0 (0 : Int32) (0 : Int32) M pl0)
def f194_77 (h26 : Nat → Int32 → Int32 → Int32 → Int32 → Int32 → JM → Option (Int32 × JM)) (l0 : Nat) (l1 : Int32) (l2 : Int32) (l3 : Int32) (l5 : Int32) (s0 : Int32) (M : JM) : Option (Int32 × JM) := (h26 l0 l1 l2 l3 s0 (l5 + (1 : Int32)) M)
set_option maxRecDepth 100000 in
theorem c194_77 {xs : Option (List Int32)} (h26 : Nat → Int32 → Int32 → Int32 → Int32 → Int32 → JM → Option (Int32 × JM)) (H26 : ∀ (l0 : Nat) (l1 : Int32) (l2 : Int32) (l3 : Int32) (l4 : Int32) (l5 : Int32) (M : JM) (pl0 : jok jE0 l0 7 = true), JG xs 7 194 (h26 l0 l1 l2 l3 l4 l5 M) (fun x r => r = (some (.int x.1), (jE0, x.2))) (26, [(0, .ref l0), (1, .int l1), (2, .int l2), (3, .int l3), (4, .int l4), (5, .int l5)], [], (jE0, M))) : ∀ (l0 : Nat) (l1 : Int32) (l2 : Int32) (l3 : Int32) (l5 : Int32) (s0 : Int32) (M : JM) (pl0 : jok jE0 l0 7 = true), JG xs 7 194 (f194_77 h26 l0 l1 l2 l3 l5 s0 M) (fun x r => r = (some (.int x.1), (jE0, x.2))) (77, [(0, .ref l0), (1, .int l1), (2, .int l2), (3, .int l3), (5, .int l5)], [.int s0], (jE0, M)) := by
    intro l0 l1 l2 l3 l5 s0 M pl0
    unfold f194_77
    refine g_pure (c' := (26, [(5, .int (l5 + (1 : Int32))), (4, .int s0), (0, .ref l0), (1, .int l1), (2, .int l2), (3, .int l3)], [], (jE0, M))) 3 rfl ?_
    refine g_weakk (lv := [(0, .ref l0), (1, .int l1), (2, .int l2), (3, .int l3), (4, .int s0), (5, .int (l5 + (1 : Int32)))]) ⟨rfl, rfl, rfl, rfl, rfl, rfl, trivial⟩ [0, 1, 2, 3, 4, 5] rfl (by decide) [5, 4, 0, 1, 2, 3] rfl (by decide) ?_
    exact (H26 l0 l1 l2 l3 s0 (l5 + (1 : Int32)) M pl0)
def f194_62 (h26 : Nat → Int32 → Int32 → Int32 → Int32 → Int32 → JM → Option (Int32 × JM)) (l0 : Nat) (l1 : Int32) (l2 : Int32) (l4 : Int32) (l5 : Int32) (l6 : Int32) (s0 : Int32) (M : JM) : Option (Int32 × JM) := (if l4 < l6 then (f194_77 h26 l0 l1 l2 s0 l5 l6 M) else (f194_77 h26 l0 l1 l2 s0 l5 l4 M))
set_option maxRecDepth 100000 in
theorem c194_62 {xs : Option (List Int32)} (h26 : Nat → Int32 → Int32 → Int32 → Int32 → Int32 → JM → Option (Int32 × JM)) (H26 : ∀ (l0 : Nat) (l1 : Int32) (l2 : Int32) (l3 : Int32) (l4 : Int32) (l5 : Int32) (M : JM) (pl0 : jok jE0 l0 7 = true), JG xs 7 194 (h26 l0 l1 l2 l3 l4 l5 M) (fun x r => r = (some (.int x.1), (jE0, x.2))) (26, [(0, .ref l0), (1, .int l1), (2, .int l2), (3, .int l3), (4, .int l4), (5, .int l5)], [], (jE0, M))) : ∀ (l0 : Nat) (l1 : Int32) (l2 : Int32) (l4 : Int32) (l5 : Int32) (l6 : Int32) (s0 : Int32) (M : JM) (pl0 : jok jE0 l0 7 = true), JG xs 7 194 (f194_62 h26 l0 l1 l2 l4 l5 l6 s0 M) (fun x r => r = (some (.int x.1), (jE0, x.2))) (62, [(0, .ref l0), (1, .int l1), (2, .int l2), (4, .int l4), (5, .int l5), (6, .int l6)], [.int s0], (jE0, M)) := by
    intro l0 l1 l2 l4 l5 l6 s0 M pl0
    unfold f194_62
    refine g_pure (c' := (67, [(3, .int s0), (0, .ref l0), (1, .int l1), (2, .int l2), (4, .int l4), (5, .int l5), (6, .int l6)], [.int l4, .int l6], (jE0, M))) 3 rfl ?_
    refine g_ic_le (tgt := 75) rfl rfl (fun q10 => ?_) (fun q10 => ?_)
    · refine g_pure (c' := (77, [(3, .int s0), (0, .ref l0), (1, .int l1), (2, .int l2), (4, .int l4), (5, .int l5), (6, .int l6)], [.int l6], (jE0, M))) 2 rfl ?_
      refine g_weakk (lv := [(0, .ref l0), (1, .int l1), (2, .int l2), (3, .int s0), (5, .int l5)]) ⟨rfl, rfl, rfl, rfl, rfl, trivial⟩ [0, 1, 2, 3, 5] rfl (by decide) [3, 0, 1, 2, 4, 5, 6] rfl (by decide) ?_
      exact (c194_77 h26 H26 l0 l1 l2 s0 l5 l6 M pl0)
    · refine g_pure (c' := (77, [(3, .int s0), (0, .ref l0), (1, .int l1), (2, .int l2), (4, .int l4), (5, .int l5), (6, .int l6)], [.int l4], (jE0, M))) 1 rfl ?_
      refine g_weakk (lv := [(0, .ref l0), (1, .int l1), (2, .int l2), (3, .int s0), (5, .int l5)]) ⟨rfl, rfl, rfl, rfl, rfl, trivial⟩ [0, 1, 2, 3, 5] rfl (by decide) [3, 0, 1, 2, 4, 5, 6] rfl (by decide) ?_
      exact (c194_77 h26 H26 l0 l1 l2 s0 l5 l4 M pl0)
def f194_26  : Nat → Nat → Int32 → Int32 → Int32 → Int32 → Int32 → JM → Option (Int32 × JM)
  | 0, _, _, _, _, _, _, _ => none
  | n + 1, l0, l1, l2, l3, l4, l5, M => (if l5 < (M l0 13) then ((some (jup M l0 22 l5)).bind fun M6 => ((f193 l0 M6).bind fun z11 => (if l4 < (l2 - z11.1) then (f194_62 (f194_26 n) l0 l1 l2 l4 l5 (l2 - z11.1) l5 z11.2) else (f194_62 (f194_26 n) l0 l1 l2 l4 l5 (l2 - z11.1) l3 z11.2)))) else ((some (jup M l0 22 (-1 : Int32))).bind fun M12 => (if l3 = (-1 : Int32) then (some ((-1 : Int32), M12)) else (if l1 = (0 : Int32) then (some (l3, M12)) else (some (l4, M12))))))
set_option maxRecDepth 100000 in
theorem c194_26 {xs : Option (List Int32)} : ∀ (n : Nat) (l0 : Nat) (l1 : Int32) (l2 : Int32) (l3 : Int32) (l4 : Int32) (l5 : Int32) (M : JM) (pl0 : jok jE0 l0 7 = true), JG xs 7 194 (f194_26 n l0 l1 l2 l3 l4 l5 M) (fun x r => r = (some (.int x.1), (jE0, x.2))) (26, [(0, .ref l0), (1, .int l1), (2, .int l2), (3, .int l3), (4, .int l4), (5, .int l5)], [], (jE0, M))
  | 0, _, _, _, _, _, _, _, _ => by rw [f194_26]; exact g_none
  | n + 1, l0, l1, l2, l3, l4, l5, M, pl0 => by
    rw [f194_26]
    refine g_pure (c' := (29, [(0, .ref l0), (1, .int l1), (2, .int l2), (3, .int l3), (4, .int l4), (5, .int l5)], [.ref l0, .int l5], (jE0, M))) 2 rfl ?_
    refine g_gf (ci := 7) (k := 13) rfl rfl rfl pl0 ?_
    refine g_ic_ge (tgt := 85) rfl rfl (fun q5 => ?_) (fun q5 => ?_)
    · refine g_pure (c' := (38, [(0, .ref l0), (1, .int l1), (2, .int l2), (3, .int l3), (4, .int l4), (5, .int l5)], [.int l5, .ref l0], (jE0, M))) 2 rfl ?_
      refine g_pf (ci := 7) (k := 22) rfl rfl rfl rfl pl0 (fun M6 => ?_)
      refine g_pure (c' := (43, [(0, .ref l0), (1, .int l1), (2, .int l2), (3, .int l3), (4, .int l4), (5, .int l5)], [.ref l0, .int l2], (jE0, M6))) 2 rfl ?_
      refine g_wI rfl (jc_v rfl rfl (jv_o pl0 rfl) rfl) (c193 l0 M6 pl0) (by decide) (fun v8 M7 qv8 => ?_)
      refine g_pure (c' := (53, [(6, .int (l2 - v8)), (0, .ref l0), (1, .int l1), (2, .int l2), (3, .int l3), (4, .int l4), (5, .int l5)], [.int l4, .int (l2 - v8)], (jE0, M7))) 4 rfl ?_
      refine g_ic_le (tgt := 61) rfl rfl (fun q9 => ?_) (fun q9 => ?_)
      · refine g_pure (c' := (62, [(6, .int (l2 - v8)), (0, .ref l0), (1, .int l1), (2, .int l2), (3, .int l3), (4, .int l4), (5, .int l5)], [.int l5], (jE0, M7))) 2 rfl ?_
        refine g_weakk (lv := [(0, .ref l0), (1, .int l1), (2, .int l2), (4, .int l4), (5, .int l5), (6, .int (l2 - v8))]) ⟨rfl, rfl, rfl, rfl, rfl, rfl, trivial⟩ [0, 1, 2, 4, 5, 6] rfl (by decide) [6, 0, 1, 2, 3, 4, 5] rfl (by decide) ?_
        exact (c194_62 (f194_26 n) (c194_26 n) l0 l1 l2 l4 l5 (l2 - v8) l5 M7 pl0)
      · refine g_pure (c' := (62, [(6, .int (l2 - v8)), (0, .ref l0), (1, .int l1), (2, .int l2), (3, .int l3), (4, .int l4), (5, .int l5)], [.int l3], (jE0, M7))) 1 rfl ?_
        refine g_weakk (lv := [(0, .ref l0), (1, .int l1), (2, .int l2), (4, .int l4), (5, .int l5), (6, .int (l2 - v8))]) ⟨rfl, rfl, rfl, rfl, rfl, rfl, trivial⟩ [0, 1, 2, 4, 5, 6] rfl (by decide) [6, 0, 1, 2, 3, 4, 5] rfl (by decide) ?_
        exact (c194_62 (f194_26 n) (c194_26 n) l0 l1 l2 l4 l5 (l2 - v8) l3 M7 pl0)
    · refine g_pure (c' := (87, [(0, .ref l0), (1, .int l1), (2, .int l2), (3, .int l3), (4, .int l4), (5, .int l5)], [.int (-1 : Int32), .ref l0], (jE0, M))) 2 rfl ?_
      refine g_pf (ci := 7) (k := 22) rfl rfl rfl rfl pl0 (fun M12 => ?_)
      refine g_pure (c' := (92, [(0, .ref l0), (1, .int l1), (2, .int l2), (3, .int l3), (4, .int l4), (5, .int l5)], [.int (-1 : Int32), .int l3], (jE0, M12))) 2 rfl ?_
      refine g_ic_ne (tgt := 99) rfl rfl (fun q13 => ?_) (fun q13 => ?_)
      · refine g_pure (c' := (109, [(0, .ref l0), (1, .int l1), (2, .int l2), (3, .int l3), (4, .int l4), (5, .int l5)], [.int (-1 : Int32)], (jE0, M12))) 2 rfl ?_
        exact g_ret rfl rfl (fun _ h => h)
      · refine g_pure (c' := (100, [(0, .ref l0), (1, .int l1), (2, .int l2), (3, .int l3), (4, .int l4), (5, .int l5)], [.int l1], (jE0, M12))) 1 rfl ?_
        refine g_if_ne (tgt := 107) rfl rfl (fun q14 => ?_) (fun q14 => ?_)
        · refine g_pure (c' := (109, [(0, .ref l0), (1, .int l1), (2, .int l2), (3, .int l3), (4, .int l4), (5, .int l5)], [.int l3], (jE0, M12))) 2 rfl ?_
          exact g_ret rfl rfl (fun _ h => h)
        · refine g_pure (c' := (109, [(0, .ref l0), (1, .int l1), (2, .int l2), (3, .int l3), (4, .int l4), (5, .int l5)], [.int l4], (jE0, M12))) 1 rfl ?_
          exact g_ret rfl rfl (fun _ h => h)
/-- CometKinModel.makes -/
def f194  (l0 : Nat) (l1 : Int32) (M : JM) : Option (Int32 × JM) := ((f125 ((l1).toInt64) (0 : Int64) (1 : Int64)).bind fun v1 => (if v1 = (0 : Int32) then (some ((-3 : Int32), M)) else ((f193 l0 M).bind fun z15 => (f194_26 1000 l0 l1 z15.1 (-1 : Int32) (0 : Int32) (0 : Int32) z15.2))))
set_option maxRecDepth 100000 in
theorem c194 {xs : Option (List Int32)} (l0 : Nat) (l1 : Int32) (M : JM) (pl0 : jok jE0 l0 7 = true) : JG xs 7 194 (f194 l0 l1 M) (fun x r => r = (some (.int x.1), (jE0, x.2))) (0, [(0, .ref l0), (1, .int l1)], [], (jE0, M)) := by
    unfold f194
    refine g_pure (c' := (4, [(0, .ref l0), (1, .int l1)], [.long (1 : Int64), .long (0 : Int64), .long ((l1).toInt64)], (jE0, M))) 4 rfl ?_
    refine g_cI rfl (jc_s rfl rfl) (c125 ((l1).toInt64) (0 : Int64) (1 : Int64)) (by decide) (fun v1 qv1 => ?_)
    refine g_if_ne (tgt := 13) rfl rfl (fun q2 => ?_) (fun q2 => ?_)
    · refine g_pure (c' := (12, [(0, .ref l0), (1, .int l1)], [.int (-3 : Int32)], (jE0, M))) 1 rfl ?_
      exact g_ret rfl rfl (fun _ h => h)
    · refine g_pure (c' := (14, [(0, .ref l0), (1, .int l1)], [.ref l0], (jE0, M))) 1 rfl ?_
      refine g_wI rfl (jc_v rfl rfl (jv_o pl0 rfl) rfl) (c193 l0 M pl0) (by decide) (fun v4 M3 qv4 => ?_)
      refine g_pure (c' := (26, [(5, .int (0 : Int32)), (4, .int (0 : Int32)), (3, .int (-1 : Int32)), (2, .int v4), (0, .ref l0), (1, .int l1)], [], (jE0, M3))) 7 rfl ?_
      refine g_weakk (lv := [(0, .ref l0), (1, .int l1), (2, .int v4), (3, .int (-1 : Int32)), (4, .int (0 : Int32)), (5, .int (0 : Int32))]) ⟨rfl, rfl, rfl, rfl, rfl, rfl, trivial⟩ [0, 1, 2, 3, 4, 5] rfl (by decide) [5, 4, 3, 2, 0, 1] rfl (by decide) ?_
      exact (c194_26 1000 l0 l1 v4 (-1 : Int32) (0 : Int32) (0 : Int32) M3 pl0)
/-- CometKin$Feasts.add -/
def f25  (l0 : Nat) (l1 : Int32) (l2 : Int32) (l3 : Int32) (l4 : Int32) (M : JM) : Option (Int32 × JM) := (if (M l0 0) < (8 : Int32) then ((f43 (jpt l0 1) (M l0 0) l1 M).bind fun M2 => ((f43 (jpt l0 2) (M2 l0 0) l2 M2).bind fun M3 => ((f43 (jpt l0 3) (M3 l0 0) l3 M3).bind fun M4 => ((f43 (jpt l0 4) (M4 l0 0) l4 M4).bind fun M5 => ((some (jup M5 l0 0 ((M5 l0 0) + (1 : Int32)))).bind fun M6 => (some ((1 : Int32), M6))))))) else (some ((0 : Int32), M)))
set_option maxRecDepth 100000 in
theorem c25 {xs : Option (List Int32)} (l0 : Nat) (l1 : Int32) (l2 : Int32) (l3 : Int32) (l4 : Int32) (M : JM) (pl0 : jok jE0 l0 1 = true) : JG xs 1 25 (f25 l0 l1 l2 l3 l4 M) (fun x r => r = (some (.int x.1), (jE0, x.2))) (0, [(0, .ref l0), (1, .int l1), (2, .int l2), (3, .int l3), (4, .int l4)], [], (jE0, M)) := by
    unfold f25
    refine g_pure (c' := (1, [(0, .ref l0), (1, .int l1), (2, .int l2), (3, .int l3), (4, .int l4)], [.ref l0], (jE0, M))) 1 rfl ?_
    refine g_gf (ci := 1) (k := 0) rfl rfl rfl pl0 ?_
    refine g_pure (c' := (6, [(0, .ref l0), (1, .int l1), (2, .int l2), (3, .int l3), (4, .int l4)], [.int (8 : Int32), .int (M l0 0)], (jE0, M))) 1 rfl ?_
    refine g_ic_lt (tgt := 11) rfl rfl (fun q1 => ?_) (fun q1 => ?_)
    · refine g_pure (c' := (12, [(0, .ref l0), (1, .int l1), (2, .int l2), (3, .int l3), (4, .int l4)], [.ref l0], (jE0, M))) 1 rfl ?_
      refine g_gp rfl rfl rfl pl0 (jp_ok (kd := 3) pl0 (by decide) (by decide) rfl rfl).1 ?_
      refine g_pure (c' := (16, [(0, .ref l0), (1, .int l1), (2, .int l2), (3, .int l3), (4, .int l4)], [.ref l0, .ref (jpt l0 1)], (jE0, M))) 1 rfl ?_
      refine g_gf (ci := 1) (k := 0) rfl rfl rfl pl0 ?_
      refine g_pure (c' := (20, [(0, .ref l0), (1, .int l1), (2, .int l2), (3, .int l3), (4, .int l4)], [.int l1, .int (M l0 0), .ref (jpt l0 1)], (jE0, M))) 1 rfl ?_
      refine g_wV rfl (jc_v rfl rfl (jv_o (jk_ok (kd := 3) pl0 (by decide) (by decide) rfl rfl) rfl) rfl) (c43 (jpt l0 1) (M l0 0) l1 M (jk_ok (kd := 3) pl0 (by decide) (by decide) rfl rfl)) (by decide) (fun M2 => ?_)
      refine g_pure (c' := (24, [(0, .ref l0), (1, .int l1), (2, .int l2), (3, .int l3), (4, .int l4)], [.ref l0], (jE0, M2))) 1 rfl ?_
      refine g_gp rfl rfl rfl pl0 (jp_ok (kd := 3) pl0 (by decide) (by decide) rfl rfl).1 ?_
      refine g_pure (c' := (28, [(0, .ref l0), (1, .int l1), (2, .int l2), (3, .int l3), (4, .int l4)], [.ref l0, .ref (jpt l0 2)], (jE0, M2))) 1 rfl ?_
      refine g_gf (ci := 1) (k := 0) rfl rfl rfl pl0 ?_
      refine g_pure (c' := (32, [(0, .ref l0), (1, .int l1), (2, .int l2), (3, .int l3), (4, .int l4)], [.int l2, .int (M2 l0 0), .ref (jpt l0 2)], (jE0, M2))) 1 rfl ?_
      refine g_wV rfl (jc_v rfl rfl (jv_o (jk_ok (kd := 3) pl0 (by decide) (by decide) rfl rfl) rfl) rfl) (c43 (jpt l0 2) (M2 l0 0) l2 M2 (jk_ok (kd := 3) pl0 (by decide) (by decide) rfl rfl)) (by decide) (fun M3 => ?_)
      refine g_pure (c' := (36, [(0, .ref l0), (1, .int l1), (2, .int l2), (3, .int l3), (4, .int l4)], [.ref l0], (jE0, M3))) 1 rfl ?_
      refine g_gp rfl rfl rfl pl0 (jp_ok (kd := 3) pl0 (by decide) (by decide) rfl rfl).1 ?_
      refine g_pure (c' := (40, [(0, .ref l0), (1, .int l1), (2, .int l2), (3, .int l3), (4, .int l4)], [.ref l0, .ref (jpt l0 3)], (jE0, M3))) 1 rfl ?_
      refine g_gf (ci := 1) (k := 0) rfl rfl rfl pl0 ?_
      refine g_pure (c' := (44, [(0, .ref l0), (1, .int l1), (2, .int l2), (3, .int l3), (4, .int l4)], [.int l3, .int (M3 l0 0), .ref (jpt l0 3)], (jE0, M3))) 1 rfl ?_
      refine g_wV rfl (jc_v rfl rfl (jv_o (jk_ok (kd := 3) pl0 (by decide) (by decide) rfl rfl) rfl) rfl) (c43 (jpt l0 3) (M3 l0 0) l3 M3 (jk_ok (kd := 3) pl0 (by decide) (by decide) rfl rfl)) (by decide) (fun M4 => ?_)
      refine g_pure (c' := (48, [(0, .ref l0), (1, .int l1), (2, .int l2), (3, .int l3), (4, .int l4)], [.ref l0], (jE0, M4))) 1 rfl ?_
      refine g_gp rfl rfl rfl pl0 (jp_ok (kd := 3) pl0 (by decide) (by decide) rfl rfl).1 ?_
      refine g_pure (c' := (52, [(0, .ref l0), (1, .int l1), (2, .int l2), (3, .int l3), (4, .int l4)], [.ref l0, .ref (jpt l0 4)], (jE0, M4))) 1 rfl ?_
      refine g_gf (ci := 1) (k := 0) rfl rfl rfl pl0 ?_
      refine g_pure (c' := (57, [(0, .ref l0), (1, .int l1), (2, .int l2), (3, .int l3), (4, .int l4)], [.int l4, .int (M4 l0 0), .ref (jpt l0 4)], (jE0, M4))) 1 rfl ?_
      refine g_wV rfl (jc_v rfl rfl (jv_o (jk_ok (kd := 3) pl0 (by decide) (by decide) rfl rfl) rfl) rfl) (c43 (jpt l0 4) (M4 l0 0) l4 M4 (jk_ok (kd := 3) pl0 (by decide) (by decide) rfl rfl)) (by decide) (fun M5 => ?_)
      refine g_pure (c' := (62, [(0, .ref l0), (1, .int l1), (2, .int l2), (3, .int l3), (4, .int l4)], [.ref l0, .ref l0], (jE0, M5))) 2 rfl ?_
      refine g_gf (ci := 1) (k := 0) rfl rfl rfl pl0 ?_
      refine g_pure (c' := (67, [(0, .ref l0), (1, .int l1), (2, .int l2), (3, .int l3), (4, .int l4)], [.int ((M5 l0 0) + (1 : Int32)), .ref l0], (jE0, M5))) 2 rfl ?_
      refine g_pf (ci := 1) (k := 0) rfl rfl rfl rfl pl0 (fun M6 => ?_)
      refine g_pure (c' := (71, [(0, .ref l0), (1, .int l1), (2, .int l2), (3, .int l3), (4, .int l4)], [.int (1 : Int32)], (jE0, M6))) 1 rfl ?_
      exact g_ret rfl rfl (fun _ h => h)
    · refine g_pure (c' := (10, [(0, .ref l0), (1, .int l1), (2, .int l2), (3, .int l3), (4, .int l4)], [.int (0 : Int32)], (jE0, M))) 1 rfl ?_
      exact g_ret rfl rfl (fun _ h => h)
/-- CometKin.feasted -/
def f93  (l0 : Nat) (l1 : Int32) (l2 : Int32) (l3 : Int32) (l4 : Int32) (M : JM) : Option (Int32 × JM) := ((f4 M (jpt l0 1) l1 l2).bind fun v1 => (if v1 = (0 : Int32) then (some ((-2 : Int32), M)) else ((f99 l3).bind fun v3 => (if v3 = (0 : Int32) then (some ((-3 : Int32), M)) else (if l4 < (0 : Int32) then (some ((-3 : Int32), M)) else (if (1 : Int32) < l4 then (some ((-3 : Int32), M)) else ((f25 (jpt l0 9) l1 l2 l3 l4 M).bind fun z10 => (if z10.1 = (0 : Int32) then (some ((-5 : Int32), z10.2)) else (some ((z10.2 (jpt l0 9) 0), z10.2))))))))))
set_option maxRecDepth 100000 in
theorem c93 {xs : Option (List Int32)} (l0 : Nat) (l1 : Int32) (l2 : Int32) (l3 : Int32) (l4 : Int32) (M : JM) (pl0 : jok jE0 l0 6 = true) : JG xs 2 93 (f93 l0 l1 l2 l3 l4 M) (fun x r => r = (some (.int x.1), (jE0, x.2))) (0, [(0, .ref l0), (1, .int l1), (2, .int l2), (3, .int l3), (4, .int l4)], [], (jE0, M)) := by
    unfold f93
    refine g_pure (c' := (1, [(0, .ref l0), (1, .int l1), (2, .int l2), (3, .int l3), (4, .int l4)], [.ref l0], (jE0, M))) 1 rfl ?_
    refine g_gp rfl rfl rfl pl0 (jp_ok (kd := 0) pl0 (by decide) (by decide) rfl rfl).1 ?_
    refine g_pure (c' := (6, [(0, .ref l0), (1, .int l1), (2, .int l2), (3, .int l3), (4, .int l4)], [.int l2, .int l1, .ref (jpt l0 1)], (jE0, M))) 2 rfl ?_
    refine g_cI rfl (jc_v rfl rfl (jv_o (jk_ok (kd := 0) pl0 (by decide) (by decide) rfl rfl) rfl) rfl) (c4 (jpt l0 1) l1 l2 (jk_ok (kd := 0) pl0 (by decide) (by decide) rfl rfl)) (by decide) (fun v1 qv1 => ?_)
    refine g_if_ne (tgt := 15) rfl rfl (fun q2 => ?_) (fun q2 => ?_)
    · refine g_pure (c' := (14, [(0, .ref l0), (1, .int l1), (2, .int l2), (3, .int l3), (4, .int l4)], [.int (-2 : Int32)], (jE0, M))) 1 rfl ?_
      exact g_ret rfl rfl (fun _ h => h)
    · refine g_pure (c' := (16, [(0, .ref l0), (1, .int l1), (2, .int l2), (3, .int l3), (4, .int l4)], [.int l3], (jE0, M))) 1 rfl ?_
      refine g_cI rfl (jc_s rfl rfl) (c99 l3) (by decide) (fun v3 qv3 => ?_)
      refine g_if_eq (tgt := 33) rfl rfl (fun q4 => ?_) (fun q4 => ?_)
      · refine g_pure (c' := (35, [(0, .ref l0), (1, .int l1), (2, .int l2), (3, .int l3), (4, .int l4)], [.int (-3 : Int32)], (jE0, M))) 1 rfl ?_
        exact g_ret rfl rfl (fun _ h => h)
      · refine g_pure (c' := (24, [(0, .ref l0), (1, .int l1), (2, .int l2), (3, .int l3), (4, .int l4)], [.int l4], (jE0, M))) 1 rfl ?_
        refine g_if_lt (tgt := 33) rfl rfl (fun q5 => ?_) (fun q5 => ?_)
        · refine g_pure (c' := (35, [(0, .ref l0), (1, .int l1), (2, .int l2), (3, .int l3), (4, .int l4)], [.int (-3 : Int32)], (jE0, M))) 1 rfl ?_
          exact g_ret rfl rfl (fun _ h => h)
        · refine g_pure (c' := (30, [(0, .ref l0), (1, .int l1), (2, .int l2), (3, .int l3), (4, .int l4)], [.int (1 : Int32), .int l4], (jE0, M))) 2 rfl ?_
          refine g_ic_le (tgt := 36) rfl rfl (fun q6 => ?_) (fun q6 => ?_)
          · refine g_pure (c' := (35, [(0, .ref l0), (1, .int l1), (2, .int l2), (3, .int l3), (4, .int l4)], [.int (-3 : Int32)], (jE0, M))) 1 rfl ?_
            exact g_ret rfl rfl (fun _ h => h)
          · refine g_pure (c' := (37, [(0, .ref l0), (1, .int l1), (2, .int l2), (3, .int l3), (4, .int l4)], [.ref l0], (jE0, M))) 1 rfl ?_
            refine g_gp rfl rfl rfl pl0 (jp_ok (kd := 1) pl0 (by decide) (by decide) rfl rfl).1 ?_
            refine g_pure (c' := (45, [(0, .ref l0), (1, .int l1), (2, .int l2), (3, .int l3), (4, .int l4)], [.int l4, .int l3, .int l2, .int l1, .ref (jpt l0 9)], (jE0, M))) 4 rfl ?_
            refine g_wI rfl (jc_v rfl rfl (jv_o (jk_ok (kd := 1) pl0 (by decide) (by decide) rfl rfl) rfl) rfl) (c25 (jpt l0 9) l1 l2 l3 l4 M (jk_ok (kd := 1) pl0 (by decide) (by decide) rfl rfl)) (by decide) (fun v8 M7 qv8 => ?_)
            refine g_if_eq (tgt := 61) rfl rfl (fun q9 => ?_) (fun q9 => ?_)
            · refine g_pure (c' := (63, [(0, .ref l0), (1, .int l1), (2, .int l2), (3, .int l3), (4, .int l4)], [.int (-5 : Int32)], (jE0, M7))) 1 rfl ?_
              exact g_ret rfl rfl (fun _ h => h)
            · refine g_pure (c' := (52, [(0, .ref l0), (1, .int l1), (2, .int l2), (3, .int l3), (4, .int l4)], [.ref l0], (jE0, M7))) 1 rfl ?_
              refine g_gp rfl rfl rfl pl0 (jp_ok (kd := 1) pl0 (by decide) (by decide) rfl rfl).1 ?_
              refine g_gf (ci := 1) (k := 0) rfl rfl rfl (jk_ok (kd := 1) pl0 (by decide) (by decide) rfl rfl) ?_
              refine g_pure (c' := (63, [(0, .ref l0), (1, .int l1), (2, .int l2), (3, .int l3), (4, .int l4)], [.int (M7 (jpt l0 9) 0)], (jE0, M7))) 1 rfl ?_
              exact g_ret rfl rfl (fun _ h => h)
/-- CometKinModel.feasted -/
def f195  (l0 : Nat) (l1 : Int32) (l2 : Int32) (l3 : Int32) (l4 : Int32) (M : JM) : Option (Int32 × JM) := ((f160 M l0 l1 l2).bind fun v1 => (if v1 = (0 : Int32) then (some ((-2 : Int32), M)) else ((f162 l3).bind fun v3 => (if v3 = (0 : Int32) then (some ((-3 : Int32), M)) else ((f125 ((l4).toInt64) (0 : Int64) (1 : Int64)).bind fun v5 => (if v5 = (0 : Int32) then (some ((-3 : Int32), M)) else (if (M l0 27) = (8 : Int32) then (some ((-5 : Int32), M)) else ((jsa (jpt l0 26) ((4 : Int32) * (M l0 27)) l1 M).bind fun M8 => ((jsa (jpt l0 26) (((4 : Int32) * (M8 l0 27)) + (1 : Int32)) l2 M8).bind fun M9 => ((jsa (jpt l0 26) (((4 : Int32) * (M9 l0 27)) + (2 : Int32)) l3 M9).bind fun M10 => ((jsa (jpt l0 26) (((4 : Int32) * (M10 l0 27)) + (3 : Int32)) l4 M10).bind fun M11 => ((some (jup M11 l0 27 ((M11 l0 27) + (1 : Int32)))).bind fun M12 => (some ((M12 l0 27), M12))))))))))))))
set_option maxRecDepth 100000 in
theorem c195 {xs : Option (List Int32)} (l0 : Nat) (l1 : Int32) (l2 : Int32) (l3 : Int32) (l4 : Int32) (M : JM) (pl0 : jok jE0 l0 7 = true) : JG xs 3 195 (f195 l0 l1 l2 l3 l4 M) (fun x r => r = (some (.int x.1), (jE0, x.2))) (0, [(0, .ref l0), (1, .int l1), (2, .int l2), (3, .int l3), (4, .int l4)], [], (jE0, M)) := by
    unfold f195
    refine g_pure (c' := (3, [(0, .ref l0), (1, .int l1), (2, .int l2), (3, .int l3), (4, .int l4)], [.int l2, .int l1, .ref l0], (jE0, M))) 3 rfl ?_
    refine g_cI rfl (jc_v rfl rfl (jv_o pl0 rfl) rfl) (c160 l0 l1 l2 pl0) (by decide) (fun v1 qv1 => ?_)
    refine g_if_ne (tgt := 12) rfl rfl (fun q2 => ?_) (fun q2 => ?_)
    · refine g_pure (c' := (11, [(0, .ref l0), (1, .int l1), (2, .int l2), (3, .int l3), (4, .int l4)], [.int (-2 : Int32)], (jE0, M))) 1 rfl ?_
      exact g_ret rfl rfl (fun _ h => h)
    · refine g_pure (c' := (13, [(0, .ref l0), (1, .int l1), (2, .int l2), (3, .int l3), (4, .int l4)], [.int l3], (jE0, M))) 1 rfl ?_
      refine g_cI rfl (jc_s rfl rfl) (c162 l3) (by decide) (fun v3 qv3 => ?_)
      refine g_if_eq (tgt := 30) rfl rfl (fun q4 => ?_) (fun q4 => ?_)
      · refine g_pure (c' := (32, [(0, .ref l0), (1, .int l1), (2, .int l2), (3, .int l3), (4, .int l4)], [.int (-3 : Int32)], (jE0, M))) 1 rfl ?_
        exact g_ret rfl rfl (fun _ h => h)
      · refine g_pure (c' := (24, [(0, .ref l0), (1, .int l1), (2, .int l2), (3, .int l3), (4, .int l4)], [.long (1 : Int64), .long (0 : Int64), .long ((l4).toInt64)], (jE0, M))) 4 rfl ?_
        refine g_cI rfl (jc_s rfl rfl) (c125 ((l4).toInt64) (0 : Int64) (1 : Int64)) (by decide) (fun v5 qv5 => ?_)
        refine g_if_ne (tgt := 33) rfl rfl (fun q6 => ?_) (fun q6 => ?_)
        · refine g_pure (c' := (32, [(0, .ref l0), (1, .int l1), (2, .int l2), (3, .int l3), (4, .int l4)], [.int (-3 : Int32)], (jE0, M))) 1 rfl ?_
          exact g_ret rfl rfl (fun _ h => h)
        · refine g_pure (c' := (34, [(0, .ref l0), (1, .int l1), (2, .int l2), (3, .int l3), (4, .int l4)], [.ref l0], (jE0, M))) 1 rfl ?_
          refine g_gf (ci := 7) (k := 27) rfl rfl rfl pl0 ?_
          refine g_pure (c' := (39, [(0, .ref l0), (1, .int l1), (2, .int l2), (3, .int l3), (4, .int l4)], [.int (8 : Int32), .int (M l0 27)], (jE0, M))) 1 rfl ?_
          refine g_ic_ne (tgt := 45) rfl rfl (fun q7 => ?_) (fun q7 => ?_)
          · refine g_pure (c' := (44, [(0, .ref l0), (1, .int l1), (2, .int l2), (3, .int l3), (4, .int l4)], [.int (-5 : Int32)], (jE0, M))) 1 rfl ?_
            exact g_ret rfl rfl (fun _ h => h)
          · refine g_pure (c' := (46, [(0, .ref l0), (1, .int l1), (2, .int l2), (3, .int l3), (4, .int l4)], [.ref l0], (jE0, M))) 1 rfl ?_
            refine g_gp rfl rfl rfl pl0 (jp_ok (kd := 8) pl0 (by decide) (by decide) rfl rfl).1 ?_
            refine g_pure (c' := (51, [(0, .ref l0), (1, .int l1), (2, .int l2), (3, .int l3), (4, .int l4)], [.ref l0, .int (4 : Int32), .ref (jpt l0 26)], (jE0, M))) 2 rfl ?_
            refine g_gf (ci := 7) (k := 27) rfl rfl rfl pl0 ?_
            refine g_pure (c' := (56, [(0, .ref l0), (1, .int l1), (2, .int l2), (3, .int l3), (4, .int l4)], [.int l1, .int ((4 : Int32) * (M l0 27)), .ref (jpt l0 26)], (jE0, M))) 2 rfl ?_
            refine g_is rfl (jk_ok (kd := 8) pl0 (by decide) (by decide) rfl rfl) (fun M8 => ?_)
            refine g_pure (c' := (58, [(0, .ref l0), (1, .int l1), (2, .int l2), (3, .int l3), (4, .int l4)], [.ref l0], (jE0, M8))) 1 rfl ?_
            refine g_gp rfl rfl rfl pl0 (jp_ok (kd := 8) pl0 (by decide) (by decide) rfl rfl).1 ?_
            refine g_pure (c' := (63, [(0, .ref l0), (1, .int l1), (2, .int l2), (3, .int l3), (4, .int l4)], [.ref l0, .int (4 : Int32), .ref (jpt l0 26)], (jE0, M8))) 2 rfl ?_
            refine g_gf (ci := 7) (k := 27) rfl rfl rfl pl0 ?_
            refine g_pure (c' := (70, [(0, .ref l0), (1, .int l1), (2, .int l2), (3, .int l3), (4, .int l4)], [.int l2, .int (((4 : Int32) * (M8 l0 27)) + (1 : Int32)), .ref (jpt l0 26)], (jE0, M8))) 4 rfl ?_
            refine g_is rfl (jk_ok (kd := 8) pl0 (by decide) (by decide) rfl rfl) (fun M9 => ?_)
            refine g_pure (c' := (72, [(0, .ref l0), (1, .int l1), (2, .int l2), (3, .int l3), (4, .int l4)], [.ref l0], (jE0, M9))) 1 rfl ?_
            refine g_gp rfl rfl rfl pl0 (jp_ok (kd := 8) pl0 (by decide) (by decide) rfl rfl).1 ?_
            refine g_pure (c' := (77, [(0, .ref l0), (1, .int l1), (2, .int l2), (3, .int l3), (4, .int l4)], [.ref l0, .int (4 : Int32), .ref (jpt l0 26)], (jE0, M9))) 2 rfl ?_
            refine g_gf (ci := 7) (k := 27) rfl rfl rfl pl0 ?_
            refine g_pure (c' := (84, [(0, .ref l0), (1, .int l1), (2, .int l2), (3, .int l3), (4, .int l4)], [.int l3, .int (((4 : Int32) * (M9 l0 27)) + (2 : Int32)), .ref (jpt l0 26)], (jE0, M9))) 4 rfl ?_
            refine g_is rfl (jk_ok (kd := 8) pl0 (by decide) (by decide) rfl rfl) (fun M10 => ?_)
            refine g_pure (c' := (86, [(0, .ref l0), (1, .int l1), (2, .int l2), (3, .int l3), (4, .int l4)], [.ref l0], (jE0, M10))) 1 rfl ?_
            refine g_gp rfl rfl rfl pl0 (jp_ok (kd := 8) pl0 (by decide) (by decide) rfl rfl).1 ?_
            refine g_pure (c' := (91, [(0, .ref l0), (1, .int l1), (2, .int l2), (3, .int l3), (4, .int l4)], [.ref l0, .int (4 : Int32), .ref (jpt l0 26)], (jE0, M10))) 2 rfl ?_
            refine g_gf (ci := 7) (k := 27) rfl rfl rfl pl0 ?_
            refine g_pure (c' := (99, [(0, .ref l0), (1, .int l1), (2, .int l2), (3, .int l3), (4, .int l4)], [.int l4, .int (((4 : Int32) * (M10 l0 27)) + (3 : Int32)), .ref (jpt l0 26)], (jE0, M10))) 4 rfl ?_
            refine g_is rfl (jk_ok (kd := 8) pl0 (by decide) (by decide) rfl rfl) (fun M11 => ?_)
            refine g_pure (c' := (102, [(0, .ref l0), (1, .int l1), (2, .int l2), (3, .int l3), (4, .int l4)], [.ref l0, .ref l0], (jE0, M11))) 2 rfl ?_
            refine g_gf (ci := 7) (k := 27) rfl rfl rfl pl0 ?_
            refine g_pure (c' := (107, [(0, .ref l0), (1, .int l1), (2, .int l2), (3, .int l3), (4, .int l4)], [.int ((M11 l0 27) + (1 : Int32)), .ref l0], (jE0, M11))) 2 rfl ?_
            refine g_pf (ci := 7) (k := 27) rfl rfl rfl rfl pl0 (fun M12 => ?_)
            refine g_pure (c' := (111, [(0, .ref l0), (1, .int l1), (2, .int l2), (3, .int l3), (4, .int l4)], [.ref l0], (jE0, M12))) 1 rfl ?_
            refine g_gf (ci := 7) (k := 27) rfl rfl rfl pl0 ?_
            exact g_ret rfl rfl (fun _ h => h)
