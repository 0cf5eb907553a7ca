/-- CometKinModel.keep -/
def f186  (l0 : Nat) (l1 : Int32) (M : JM) : Option (Int32 × JM) := ((f125 ((l1).toInt64) (0 : Int64) (1 : Int64)).bind fun v1 => (if v1 = (0 : Int32) then (some ((-2 : Int32), M)) else ((f169 l0 (0 : Int32) ((61 : Int32) * ((1 : Int32) + l1)) M).bind fun M3 => ((jsa (jpt l0 2) l1 ((1 : Int32) &&& 1) M3).bind fun M4 => ((jla (jpt l0 0) (0 : Int32) M4).bind fun v5 => (some (v5, M4)))))))
set_option maxRecDepth 100000 in
theorem c186 {xs : Option (List Int32)} (l0 : Nat) (l1 : Int32) (M : JM) (pl0 : jok jE0 l0 7 = true) : JG xs 1 186 (f186 l0 l1 M) (fun x r => r = (some (.int x.1), (jE0, x.2))) (0, [(0, .ref l0), (1, .int l1)], [], (jE0, M)) := by
    unfold f186
    refine g_pure (c' := (4, [(0, .ref l0), (1, .int l1)], [.long (1 : Int64), .long (0 : Int64), .long ((l1).toInt64)], (jE0, M))) 4 rfl ?_
    refine g_cI rfl (jc_s rfl rfl) (c125 ((l1).toInt64) (0 : Int64) (1 : Int64)) (by decide) (fun v1 qv1 => ?_)
    refine g_if_ne (tgt := 13) rfl rfl (fun q2 => ?_) (fun q2 => ?_)
    · refine g_pure (c' := (12, [(0, .ref l0), (1, .int l1)], [.int (-2 : Int32)], (jE0, M))) 1 rfl ?_
      exact g_ret rfl rfl (fun _ h => h)
    · refine g_pure (c' := (21, [(0, .ref l0), (1, .int l1)], [.int ((61 : Int32) * ((1 : Int32) + l1)), .int (0 : Int32), .ref l0], (jE0, M))) 7 rfl ?_
      refine g_wV rfl (jc_v rfl rfl (jv_o pl0 rfl) rfl) (c169 l0 (0 : Int32) ((61 : Int32) * ((1 : Int32) + l1)) M pl0) (by decide) (fun M3 => ?_)
      refine g_pure (c' := (25, [(0, .ref l0), (1, .int l1)], [.ref l0], (jE0, M3))) 1 rfl ?_
      refine g_gp rfl rfl rfl pl0 (jp_ok (kd := 9) pl0 (by decide) (by decide) rfl rfl).1 ?_
      refine g_pure (c' := (30, [(0, .ref l0), (1, .int l1)], [.int (1 : Int32), .int l1, .ref (jpt l0 2)], (jE0, M3))) 2 rfl ?_
      refine g_zs rfl (jk_ok (kd := 9) pl0 (by decide) (by decide) rfl rfl) (fun M4 => ?_)
      refine g_pure (c' := (32, [(0, .ref l0), (1, .int l1)], [.ref l0], (jE0, M4))) 1 rfl ?_
      refine g_gp rfl rfl rfl pl0 (jp_ok (kd := 8) pl0 (by decide) (by decide) rfl rfl).1 ?_
      refine g_pure (c' := (36, [(0, .ref l0), (1, .int l1)], [.int (0 : Int32), .ref (jpt l0 0)], (jE0, M4))) 1 rfl ?_
      refine g_ia rfl (jk_ok (kd := 8) pl0 (by decide) (by decide) rfl rfl) (fun v5 => ?_)
      exact g_ret rfl rfl (fun _ h => h)
/-- CometKin.back -/
def f87  (l0 : Nat) (l1 : Int32) (M : JM) : Option (Int32 × JM) := (if l1 < (0 : Int32) then (some ((-2 : Int32), M)) else (if l1 < (2 : Int32) then ((f101 (M l0 8) l1).bind fun v3 => (if v3 = (0 : Int32) then (some ((-4 : Int32), M)) else ((f50 (jpt l0 7) l1 (jpt l0 3) M).bind fun M5 => ((some (jup M5 l0 6 (0 : Int32))).bind fun M6 => (some ((M6 (jpt l0 3) 0), M6)))))) else (some ((-2 : Int32), M))))
set_option maxRecDepth 100000 in
theorem c87 {xs : Option (List Int32)} (l0 : Nat) (l1 : Int32) (M : JM) (pl0 : jok jE0 l0 6 = true) : JG xs 4 87 (f87 l0 l1 M) (fun x r => r = (some (.int x.1), (jE0, x.2))) (0, [(0, .ref l0), (1, .int l1)], [], (jE0, M)) := by
    unfold f87
    refine g_pure (c' := (1, [(0, .ref l0), (1, .int l1)], [.int l1], (jE0, M))) 1 rfl ?_
    refine g_if_lt (tgt := 9) rfl rfl (fun q1 => ?_) (fun q1 => ?_)
    · refine g_pure (c' := (11, [(0, .ref l0), (1, .int l1)], [.int (-2 : Int32)], (jE0, M))) 1 rfl ?_
      exact g_ret rfl rfl (fun _ h => h)
    · refine g_pure (c' := (6, [(0, .ref l0), (1, .int l1)], [.int (2 : Int32), .int l1], (jE0, M))) 2 rfl ?_
      refine g_ic_lt (tgt := 12) rfl rfl (fun q2 => ?_) (fun q2 => ?_)
      · refine g_pure (c' := (13, [(0, .ref l0), (1, .int l1)], [.ref l0], (jE0, M))) 1 rfl ?_
        refine g_gf (ci := 6) (k := 8) rfl rfl rfl pl0 ?_
        refine g_pure (c' := (17, [(0, .ref l0), (1, .int l1)], [.int l1, .int (M l0 8)], (jE0, M))) 1 rfl ?_
        refine g_cI rfl (jc_s rfl rfl) (c101 (M l0 8) l1) (by decide) (fun v3 qv3 => ?_)
        refine g_if_ne (tgt := 26) rfl rfl (fun q4 => ?_) (fun q4 => ?_)
        · refine g_pure (c' := (25, [(0, .ref l0), (1, .int l1)], [.int (-4 : Int32)], (jE0, M))) 1 rfl ?_
          exact g_ret rfl rfl (fun _ h => h)
        · refine g_pure (c' := (27, [(0, .ref l0), (1, .int l1)], [.ref l0], (jE0, M))) 1 rfl ?_
          refine g_gp rfl rfl rfl pl0 (jp_ok (kd := 4) pl0 (by decide) (by decide) rfl rfl).1 ?_
          refine g_pure (c' := (32, [(0, .ref l0), (1, .int l1)], [.ref l0, .int l1, .ref (jpt l0 7)], (jE0, M))) 2 rfl ?_
          refine g_gp rfl rfl rfl pl0 (jp_ok (kd := 2) pl0 (by decide) (by decide) rfl rfl).1 ?_
          refine g_wV rfl (jc_v rfl rfl (jv_o (jk_ok (kd := 4) pl0 (by decide) (by decide) rfl rfl) rfl) rfl) (c50 (jpt l0 7) l1 (jpt l0 3) M (jk_ok (kd := 4) pl0 (by decide) (by decide) rfl rfl) (jk_ok (kd := 2) pl0 (by decide) (by decide) rfl rfl)) (by decide) (fun M5 => ?_)
          refine g_pure (c' := (40, [(0, .ref l0), (1, .int l1)], [.int (0 : Int32), .ref l0], (jE0, M5))) 2 rfl ?_
          refine g_pf (ci := 6) (k := 6) rfl rfl rfl rfl pl0 (fun M6 => ?_)
          refine g_pure (c' := (44, [(0, .ref l0), (1, .int l1)], [.ref l0], (jE0, M6))) 1 rfl ?_
          refine g_gp rfl rfl rfl pl0 (jp_ok (kd := 2) pl0 (by decide) (by decide) rfl rfl).1 ?_
          refine g_gf (ci := 2) (k := 0) rfl rfl rfl (jk_ok (kd := 2) pl0 (by decide) (by decide) rfl rfl) ?_
          exact g_ret rfl rfl (fun _ h => h)
      · refine g_pure (c' := (11, [(0, .ref l0), (1, .int l1)], [.int (-2 : Int32)], (jE0, M))) 1 rfl ?_
        exact g_ret rfl rfl (fun _ h => h)
/-- CometKinModel.back -/
def f187  (l0 : Nat) (l1 : Int32) (M : JM) : Option (Int32 × JM) := ((f125 ((l1).toInt64) (0 : Int64) (1 : Int64)).bind fun v1 => (if v1 = (0 : Int32) then (some ((-2 : Int32), M)) else ((jla (jpt l0 2) l1 M).bind fun v3 => (if v3 = (0 : Int32) then (some ((-4 : Int32), M)) else ((f169 l0 ((61 : Int32) * ((1 : Int32) + l1)) (0 : Int32) M).bind fun M5 => ((some (jup M5 l0 1 (0 : Int32))).bind fun M6 => ((jla (jpt l0 0) (0 : Int32) M6).bind fun v7 => (some (v7, M6)))))))))
set_option maxRecDepth 100000 in
theorem c187 {xs : Option (List Int32)} (l0 : Nat) (l1 : Int32) (M : JM) (pl0 : jok jE0 l0 7 = true) : JG xs 1 187 (f187 l0 l1 M) (fun x r => r = (some (.int x.1), (jE0, x.2))) (0, [(0, .ref l0), (1, .int l1)], [], (jE0, M)) := by
    unfold f187
    refine g_pure (c' := (4, [(0, .ref l0), (1, .int l1)], [.long (1 : Int64), .long (0 : Int64), .long ((l1).toInt64)], (jE0, M))) 4 rfl ?_
    refine g_cI rfl (jc_s rfl rfl) (c125 ((l1).toInt64) (0 : Int64) (1 : Int64)) (by decide) (fun v1 qv1 => ?_)
    refine g_if_ne (tgt := 13) rfl rfl (fun q2 => ?_) (fun q2 => ?_)
    · refine g_pure (c' := (12, [(0, .ref l0), (1, .int l1)], [.int (-2 : Int32)], (jE0, M))) 1 rfl ?_
      exact g_ret rfl rfl (fun _ h => h)
    · refine g_pure (c' := (14, [(0, .ref l0), (1, .int l1)], [.ref l0], (jE0, M))) 1 rfl ?_
      refine g_gp rfl rfl rfl pl0 (jp_ok (kd := 9) pl0 (by decide) (by decide) rfl rfl).1 ?_
      refine g_pure (c' := (18, [(0, .ref l0), (1, .int l1)], [.int l1, .ref (jpt l0 2)], (jE0, M))) 1 rfl ?_
      refine g_ba rfl (jk_ok (kd := 9) pl0 (by decide) (by decide) rfl rfl) (fun v3 => ?_)
      refine g_if_ne (tgt := 25) rfl rfl (fun q4 => ?_) (fun q4 => ?_)
      · refine g_pure (c' := (24, [(0, .ref l0), (1, .int l1)], [.int (-4 : Int32)], (jE0, M))) 1 rfl ?_
        exact g_ret rfl rfl (fun _ h => h)
      · refine g_pure (c' := (33, [(0, .ref l0), (1, .int l1)], [.int (0 : Int32), .int ((61 : Int32) * ((1 : Int32) + l1)), .ref l0], (jE0, M))) 7 rfl ?_
        refine g_wV rfl (jc_v rfl rfl (jv_o pl0 rfl) rfl) (c169 l0 ((61 : Int32) * ((1 : Int32) + l1)) (0 : Int32) M pl0) (by decide) (fun M5 => ?_)
        refine g_pure (c' := (38, [(0, .ref l0), (1, .int l1)], [.int (0 : Int32), .ref l0], (jE0, M5))) 2 rfl ?_
        refine g_pf (ci := 7) (k := 1) rfl rfl rfl rfl pl0 (fun M6 => ?_)
        refine g_pure (c' := (42, [(0, .ref l0), (1, .int l1)], [.ref l0], (jE0, M6))) 1 rfl ?_
        refine g_gp rfl rfl rfl pl0 (jp_ok (kd := 8) pl0 (by decide) (by decide) rfl rfl).1 ?_
        refine g_pure (c' := (46, [(0, .ref l0), (1, .int l1)], [.int (0 : Int32), .ref (jpt l0 0)], (jE0, M6))) 1 rfl ?_
        refine g_ia rfl (jk_ok (kd := 8) pl0 (by decide) (by decide) rfl rfl) (fun v7 => ?_)
        exact g_ret rfl rfl (fun _ h => h)
def f88_37 (M : JM) : Nat → Nat → Int32 → Int32 → Int32 → Int32 → Option Int32
  | 0, _, _, _, _, _ => none
  | n + 1, l0, l1, l2, l3, l4 => (if (99 : Int32) < l4 then (some (-1 : Int32)) else ((f107 M l0 l1 l2 l3 l4).bind fun v6 => (if v6 = (0 : Int32) then ((f88_37 M n) l0 l1 l2 l3 (l4 + (1 : Int32))) else (some l4))))
set_option maxRecDepth 100000 in
theorem c88_37 {xs : Option (List Int32)} {M : JM} : ∀ (n : Nat) (l0 : Nat) (l1 : Int32) (l2 : Int32) (l3 : Int32) (l4 : Int32) (pl0 : jok jE0 l0 6 = true), JG xs 4 88 (f88_37 M n l0 l1 l2 l3 l4) (fun x r => r = (some (.int x), (jE0, M))) (37, [(0, .ref l0), (1, .int l1), (2, .int l2), (3, .int l3), (4, .int l4)], [], (jE0, M))
  | 0, _, _, _, _, _, _ => by rw [f88_37]; exact g_none
  | n + 1, l0, l1, l2, l3, l4, pl0 => by
    rw [f88_37]
    refine g_pure (c' := (41, [(0, .ref l0), (1, .int l1), (2, .int l2), (3, .int l3), (4, .int l4)], [.int (99 : Int32), .int l4], (jE0, M))) 2 rfl ?_
    refine g_ic_gt (tgt := 65) rfl rfl (fun q5 => ?_) (fun q5 => ?_)
    · refine g_pure (c' := (66, [(0, .ref l0), (1, .int l1), (2, .int l2), (3, .int l3), (4, .int l4)], [.int (-1 : Int32)], (jE0, M))) 1 rfl ?_
      exact g_ret rfl rfl (fun _ h => h)
    · refine g_pure (c' := (50, [(0, .ref l0), (1, .int l1), (2, .int l2), (3, .int l3), (4, .int l4)], [.int l4, .int l3, .int l2, .int l1, .ref l0], (jE0, M))) 5 rfl ?_
      refine g_cI rfl (jc_v rfl rfl (jv_o pl0 rfl) rfl) (c107 l0 l1 l2 l3 l4 pl0) (by decide) (fun v6 qv6 => ?_)
      refine g_if_eq (tgt := 59) rfl rfl (fun q7 => ?_) (fun q7 => ?_)
      · refine g_pure (c' := (37, [(4, .int (l4 + (1 : Int32))), (0, .ref l0), (1, .int l1), (2, .int l2), (3, .int l3)], [], (jE0, M))) 2 rfl ?_
        refine g_weakk (lv := [(0, .ref l0), (1, .int l1), (2, .int l2), (3, .int l3), (4, .int (l4 + (1 : Int32)))]) ⟨rfl, rfl, rfl, rfl, rfl, trivial⟩ [0, 1, 2, 3, 4] rfl (by decide) [4, 0, 1, 2, 3] rfl (by decide) ?_
        exact ((c88_37 n) l0 l1 l2 l3 (l4 + (1 : Int32)) pl0)
      · refine g_pure (c' := (58, [(0, .ref l0), (1, .int l1), (2, .int l2), (3, .int l3), (4, .int l4)], [.int l4], (jE0, M))) 1 rfl ?_
        exact g_ret rfl rfl (fun _ h => h)
/-- CometKin.first -/
def f88 (M : JM) (l0 : Nat) (l1 : Int32) (l2 : Int32) (l3 : Int32) : Option Int32 := ((f4 M (jpt l0 1) l1 l2).bind fun v1 => (if v1 = (0 : Int32) then (some (-2 : Int32)) else (if l3 < (0 : Int32) then (some (-3 : Int32)) else (if (9 : Int32) < l3 then (some (-3 : Int32)) else (f88_37 M 1000 l0 l1 l2 l3 (M (jpt l0 3) 0))))))
set_option maxRecDepth 100000 in
theorem c88 {xs : Option (List Int32)} {M : JM} (l0 : Nat) (l1 : Int32) (l2 : Int32) (l3 : Int32) (pl0 : jok jE0 l0 6 = true) : JG xs 4 88 (f88 M l0 l1 l2 l3) (fun x r => r = (some (.int x), (jE0, M))) (0, [(0, .ref l0), (1, .int l1), (2, .int l2), (3, .int l3)], [], (jE0, M)) := by
    unfold f88
    refine g_pure (c' := (1, [(0, .ref l0), (1, .int l1), (2, .int l2), (3, .int l3)], [.ref l0], (jE0, M))) 1 rfl ?_
    refine g_gp rfl rfl rfl pl0 (jp_ok (kd := 0) pl0 (by decide) (by decide) rfl rfl).1 ?_
    refine g_pure (c' := (6, [(0, .ref l0), (1, .int l1), (2, .int l2), (3, .int l3)], [.int l2, .int l1, .ref (jpt l0 1)], (jE0, M))) 2 rfl ?_
    refine g_cI rfl (jc_v rfl rfl (jv_o (jk_ok (kd := 0) pl0 (by decide) (by decide) rfl rfl) rfl) rfl) (c4 (jpt l0 1) l1 l2 (jk_ok (kd := 0) pl0 (by decide) (by decide) rfl rfl)) (by decide) (fun v1 qv1 => ?_)
    refine g_if_ne (tgt := 15) rfl rfl (fun q2 => ?_) (fun q2 => ?_)
    · refine g_pure (c' := (14, [(0, .ref l0), (1, .int l1), (2, .int l2), (3, .int l3)], [.int (-2 : Int32)], (jE0, M))) 1 rfl ?_
      exact g_ret rfl rfl (fun _ h => h)
    · refine g_pure (c' := (16, [(0, .ref l0), (1, .int l1), (2, .int l2), (3, .int l3)], [.int l3], (jE0, M))) 1 rfl ?_
      refine g_if_lt (tgt := 25) rfl rfl (fun q3 => ?_) (fun q3 => ?_)
      · refine g_pure (c' := (27, [(0, .ref l0), (1, .int l1), (2, .int l2), (3, .int l3)], [.int (-3 : Int32)], (jE0, M))) 1 rfl ?_
        exact g_ret rfl rfl (fun _ h => h)
      · refine g_pure (c' := (22, [(0, .ref l0), (1, .int l1), (2, .int l2), (3, .int l3)], [.int (9 : Int32), .int l3], (jE0, M))) 2 rfl ?_
        refine g_ic_le (tgt := 28) rfl rfl (fun q4 => ?_) (fun q4 => ?_)
        · refine g_pure (c' := (27, [(0, .ref l0), (1, .int l1), (2, .int l2), (3, .int l3)], [.int (-3 : Int32)], (jE0, M))) 1 rfl ?_
          exact g_ret rfl rfl (fun _ h => h)
        · refine g_pure (c' := (29, [(0, .ref l0), (1, .int l1), (2, .int l2), (3, .int l3)], [.ref l0], (jE0, M))) 1 rfl ?_
          refine g_gp rfl rfl rfl pl0 (jp_ok (kd := 2) pl0 (by decide) (by decide) rfl rfl).1 ?_
          refine g_gf (ci := 2) (k := 0) rfl rfl rfl (jk_ok (kd := 2) pl0 (by decide) (by decide) rfl rfl) ?_
          refine g_pure (c' := (37, [(4, .int (M (jpt l0 3) 0)), (0, .ref l0), (1, .int l1), (2, .int l2), (3, .int l3)], [], (jE0, M))) 1 rfl ?_
          refine g_weakk (lv := [(0, .ref l0), (1, .int l1), (2, .int l2), (3, .int l3), (4, .int (M (jpt l0 3) 0))]) ⟨rfl, rfl, rfl, rfl, rfl, trivial⟩ [0, 1, 2, 3, 4] rfl (by decide) [4, 0, 1, 2, 3] rfl (by decide) ?_
          exact (c88_37 1000 l0 l1 l2 l3 (M (jpt l0 3) 0) pl0)
def f188_67 (h35 : Nat → Int32 → Int32 → Int32 → Int32 → JM → Option (Int32 × JM)) (l0 : Nat) (l1 : Int32) (l2 : Int32) (l3 : Int32) (l4 : Int32) (M : JM) : Option (Int32 × JM) := (h35 l0 l1 l2 l3 (l4 + (1 : Int32)) M)
set_option maxRecDepth 100000 in
theorem c188_67 {xs : Option (List Int32)} (h35 : Nat → Int32 → Int32 → Int32 → Int32 → JM → Option (Int32 × JM)) (H35 : ∀ (l0 : Nat) (l1 : Int32) (l2 : Int32) (l3 : Int32) (l4 : Int32) (M : JM) (pl0 : jok jE0 l0 7 = true), JG xs 6 188 (h35 l0 l1 l2 l3 l4 M) (fun x r => r = (some (.int x.1), (jE0, x.2))) (35, [(0, .ref l0), (1, .int l1), (2, .int l2), (3, .int l3), (4, .int l4)], [], (jE0, M))) : ∀ (l0 : Nat) (l1 : Int32) (l2 : Int32) (l3 : Int32) (l4 : Int32) (M : JM) (pl0 : jok jE0 l0 7 = true), JG xs 6 188 (f188_67 h35 l0 l1 l2 l3 l4 M) (fun x r => r = (some (.int x.1), (jE0, x.2))) (67, [(0, .ref l0), (1, .int l1), (2, .int l2), (3, .int l3), (4, .int l4)], [], (jE0, M)) := by
    intro l0 l1 l2 l3 l4 M pl0
    unfold f188_67
    refine g_pure (c' := (35, [(4, .int (l4 + (1 : Int32))), (0, .ref l0), (1, .int l1), (2, .int l2), (3, .int l3)], [], (jE0, M))) 2 rfl ?_
    refine g_weakk (lv := [(0, .ref l0), (1, .int l1), (2, .int l2), (3, .int l3), (4, .int (l4 + (1 : Int32)))]) ⟨rfl, rfl, rfl, rfl, rfl, trivial⟩ [0, 1, 2, 3, 4] rfl (by decide) [4, 0, 1, 2, 3] rfl (by decide) ?_
    exact (H35 l0 l1 l2 l3 (l4 + (1 : Int32)) M pl0)
def f188_35  : Nat → Nat → Int32 → Int32 → Int32 → Int32 → JM → Option (Int32 × JM)
  | 0, _, _, _, _, _, _ => none
  | n + 1, l0, l1, l2, l3, l4, M => (if (99 : Int32) < l4 then (some ((-1 : Int32), M)) else ((f156 l0 l1 l2 l4 M).bind fun z11 => (if z11.1 = (-1 : Int32) then (f188_67 (f188_35 n) l0 l1 l2 l3 l4 z11.2) else (if l3 < z11.1 then (f188_67 (f188_35 n) l0 l1 l2 l3 l4 z11.2) else (some (l4, z11.2))))))
set_option maxRecDepth 100000 in
theorem c188_35 {xs : Option (List Int32)} : ∀ (n : Nat) (l0 : Nat) (l1 : Int32) (l2 : Int32) (l3 : Int32) (l4 : Int32) (M : JM) (pl0 : jok jE0 l0 7 = true), JG xs 6 188 (f188_35 n l0 l1 l2 l3 l4 M) (fun x r => r = (some (.int x.1), (jE0, x.2))) (35, [(0, .ref l0), (1, .int l1), (2, .int l2), (3, .int l3), (4, .int l4)], [], (jE0, M))
  | 0, _, _, _, _, _, _, _ => by rw [f188_35]; exact g_none
  | n + 1, l0, l1, l2, l3, l4, M, pl0 => by
    rw [f188_35]
    refine g_pure (c' := (39, [(0, .ref l0), (1, .int l1), (2, .int l2), (3, .int l3), (4, .int l4)], [.int (99 : Int32), .int l4], (jE0, M))) 2 rfl ?_
    refine g_ic_gt (tgt := 73) rfl rfl (fun q6 => ?_) (fun q6 => ?_)
    · refine g_pure (c' := (74, [(0, .ref l0), (1, .int l1), (2, .int l2), (3, .int l3), (4, .int l4)], [.int (-1 : Int32)], (jE0, M))) 1 rfl ?_
      exact g_ret rfl rfl (fun _ h => h)
    · refine g_pure (c' := (47, [(0, .ref l0), (1, .int l1), (2, .int l2), (3, .int l3), (4, .int l4)], [.int l4, .int l2, .int l1, .ref l0], (jE0, M))) 4 rfl ?_
      refine g_wI rfl (jc_v rfl rfl (jv_o pl0 rfl) rfl) (c156 l0 l1 l2 l4 M pl0) (by decide) (fun v8 M7 qv8 => ?_)
      refine g_pure (c' := (55, [(5, .int v8), (0, .ref l0), (1, .int l1), (2, .int l2), (3, .int l3), (4, .int l4)], [.int (-1 : Int32), .int v8], (jE0, M7))) 3 rfl ?_
      refine g_ic_eq (tgt := 67) rfl rfl (fun q9 => ?_) (fun q9 => ?_)
      · refine g_weakk (lv := [(0, .ref l0), (1, .int l1), (2, .int l2), (3, .int l3), (4, .int l4)]) ⟨rfl, rfl, rfl, rfl, rfl, trivial⟩ [0, 1, 2, 3, 4] rfl (by decide) [5, 0, 1, 2, 3, 4] rfl (by decide) ?_
        exact (c188_67 (f188_35 n) (c188_35 n) l0 l1 l2 l3 l4 M7 pl0)
      · refine g_pure (c' := (61, [(5, .int v8), (0, .ref l0), (1, .int l1), (2, .int l2), (3, .int l3), (4, .int l4)], [.int l3, .int v8], (jE0, M7))) 2 rfl ?_
        refine g_ic_gt (tgt := 67) rfl rfl (fun q10 => ?_) (fun q10 => ?_)
        · refine g_weakk (lv := [(0, .ref l0), (1, .int l1), (2, .int l2), (3, .int l3), (4, .int l4)]) ⟨rfl, rfl, rfl, rfl, rfl, trivial⟩ [0, 1, 2, 3, 4] rfl (by decide) [5, 0, 1, 2, 3, 4] rfl (by decide) ?_
          exact (c188_67 (f188_35 n) (c188_35 n) l0 l1 l2 l3 l4 M7 pl0)
        · refine g_pure (c' := (66, [(5, .int v8), (0, .ref l0), (1, .int l1), (2, .int l2), (3, .int l3), (4, .int l4)], [.int l4], (jE0, M7))) 1 rfl ?_
          exact g_ret rfl rfl (fun _ h => h)
/-- CometKinModel.first -/
def f188  (l0 : Nat) (l1 : Int32) (l2 : Int32) (l3 : Int32) (M : JM) : Option (Int32 × JM) := ((f160 M l0 l1 l2).bind fun v1 => (if v1 = (0 : Int32) then (some ((-2 : Int32), M)) else ((f125 ((l3).toInt64) (0 : Int64) (9 : Int64)).bind fun v3 => (if v3 = (0 : Int32) then (some ((-3 : Int32), M)) else ((jla (jpt l0 0) (0 : Int32) M).bind fun v5 => (f188_35 1000 l0 l1 l2 l3 v5 M))))))
set_option maxRecDepth 100000 in
theorem c188 {xs : Option (List Int32)} (l0 : Nat) (l1 : Int32) (l2 : Int32) (l3 : Int32) (M : JM) (pl0 : jok jE0 l0 7 = true) : JG xs 6 188 (f188 l0 l1 l2 l3 M) (fun x r => r = (some (.int x.1), (jE0, x.2))) (0, [(0, .ref l0), (1, .int l1), (2, .int l2), (3, .int l3)], [], (jE0, M)) := by
    unfold f188
    refine g_pure (c' := (3, [(0, .ref l0), (1, .int l1), (2, .int l2), (3, .int l3)], [.int l2, .int l1, .ref l0], (jE0, M))) 3 rfl ?_
    refine g_cI rfl (jc_v rfl rfl (jv_o pl0 rfl) rfl) (c160 l0 l1 l2 pl0) (by decide) (fun v1 qv1 => ?_)
    refine g_if_ne (tgt := 12) rfl rfl (fun q2 => ?_) (fun q2 => ?_)
    · refine g_pure (c' := (11, [(0, .ref l0), (1, .int l1), (2, .int l2), (3, .int l3)], [.int (-2 : Int32)], (jE0, M))) 1 rfl ?_
      exact g_ret rfl rfl (fun _ h => h)
    · refine g_pure (c' := (18, [(0, .ref l0), (1, .int l1), (2, .int l2), (3, .int l3)], [.long (9 : Int64), .long (0 : Int64), .long ((l3).toInt64)], (jE0, M))) 4 rfl ?_
      refine g_cI rfl (jc_s rfl rfl) (c125 ((l3).toInt64) (0 : Int64) (9 : Int64)) (by decide) (fun v3 qv3 => ?_)
      refine g_if_ne (tgt := 27) rfl rfl (fun q4 => ?_) (fun q4 => ?_)
      · refine g_pure (c' := (26, [(0, .ref l0), (1, .int l1), (2, .int l2), (3, .int l3)], [.int (-3 : Int32)], (jE0, M))) 1 rfl ?_
        exact g_ret rfl rfl (fun _ h => h)
      · refine g_pure (c' := (28, [(0, .ref l0), (1, .int l1), (2, .int l2), (3, .int l3)], [.ref l0], (jE0, M))) 1 rfl ?_
        refine g_gp rfl rfl rfl pl0 (jp_ok (kd := 8) pl0 (by decide) (by decide) rfl rfl).1 ?_
        refine g_pure (c' := (32, [(0, .ref l0), (1, .int l1), (2, .int l2), (3, .int l3)], [.int (0 : Int32), .ref (jpt l0 0)], (jE0, M))) 1 rfl ?_
        refine g_ia rfl (jk_ok (kd := 8) pl0 (by decide) (by decide) rfl rfl) (fun v5 => ?_)
        refine g_pure (c' := (35, [(4, .int v5), (0, .ref l0), (1, .int l1), (2, .int l2), (3, .int l3)], [], (jE0, M))) 1 rfl ?_
        refine g_weakk (lv := [(0, .ref l0), (1, .int l1), (2, .int l2), (3, .int l3), (4, .int v5)]) ⟨rfl, rfl, rfl, rfl, rfl, trivial⟩ [0, 1, 2, 3, 4] rfl (by decide) [4, 0, 1, 2, 3] rfl (by decide) ?_
        exact (c188_35 1000 l0 l1 l2 l3 v5 M pl0)
def f89_18 (M : JM) : Nat → Nat → Int32 → Int32 → Int32 → Option Int32
  | 0, _, _, _, _ => none
  | n + 1, l0, l1, l2, l3 => (if l3 < (M (jpt l0 3) 0) then (some (-1 : Int32)) else ((f107 M l0 l1 l2 (M (jpt l0 1) 2) l3).bind fun v4 => (if v4 = (0 : Int32) then (some l3) else ((f89_18 M n) l0 l1 l2 (l3 + (-1 : Int32))))))
set_option maxRecDepth 100000 in
theorem c89_18 {xs : Option (List Int32)} {M : JM} : ∀ (n : Nat) (l0 : Nat) (l1 : Int32) (l2 : Int32) (l3 : Int32) (pl0 : jok jE0 l0 6 = true), JG xs 4 89 (f89_18 M n l0 l1 l2 l3) (fun x r => r = (some (.int x), (jE0, M))) (18, [(0, .ref l0), (1, .int l1), (2, .int l2), (3, .int l3)], [], (jE0, M))
  | 0, _, _, _, _, _ => by rw [f89_18]; exact g_none
  | n + 1, l0, l1, l2, l3, pl0 => by
    rw [f89_18]
    refine g_pure (c' := (20, [(0, .ref l0), (1, .int l1), (2, .int l2), (3, .int l3)], [.ref l0, .int l3], (jE0, M))) 2 rfl ?_
    refine g_gp rfl rfl rfl pl0 (jp_ok (kd := 2) pl0 (by decide) (by decide) rfl rfl).1 ?_
    refine g_gf (ci := 2) (k := 0) rfl rfl rfl (jk_ok (kd := 2) pl0 (by decide) (by decide) rfl rfl) ?_
    refine g_ic_lt (tgt := 54) rfl rfl (fun q3 => ?_) (fun q3 => ?_)
    · refine g_pure (c' := (55, [(0, .ref l0), (1, .int l1), (2, .int l2), (3, .int l3)], [.int (-1 : Int32)], (jE0, M))) 1 rfl ?_
      exact g_ret rfl rfl (fun _ h => h)
    · refine g_pure (c' := (33, [(0, .ref l0), (1, .int l1), (2, .int l2), (3, .int l3)], [.ref l0, .int l2, .int l1, .ref l0], (jE0, M))) 4 rfl ?_
      refine g_gp rfl rfl rfl pl0 (jp_ok (kd := 0) pl0 (by decide) (by decide) rfl rfl).1 ?_
      refine g_gf (ci := 0) (k := 2) rfl rfl rfl (jk_ok (kd := 0) pl0 (by decide) (by decide) rfl rfl) ?_
      refine g_pure (c' := (40, [(0, .ref l0), (1, .int l1), (2, .int l2), (3, .int l3)], [.int l3, .int (M (jpt l0 1) 2), .int l2, .int l1, .ref l0], (jE0, M))) 1 rfl ?_
      refine g_cI rfl (jc_v rfl rfl (jv_o pl0 rfl) rfl) (c107 l0 l1 l2 (M (jpt l0 1) 2) l3 pl0) (by decide) (fun v4 qv4 => ?_)
      refine g_if_ne (tgt := 48) rfl rfl (fun q5 => ?_) (fun q5 => ?_)
      · refine g_pure (c' := (47, [(0, .ref l0), (1, .int l1), (2, .int l2), (3, .int l3)], [.int l3], (jE0, M))) 1 rfl ?_
        exact g_ret rfl rfl (fun _ h => h)
      · refine g_pure (c' := (18, [(3, .int (l3 + (-1 : Int32))), (0, .ref l0), (1, .int l1), (2, .int l2)], [], (jE0, M))) 2 rfl ?_
        refine g_weakk (lv := [(0, .ref l0), (1, .int l1), (2, .int l2), (3, .int (l3 + (-1 : Int32)))]) ⟨rfl, rfl, rfl, rfl, trivial⟩ [0, 1, 2, 3] rfl (by decide) [3, 0, 1, 2] rfl (by decide) ?_
        exact ((c89_18 n) l0 l1 l2 (l3 + (-1 : Int32)) pl0)
/-- CometKin.last -/
def f89 (M : JM) (l0 : Nat) (l1 : Int32) (l2 : Int32) : Option Int32 := ((f4 M (jpt l0 1) l1 l2).bind fun v1 => (if v1 = (0 : Int32) then (some (-2 : Int32)) else (f89_18 M 1000 l0 l1 l2 (99 : Int32))))
set_option maxRecDepth 100000 in
theorem c89 {xs : Option (List Int32)} {M : JM} (l0 : Nat) (l1 : Int32) (l2 : Int32) (pl0 : jok jE0 l0 6 = true) : JG xs 4 89 (f89 M l0 l1 l2) (fun x r => r = (some (.int x), (jE0, M))) (0, [(0, .ref l0), (1, .int l1), (2, .int l2)], [], (jE0, M)) := by
    unfold f89
    refine g_pure (c' := (1, [(0, .ref l0), (1, .int l1), (2, .int l2)], [.ref l0], (jE0, M))) 1 rfl ?_
    refine g_gp rfl rfl rfl pl0 (jp_ok (kd := 0) pl0 (by decide) (by decide) rfl rfl).1 ?_
    refine g_pure (c' := (6, [(0, .ref l0), (1, .int l1), (2, .int l2)], [.int l2, .int l1, .ref (jpt l0 1)], (jE0, M))) 2 rfl ?_
    refine g_cI rfl (jc_v rfl rfl (jv_o (jk_ok (kd := 0) pl0 (by decide) (by decide) rfl rfl) rfl) rfl) (c4 (jpt l0 1) l1 l2 (jk_ok (kd := 0) pl0 (by decide) (by decide) rfl rfl)) (by decide) (fun v1 qv1 => ?_)
    refine g_if_ne (tgt := 15) rfl rfl (fun q2 => ?_) (fun q2 => ?_)
    · refine g_pure (c' := (14, [(0, .ref l0), (1, .int l1), (2, .int l2)], [.int (-2 : Int32)], (jE0, M))) 1 rfl ?_
      exact g_ret rfl rfl (fun _ h => h)
    · refine g_pure (c' := (18, [(3, .int (99 : Int32)), (0, .ref l0), (1, .int l1), (2, .int l2)], [], (jE0, M))) 2 rfl ?_
      refine g_weakk (lv := [(0, .ref l0), (1, .int l1), (2, .int l2), (3, .int (99 : Int32))]) ⟨rfl, rfl, rfl, rfl, trivial⟩ [0, 1, 2, 3] rfl (by decide) [3, 0, 1, 2] rfl (by decide) ?_
      exact (c89_18 1000 l0 l1 l2 (99 : Int32) pl0)
def f189_46 (h22 : Nat → Int32 → Int32 → Int32 → Int32 → JM → Option (Int32 × JM)) (l0 : Nat) (l1 : Int32) (l2 : Int32) (l4 : Int32) (s0 : Int32) (M : JM) : Option (Int32 × JM) := (h22 l0 l1 l2 s0 (l4 + (1 : Int32)) M)
set_option maxRecDepth 100000 in
theorem c189_46 {xs : Option (List Int32)} (h22 : Nat → Int32 → Int32 → Int32 → Int32 → JM → Option (Int32 × JM)) (H22 : ∀ (l0 : Nat) (l1 : Int32) (l2 : Int32) (l3 : Int32) (l4 : Int32) (M : JM) (pl0 : jok jE0 l0 7 = true), JG xs 7 189 (h22 l0 l1 l2 l3 l4 M) (fun x r => r = (some (.int x.1), (jE0, x.2))) (22, [(0, .ref l0), (1, .int l1), (2, .int l2), (3, .int l3), (4, .int l4)], [], (jE0, M))) : ∀ (l0 : Nat) (l1 : Int32) (l2 : Int32) (l4 : Int32) (s0 : Int32) (M : JM) (pl0 : jok jE0 l0 7 = true), JG xs 7 189 (f189_46 h22 l0 l1 l2 l4 s0 M) (fun x r => r = (some (.int x.1), (jE0, x.2))) (46, [(0, .ref l0), (1, .int l1), (2, .int l2), (4, .int l4)], [.int s0], (jE0, M)) := by
    intro l0 l1 l2 l4 s0 M pl0
    unfold f189_46
    refine g_pure (c' := (22, [(4, .int (l4 + (1 : Int32))), (3, .int s0), (0, .ref l0), (1, .int l1), (2, .int l2)], [], (jE0, M))) 3 rfl ?_
    refine g_weakk (lv := [(0, .ref l0), (1, .int l1), (2, .int l2), (3, .int s0), (4, .int (l4 + (1 : Int32)))]) ⟨rfl, rfl, rfl, rfl, rfl, trivial⟩ [0, 1, 2, 3, 4] rfl (by decide) [4, 3, 0, 1, 2] rfl (by decide) ?_
    exact (H22 l0 l1 l2 s0 (l4 + (1 : Int32)) M pl0)
def f189_22  : Nat → Nat → Int32 → Int32 → Int32 → Int32 → JM → Option (Int32 × JM)
  | 0, _, _, _, _, _, _ => none
  | n + 1, l0, l1, l2, l3, l4, M => (if (99 : Int32) < l4 then (some (l3, M)) else ((f158 l0 l1 l2 l4 M).bind fun z8 => (if z8.1 = (0 : Int32) then (f189_46 (f189_22 n) l0 l1 l2 l4 l4 z8.2) else (f189_46 (f189_22 n) l0 l1 l2 l4 l3 z8.2))))
set_option maxRecDepth 100000 in
theorem c189_22 {xs : Option (List Int32)} : ∀ (n : Nat) (l0 : Nat) (l1 : Int32) (l2 : Int32) (l3 : Int32) (l4 : Int32) (M : JM) (pl0 : jok jE0 l0 7 = true), JG xs 7 189 (f189_22 n l0 l1 l2 l3 l4 M) (fun x r => r = (some (.int x.1), (jE0, x.2))) (22, [(0, .ref l0), (1, .int l1), (2, .int l2), (3, .int l3), (4, .int l4)], [], (jE0, M))
  | 0, _, _, _, _, _, _, _ => by rw [f189_22]; exact g_none
  | n + 1, l0, l1, l2, l3, l4, M, pl0 => by
    rw [f189_22]
    refine g_pure (c' := (26, [(0, .ref l0), (1, .int l1), (2, .int l2), (3, .int l3), (4, .int l4)], [.int (99 : Int32), .int l4], (jE0, M))) 2 rfl ?_
    refine g_ic_gt (tgt := 53) rfl rfl (fun q4 => ?_) (fun q4 => ?_)
    · refine g_pure (c' := (54, [(0, .ref l0), (1, .int l1), (2, .int l2), (3, .int l3), (4, .int l4)], [.int l3], (jE0, M))) 1 rfl ?_
      exact g_ret rfl rfl (fun _ h => h)
    · refine g_pure (c' := (34, [(0, .ref l0), (1, .int l1), (2, .int l2), (3, .int l3), (4, .int l4)], [.int l4, .int l2, .int l1, .ref l0], (jE0, M))) 4 rfl ?_
      refine g_wI rfl (jc_v rfl rfl (jv_o pl0 rfl) rfl) (c158 l0 l1 l2 l4 M pl0) (by decide) (fun v6 M5 qv6 => ?_)
      refine g_if_eq (tgt := 44) rfl rfl (fun q7 => ?_) (fun q7 => ?_)
      · refine g_pure (c' := (46, [(0, .ref l0), (1, .int l1), (2, .int l2), (3, .int l3), (4, .int l4)], [.int l4], (jE0, M5))) 1 rfl ?_
        refine g_weakk (lv := [(0, .ref l0), (1, .int l1), (2, .int l2), (4, .int l4)]) ⟨rfl, rfl, rfl, rfl, trivial⟩ [0, 1, 2, 4] rfl (by decide) [0, 1, 2, 3, 4] rfl (by decide) ?_
        exact (c189_46 (f189_22 n) (c189_22 n) l0 l1 l2 l4 l4 M5 pl0)
      · refine g_pure (c' := (46, [(0, .ref l0), (1, .int l1), (2, .int l2), (3, .int l3), (4, .int l4)], [.int l3], (jE0, M5))) 2 rfl ?_
        refine g_weakk (lv := [(0, .ref l0), (1, .int l1), (2, .int l2), (4, .int l4)]) ⟨rfl, rfl, rfl, rfl, trivial⟩ [0, 1, 2, 4] rfl (by decide) [0, 1, 2, 3, 4] rfl (by decide) ?_
        exact (c189_46 (f189_22 n) (c189_22 n) l0 l1 l2 l4 l3 M5 pl0)
/-- CometKinModel.last -/
def f189  (l0 : Nat) (l1 : Int32) (l2 : Int32) (M : JM) : Option (Int32 × JM) := ((f160 M l0 l1 l2).bind fun v1 => (if v1 = (0 : Int32) then (some ((-2 : Int32), M)) else ((jla (jpt l0 0) (0 : Int32) M).bind fun v3 => (f189_22 1000 l0 l1 l2 (-1 : Int32) v3 M))))
set_option maxRecDepth 100000 in
theorem c189 {xs : Option (List Int32)} (l0 : Nat) (l1 : Int32) (l2 : Int32) (M : JM) (pl0 : jok jE0 l0 7 = true) : JG xs 7 189 (f189 l0 l1 l2 M) (fun x r => r = (some (.int x.1), (jE0, x.2))) (0, [(0, .ref l0), (1, .int l1), (2, .int l2)], [], (jE0, M)) := by
    unfold f189
    refine g_pure (c' := (3, [(0, .ref l0), (1, .int l1), (2, .int l2)], [.int l2, .int l1, .ref l0], (jE0, M))) 3 rfl ?_
    refine g_cI rfl (jc_v rfl rfl (jv_o pl0 rfl) rfl) (c160 l0 l1 l2 pl0) (by decide) (fun v1 qv1 => ?_)
    refine g_if_ne (tgt := 12) rfl rfl (fun q2 => ?_) (fun q2 => ?_)
    · refine g_pure (c' := (11, [(0, .ref l0), (1, .int l1), (2, .int l2)], [.int (-2 : Int32)], (jE0, M))) 1 rfl ?_
      exact g_ret rfl rfl (fun _ h => h)
    · refine g_pure (c' := (15, [(3, .int (-1 : Int32)), (0, .ref l0), (1, .int l1), (2, .int l2)], [.ref l0], (jE0, M))) 3 rfl ?_
      refine g_gp rfl rfl rfl pl0 (jp_ok (kd := 8) pl0 (by decide) (by decide) rfl rfl).1 ?_
      refine g_pure (c' := (19, [(3, .int (-1 : Int32)), (0, .ref l0), (1, .int l1), (2, .int l2)], [.int (0 : Int32), .ref (jpt l0 0)], (jE0, M))) 1 rfl ?_
      refine g_ia rfl (jk_ok (kd := 8) pl0 (by decide) (by decide) rfl rfl) (fun v3 => ?_)
      refine g_pure (c' := (22, [(4, .int v3), (3, .int (-1 : Int32)), (0, .ref l0), (1, .int l1), (2, .int l2)], [], (jE0, M))) 1 rfl ?_
      refine g_weakk (lv := [(0, .ref l0), (1, .int l1), (2, .int l2), (3, .int (-1 : Int32)), (4, .int v3)]) ⟨rfl, rfl, rfl, rfl, rfl, trivial⟩ [0, 1, 2, 3, 4] rfl (by decide) [4, 3, 0, 1, 2] rfl (by decide) ?_
      exact (c189_22 1000 l0 l1 l2 (-1 : Int32) v3 M pl0)
/-- Math.max -/
def f208  (l0 : Int32) (l1 : Int32) : Option Int32 := (if l0 < l1 then (some l1) else (some l0))
set_option maxRecDepth 100000 in
theorem c208 {xs : Option (List Int32)} {M : JM} (l0 : Int32) (l1 : Int32) : JG xs 0 208 (f208 l0 l1) (fun x r => r = (some (.int x), (jE0, M))) (0, [(0, .int l0), (1, .int l1)], [], (jE0, M)) := by
    unfold f208
    refine g_pure (c' := (2, [(0, .int l0), (1, .int l1)], [.int l1, .int l0], (jE0, M))) 2 rfl ?_
    refine g_ic_lt (tgt := 9) rfl rfl (fun q1 => ?_) (fun q1 => ?_)
    · refine g_pure (c' := (10, [(0, .int l0), (1, .int l1)], [.int l1], (jE0, M))) 1 rfl ?_
      exact g_ret rfl rfl (fun _ h => h)
    · refine g_pure (c' := (10, [(0, .int l0), (1, .int l1)], [.int l0], (jE0, M))) 2 rfl ?_
      exact g_ret rfl rfl (fun _ h => h)
/-- CometKin.livingKinOfChild -/
def f115  (l0 : Nat) (l1 : Int32) (l2 : Int32) (l3 : Int32) (l4 : Int32) (M : JM) : Option (Int32 × JM) := ((f1 (jpt l0 2) (jpt l0 1) M).bind fun M1 => ((f6 (jpt l0 2) (0 : Int32) l3 M1).bind fun z7 => ((f7 (jpt l0 2) z7.1 l1 l2 z7.2).bind fun M4 => ((f21 M4 (jpt l0 2) z7.1 l4).bind fun v5 => ((f207 (v5 &&& (M4 (jpt l0 3) 1))).bind fun v6 => (some (v6, M4)))))))
set_option maxRecDepth 100000 in
theorem c115 {xs : Option (List Int32)} (l0 : Nat) (l1 : Int32) (l2 : Int32) (l3 : Int32) (l4 : Int32) (M : JM) (pl0 : jok jE0 l0 6 = true) : JG xs 4 115 (f115 l0 l1 l2 l3 l4 M) (fun x r => r = (some (.int x.1), (jE0, x.2))) (0, [(0, .ref l0), (1, .int l1), (2, .int l2), (3, .int l3), (4, .int l4)], [], (jE0, M)) := by
    unfold f115
    refine g_pure (c' := (1, [(0, .ref l0), (1, .int l1), (2, .int l2), (3, .int l3), (4, .int l4)], [.ref l0], (jE0, M))) 1 rfl ?_
    refine g_gp rfl rfl rfl pl0 (jp_ok (kd := 0) pl0 (by decide) (by decide) rfl rfl).1 ?_
    refine g_pure (c' := (5, [(0, .ref l0), (1, .int l1), (2, .int l2), (3, .int l3), (4, .int l4)], [.ref l0, .ref (jpt l0 2)], (jE0, M))) 1 rfl ?_
    refine g_gp rfl rfl rfl pl0 (jp_ok (kd := 0) pl0 (by decide) (by decide) rfl rfl).1 ?_
    refine g_wV rfl (jc_v rfl rfl (jv_o (jk_ok (kd := 0) pl0 (by decide) (by decide) rfl rfl) rfl) rfl) (c1 (jpt l0 2) (jpt l0 1) M (jk_ok (kd := 0) pl0 (by decide) (by decide) rfl rfl) (jk_ok (kd := 0) pl0 (by decide) (by decide) rfl rfl)) (by decide) (fun M1 => ?_)
    refine g_pure (c' := (12, [(0, .ref l0), (1, .int l1), (2, .int l2), (3, .int l3), (4, .int l4)], [.ref l0], (jE0, M1))) 1 rfl ?_
    refine g_gp rfl rfl rfl pl0 (jp_ok (kd := 0) pl0 (by decide) (by decide) rfl rfl).1 ?_
    refine g_pure (c' := (17, [(0, .ref l0), (1, .int l1), (2, .int l2), (3, .int l3), (4, .int l4)], [.int l3, .int (0 : Int32), .ref (jpt l0 2)], (jE0, M1))) 2 rfl ?_
    refine g_wI rfl (jc_v rfl rfl (jv_o (jk_ok (kd := 0) pl0 (by decide) (by decide) rfl rfl) rfl) rfl) (c6 (jpt l0 2) (0 : Int32) l3 M1 (jk_ok (kd := 0) pl0 (by decide) (by decide) rfl rfl)) (by decide) (fun v3 M2 qv3 => ?_)
    refine g_pure (c' := (23, [(5, .int v3), (0, .ref l0), (1, .int l1), (2, .int l2), (3, .int l3), (4, .int l4)], [.ref l0], (jE0, M2))) 2 rfl ?_
    refine g_gp rfl rfl rfl pl0 (jp_ok (kd := 0) pl0 (by decide) (by decide) rfl rfl).1 ?_
    refine g_pure (c' := (30, [(5, .int v3), (0, .ref l0), (1, .int l1), (2, .int l2), (3, .int l3), (4, .int l4)], [.int l2, .int l1, .int v3, .ref (jpt l0 2)], (jE0, M2))) 3 rfl ?_
    refine g_wV rfl (jc_v rfl rfl (jv_o (jk_ok (kd := 0) pl0 (by decide) (by decide) rfl rfl) rfl) rfl) (c7 (jpt l0 2) v3 l1 l2 M2 (jk_ok (kd := 0) pl0 (by decide) (by decide) rfl rfl)) (by decide) (fun M4 => ?_)
    refine g_pure (c' := (34, [(5, .int v3), (0, .ref l0), (1, .int l1), (2, .int l2), (3, .int l3), (4, .int l4)], [.ref l0], (jE0, M4))) 1 rfl ?_
    refine g_gp rfl rfl rfl pl0 (jp_ok (kd := 0) pl0 (by decide) (by decide) rfl rfl).1 ?_
    refine g_pure (c' := (41, [(5, .int v3), (0, .ref l0), (1, .int l1), (2, .int l2), (3, .int l3), (4, .int l4)], [.int l4, .int v3, .ref (jpt l0 2)], (jE0, M4))) 2 rfl ?_
    refine g_cI rfl (jc_v rfl rfl (jv_o (jk_ok (kd := 0) pl0 (by decide) (by decide) rfl rfl) rfl) rfl) (c21 (jpt l0 2) v3 l4 (jk_ok (kd := 0) pl0 (by decide) (by decide) rfl rfl)) (by decide) (fun v5 qv5 => ?_)
    refine g_pure (c' := (45, [(5, .int v3), (0, .ref l0), (1, .int l1), (2, .int l2), (3, .int l3), (4, .int l4)], [.ref l0, .int v5], (jE0, M4))) 1 rfl ?_
    refine g_gp rfl rfl rfl pl0 (jp_ok (kd := 2) pl0 (by decide) (by decide) rfl rfl).1 ?_
    refine g_gf (ci := 2) (k := 1) rfl rfl rfl (jk_ok (kd := 2) pl0 (by decide) (by decide) rfl rfl) ?_
    refine g_pure (c' := (52, [(5, .int v3), (0, .ref l0), (1, .int l1), (2, .int l2), (3, .int l3), (4, .int l4)], [.int (v5 &&& (M4 (jpt l0 3) 1))], (jE0, M4))) 1 rfl ?_
    refine g_cI rfl (jc_s rfl rfl) (c207 (v5 &&& (M4 (jpt l0 3) 1))) (by decide) (fun v6 qv6 => ?_)
    exact g_ret rfl rfl (fun _ h => h)
/-- CometKin.bestBorn -/
def f90  (l0 : Nat) (l1 : Int32) (l2 : Int32) (l3 : Int32) (l4 : Int32) (M : JM) : Option (Int32 × JM) := ((f4 M (jpt l0 1) l1 l2).bind fun v1 => (if v1 = (0 : Int32) then (some ((-2 : Int32), M)) else ((f99 l3).bind fun v3 => (if v3 = (0 : Int32) then (some ((-3 : Int32), M)) else (if l4 < (0 : Int32) then (some ((-3 : Int32), M)) else (if (1 : Int32) < l4 then (some ((-3 : Int32), M)) else (if (M (jpt l0 1) 0) < (9 : Int32) then ((f42 M (jpt (jpt l0 1) 4) l1).bind fun v8 => ((f42 M (jpt (jpt l0 1) 4) l2).bind fun v9 => ((f208 v8 v9).bind fun v10 => ((f208 (M (jpt l0 3) 0) v10).bind fun v11 => (if l3 < v11 then (some ((-1 : Int32), M)) else (if l4 = (0 : Int32) then (some (v11, M)) else ((f115 l0 l1 l2 v11 l3 M).bind fun z16 => (some (z16.1, z16.2))))))))) else (some ((-5 : Int32), M)))))))))
set_option maxRecDepth 100000 in
theorem c90 {xs : Option (List Int32)} (l0 : Nat) (l1 : Int32) (l2 : Int32) (l3 : Int32) (l4 : Int32) (M : JM) (pl0 : jok jE0 l0 6 = true) : JG xs 5 90 (f90 l0 l1 l2 l3 l4 M) (fun x r => r = (some (.int x.1), (jE0, x.2))) (0, [(0, .ref l0), (1, .int l1), (2, .int l2), (3, .int l3), (4, .int l4)], [], (jE0, M)) := by
    unfold f90
    refine g_pure (c' := (1, [(0, .ref l0), (1, .int l1), (2, .int l2), (3, .int l3), (4, .int l4)], [.ref l0], (jE0, M))) 1 rfl ?_
    refine g_gp rfl rfl rfl pl0 (jp_ok (kd := 0) pl0 (by decide) (by decide) rfl rfl).1 ?_
    refine g_pure (c' := (6, [(0, .ref l0), (1, .int l1), (2, .int l2), (3, .int l3), (4, .int l4)], [.int l2, .int l1, .ref (jpt l0 1)], (jE0, M))) 2 rfl ?_
    refine g_cI rfl (jc_v rfl rfl (jv_o (jk_ok (kd := 0) pl0 (by decide) (by decide) rfl rfl) rfl) rfl) (c4 (jpt l0 1) l1 l2 (jk_ok (kd := 0) pl0 (by decide) (by decide) rfl rfl)) (by decide) (fun v1 qv1 => ?_)
    refine g_if_ne (tgt := 15) rfl rfl (fun q2 => ?_) (fun q2 => ?_)
    · refine g_pure (c' := (14, [(0, .ref l0), (1, .int l1), (2, .int l2), (3, .int l3), (4, .int l4)], [.int (-2 : Int32)], (jE0, M))) 1 rfl ?_
      exact g_ret rfl rfl (fun _ h => h)
    · refine g_pure (c' := (16, [(0, .ref l0), (1, .int l1), (2, .int l2), (3, .int l3), (4, .int l4)], [.int l3], (jE0, M))) 1 rfl ?_
      refine g_cI rfl (jc_s rfl rfl) (c99 l3) (by decide) (fun v3 qv3 => ?_)
      refine g_if_eq (tgt := 33) rfl rfl (fun q4 => ?_) (fun q4 => ?_)
      · refine g_pure (c' := (35, [(0, .ref l0), (1, .int l1), (2, .int l2), (3, .int l3), (4, .int l4)], [.int (-3 : Int32)], (jE0, M))) 1 rfl ?_
        exact g_ret rfl rfl (fun _ h => h)
      · refine g_pure (c' := (24, [(0, .ref l0), (1, .int l1), (2, .int l2), (3, .int l3), (4, .int l4)], [.int l4], (jE0, M))) 1 rfl ?_
        refine g_if_lt (tgt := 33) rfl rfl (fun q5 => ?_) (fun q5 => ?_)
        · refine g_pure (c' := (35, [(0, .ref l0), (1, .int l1), (2, .int l2), (3, .int l3), (4, .int l4)], [.int (-3 : Int32)], (jE0, M))) 1 rfl ?_
          exact g_ret rfl rfl (fun _ h => h)
        · refine g_pure (c' := (30, [(0, .ref l0), (1, .int l1), (2, .int l2), (3, .int l3), (4, .int l4)], [.int (1 : Int32), .int l4], (jE0, M))) 2 rfl ?_
          refine g_ic_le (tgt := 36) rfl rfl (fun q6 => ?_) (fun q6 => ?_)
          · refine g_pure (c' := (35, [(0, .ref l0), (1, .int l1), (2, .int l2), (3, .int l3), (4, .int l4)], [.int (-3 : Int32)], (jE0, M))) 1 rfl ?_
            exact g_ret rfl rfl (fun _ h => h)
          · refine g_pure (c' := (37, [(0, .ref l0), (1, .int l1), (2, .int l2), (3, .int l3), (4, .int l4)], [.ref l0], (jE0, M))) 1 rfl ?_
            refine g_gp rfl rfl rfl pl0 (jp_ok (kd := 0) pl0 (by decide) (by decide) rfl rfl).1 ?_
            refine g_gf (ci := 0) (k := 0) rfl rfl rfl (jk_ok (kd := 0) pl0 (by decide) (by decide) rfl rfl) ?_
            refine g_pure (c' := (45, [(0, .ref l0), (1, .int l1), (2, .int l2), (3, .int l3), (4, .int l4)], [.int (9 : Int32), .int (M (jpt l0 1) 0)], (jE0, M))) 1 rfl ?_
            refine g_ic_lt (tgt := 51) rfl rfl (fun q7 => ?_) (fun q7 => ?_)
            · refine g_pure (c' := (52, [(0, .ref l0), (1, .int l1), (2, .int l2), (3, .int l3), (4, .int l4)], [.ref l0], (jE0, M))) 1 rfl ?_
              refine g_gp rfl rfl rfl pl0 (jp_ok (kd := 2) pl0 (by decide) (by decide) rfl rfl).1 ?_
              refine g_gf (ci := 2) (k := 0) rfl rfl rfl (jk_ok (kd := 2) pl0 (by decide) (by decide) rfl rfl) ?_
              refine g_pure (c' := (59, [(0, .ref l0), (1, .int l1), (2, .int l2), (3, .int l3), (4, .int l4)], [.ref l0, .int (M (jpt l0 3) 0)], (jE0, M))) 1 rfl ?_
              refine g_gp rfl rfl rfl pl0 (jp_ok (kd := 0) pl0 (by decide) (by decide) rfl rfl).1 ?_
              refine g_gp rfl rfl rfl (jk_ok (kd := 0) pl0 (by decide) (by decide) rfl rfl) (jp_ok (kd := 3) (jk_ok (kd := 0) pl0 (by decide) (by decide) rfl rfl) (by decide) (by decide) rfl rfl).1 ?_
              refine g_pure (c' := (66, [(0, .ref l0), (1, .int l1), (2, .int l2), (3, .int l3), (4, .int l4)], [.int l1, .ref (jpt (jpt l0 1) 4), .int (M (jpt l0 3) 0)], (jE0, M))) 1 rfl ?_
              refine g_cI rfl (jc_v rfl rfl (jv_o (jk_ok (kd := 3) (jk_ok (kd := 0) pl0 (by decide) (by decide) rfl rfl) (by decide) (by decide) rfl rfl) rfl) rfl) (c42 (jpt (jpt l0 1) 4) l1 (jk_ok (kd := 3) (jk_ok (kd := 0) pl0 (by decide) (by decide) rfl rfl) (by decide) (by decide) rfl rfl)) (by decide) (fun v8 qv8 => ?_)
              refine g_pure (c' := (70, [(0, .ref l0), (1, .int l1), (2, .int l2), (3, .int l3), (4, .int l4)], [.ref l0, .int v8, .int (M (jpt l0 3) 0)], (jE0, M))) 1 rfl ?_
              refine g_gp rfl rfl rfl pl0 (jp_ok (kd := 0) pl0 (by decide) (by decide) rfl rfl).1 ?_
              refine g_gp rfl rfl rfl (jk_ok (kd := 0) pl0 (by decide) (by decide) rfl rfl) (jp_ok (kd := 3) (jk_ok (kd := 0) pl0 (by decide) (by decide) rfl rfl) (by decide) (by decide) rfl rfl).1 ?_
              refine g_pure (c' := (77, [(0, .ref l0), (1, .int l1), (2, .int l2), (3, .int l3), (4, .int l4)], [.int l2, .ref (jpt (jpt l0 1) 4), .int v8, .int (M (jpt l0 3) 0)], (jE0, M))) 1 rfl ?_
              refine g_cI rfl (jc_v rfl rfl (jv_o (jk_ok (kd := 3) (jk_ok (kd := 0) pl0 (by decide) (by decide) rfl rfl) (by decide) (by decide) rfl rfl) rfl) rfl) (c42 (jpt (jpt l0 1) 4) l2 (jk_ok (kd := 3) (jk_ok (kd := 0) pl0 (by decide) (by decide) rfl rfl) (by decide) (by decide) rfl rfl)) (by decide) (fun v9 qv9 => ?_)
              refine g_cI rfl (jc_s rfl rfl) (c208 v8 v9) (by decide) (fun v10 qv10 => ?_)
              refine g_cI rfl (jc_s rfl rfl) (c208 (M (jpt l0 3) 0) v10) (by decide) (fun v11 qv11 => ?_)
              refine g_pure (c' := (91, [(5, .int v11), (0, .ref l0), (1, .int l1), (2, .int l2), (3, .int l3), (4, .int l4)], [.int l3, .int v11], (jE0, M))) 3 rfl ?_
              refine g_ic_le (tgt := 96) rfl rfl (fun q12 => ?_) (fun q12 => ?_)
              · refine g_pure (c' := (95, [(5, .int v11), (0, .ref l0), (1, .int l1), (2, .int l2), (3, .int l3), (4, .int l4)], [.int (-1 : Int32)], (jE0, M))) 1 rfl ?_
                exact g_ret rfl rfl (fun _ h => h)
              · refine g_pure (c' := (98, [(5, .int v11), (0, .ref l0), (1, .int l1), (2, .int l2), (3, .int l3), (4, .int l4)], [.int l4], (jE0, M))) 1 rfl ?_
                refine g_if_ne (tgt := 106) rfl rfl (fun q13 => ?_) (fun q13 => ?_)
                · refine g_pure (c' := (115, [(5, .int v11), (0, .ref l0), (1, .int l1), (2, .int l2), (3, .int l3), (4, .int l4)], [.int v11], (jE0, M))) 2 rfl ?_
                  exact g_ret rfl rfl (fun _ h => h)
                · refine g_pure (c' := (112, [(5, .int v11), (0, .ref l0), (1, .int l1), (2, .int l2), (3, .int l3), (4, .int l4)], [.int l3, .int v11, .int l2, .int l1, .ref l0], (jE0, M))) 5 rfl ?_
                  refine g_wI rfl (jc_v rfl rfl (jv_o pl0 rfl) rfl) (c115 l0 l1 l2 v11 l3 M pl0) (by decide) (fun v15 M14 qv15 => ?_)
                  exact g_ret rfl rfl (fun _ h => h)
            · refine g_pure (c' := (50, [(0, .ref l0), (1, .int l1), (2, .int l2), (3, .int l3), (4, .int l4)], [.int (-5 : Int32)], (jE0, M))) 1 rfl ?_
              exact g_ret rfl rfl (fun _ h => h)
def f190_178 (h89 : Nat → Int32 → Int32 → Int32 → Int32 → Int32 → Int32 → Int32 → Int32 → JM → Option (Int32 × JM)) (l0 : Nat) (l1 : Int32) (l2 : Int32) (l3 : Int32) (l4 : Int32) (l5 : Int32) (l6 : Int32) (l7 : Int32) (l8 : Int32) (M : JM) : Option (Int32 × JM) := (h89 l0 l1 l2 l3 l4 l5 l6 l7 (l8 + (1 : Int32)) M)
set_option maxRecDepth 100000 in
theorem c190_178 {xs : Option (List Int32)} (h89 : Nat → Int32 → Int32 → Int32 → Int32 → Int32 → Int32 → Int32 → Int32 → JM → Option (Int32 × JM)) (H89 : ∀ (l0 : Nat) (l1 : Int32) (l2 : Int32) (l3 : Int32) (l4 : Int32) (l5 : Int32) (l6 : Int32) (l7 : Int32) (l8 : Int32) (M : JM) (pl0 : jok jE0 l0 7 = true), JG xs 7 190 (h89 l0 l1 l2 l3 l4 l5 l6 l7 l8 M) (fun x r => r = (some (.int x.1), (jE0, x.2))) (89, [(0, .ref l0), (1, .int l1), (2, .int l2), (3, .int l3), (4, .int l4), (5, .int l5), (6, .int l6), (7, .int l7), (8, .int l8)], [], (jE0, M))) : ∀ (l0 : Nat) (l1 : Int32) (l2 : Int32) (l3 : Int32) (l4 : Int32) (l5 : Int32) (l6 : Int32) (l7 : Int32) (l8 : Int32) (M : JM) (pl0 : jok jE0 l0 7 = true), JG xs 7 190 (f190_178 h89 l0 l1 l2 l3 l4 l5 l6 l7 l8 M) (fun x r => r = (some (.int x.1), (jE0, x.2))) (178, [(0, .ref l0), (1, .int l1), (2, .int l2), (3, .int l3), (4, .int l4), (5, .int l5), (6, .int l6), (7, .int l7), (8, .int l8)], [], (jE0, M)) := by
    intro l0 l1 l2 l3 l4 l5 l6 l7 l8 M pl0
    unfold f190_178
    refine g_pure (c' := (89, [(8, .int (l8 + (1 : Int32))), (0, .ref l0), (1, .int l1), (2, .int l2), (3, .int l3), (4, .int l4), (5, .int l5), (6, .int l6), (7, .int l7)], [], (jE0, M))) 2 rfl ?_
    refine g_weakk (lv := [(0, .ref l0), (1, .int l1), (2, .int l2), (3, .int l3), (4, .int l4), (5, .int l5), (6, .int l6), (7, .int l7), (8, .int (l8 + (1 : Int32)))]) ⟨rfl, rfl, rfl, rfl, rfl, rfl, rfl, rfl, rfl, trivial⟩ [0, 1, 2, 3, 4, 5, 6, 7, 8] rfl (by decide) [8, 0, 1, 2, 3, 4, 5, 6, 7] rfl (by decide) ?_
    exact (H89 l0 l1 l2 l3 l4 l5 l6 l7 (l8 + (1 : Int32)) M pl0)
def f190_176 (h89 : Nat → Int32 → Int32 → Int32 → Int32 → Int32 → Int32 → Int32 → Int32 → JM → Option (Int32 × JM)) (l0 : Nat) (l1 : Int32) (l2 : Int32) (l3 : Int32) (l4 : Int32) (l5 : Int32) (l6 : Int32) (l8 : Int32) (s0 : Int32) (M : JM) : Option (Int32 × JM) := (f190_178 h89 l0 l1 l2 l3 l4 l5 l6 s0 l8 M)
set_option maxRecDepth 100000 in
theorem c190_176 {xs : Option (List Int32)} (h89 : Nat → Int32 → Int32 → Int32 → Int32 → Int32 → Int32 → Int32 → Int32 → JM → Option (Int32 × JM)) (H89 : ∀ (l0 : Nat) (l1 : Int32) (l2 : Int32) (l3 : Int32) (l4 : Int32) (l5 : Int32) (l6 : Int32) (l7 : Int32) (l8 : Int32) (M : JM) (pl0 : jok jE0 l0 7 = true), JG xs 7 190 (h89 l0 l1 l2 l3 l4 l5 l6 l7 l8 M) (fun x r => r = (some (.int x.1), (jE0, x.2))) (89, [(0, .ref l0), (1, .int l1), (2, .int l2), (3, .int l3), (4, .int l4), (5, .int l5), (6, .int l6), (7, .int l7), (8, .int l8)], [], (jE0, M))) : ∀ (l0 : Nat) (l1 : Int32) (l2 : Int32) (l3 : Int32) (l4 : Int32) (l5 : Int32) (l6 : Int32) (l8 : Int32) (s0 : Int32) (M : JM) (pl0 : jok jE0 l0 7 = true), JG xs 7 190 (f190_176 h89 l0 l1 l2 l3 l4 l5 l6 l8 s0 M) (fun x r => r = (some (.int x.1), (jE0, x.2))) (176, [(0, .ref l0), (1, .int l1), (2, .int l2), (3, .int l3), (4, .int l4), (5, .int l5), (6, .int l6), (8, .int l8)], [.int s0], (jE0, M)) := by
    intro l0 l1 l2 l3 l4 l5 l6 l8 s0 M pl0
    unfold f190_176
    refine g_pure (c' := (178, [(7, .int s0), (0, .ref l0), (1, .int l1), (2, .int l2), (3, .int l3), (4, .int l4), (5, .int l5), (6, .int l6), (8, .int l8)], [], (jE0, M))) 1 rfl ?_
    refine g_weakk (lv := [(0, .ref l0), (1, .int l1), (2, .int l2), (3, .int l3), (4, .int l4), (5, .int l5), (6, .int l6), (7, .int s0), (8, .int l8)]) ⟨rfl, rfl, rfl, rfl, rfl, rfl, rfl, rfl, rfl, trivial⟩ [0, 1, 2, 3, 4, 5, 6, 7, 8] rfl (by decide) [7, 0, 1, 2, 3, 4, 5, 6, 8] rfl (by decide) ?_
    exact (c190_178 h89 H89 l0 l1 l2 l3 l4 l5 l6 s0 l8 M pl0)
def f190_160 (h89 : Nat → Int32 → Int32 → Int32 → Int32 → Int32 → Int32 → Int32 → Int32 → JM → Option (Int32 × JM)) (l0 : Nat) (l1 : Int32) (l2 : Int32) (l3 : Int32) (l4 : Int32) (l5 : Int32) (l7 : Int32) (l8 : Int32) (l9 : Int32) (s0 : Int32) (M : JM) : Option (Int32 × JM) := (if l7 < l9 then (f190_176 h89 l0 l1 l2 l3 l4 l5 s0 l8 l9 M) else (f190_176 h89 l0 l1 l2 l3 l4 l5 s0 l8 l7 M))
set_option maxRecDepth 100000 in
theorem c190_160 {xs : Option (List Int32)} (h89 : Nat → Int32 → Int32 → Int32 → Int32 → Int32 → Int32 → Int32 → Int32 → JM → Option (Int32 × JM)) (H89 : ∀ (l0 : Nat) (l1 : Int32) (l2 : Int32) (l3 : Int32) (l4 : Int32) (l5 : Int32) (l6 : Int32) (l7 : Int32) (l8 : Int32) (M : JM) (pl0 : jok jE0 l0 7 = true), JG xs 7 190 (h89 l0 l1 l2 l3 l4 l5 l6 l7 l8 M) (fun x r => r = (some (.int x.1), (jE0, x.2))) (89, [(0, .ref l0), (1, .int l1), (2, .int l2), (3, .int l3), (4, .int l4), (5, .int l5), (6, .int l6), (7, .int l7), (8, .int l8)], [], (jE0, M))) : ∀ (l0 : Nat) (l1 : Int32) (l2 : Int32) (l3 : Int32) (l4 : Int32) (l5 : Int32) (l7 : Int32) (l8 : Int32) (l9 : Int32) (s0 : Int32) (M : JM) (pl0 : jok jE0 l0 7 = true), JG xs 7 190 (f190_160 h89 l0 l1 l2 l3 l4 l5 l7 l8 l9 s0 M) (fun x r => r = (some (.int x.1), (jE0, x.2))) (160, [(0, .ref l0), (1, .int l1), (2, .int l2), (3, .int l3), (4, .int l4), (5, .int l5), (7, .int l7), (8, .int l8), (9, .int l9)], [.int s0], (jE0, M)) := by
    intro l0 l1 l2 l3 l4 l5 l7 l8 l9 s0 M pl0
    unfold f190_160
    refine g_pure (c' := (166, [(6, .int s0), (0, .ref l0), (1, .int l1), (2, .int l2), (3, .int l3), (4, .int l4), (5, .int l5), (7, .int l7), (8, .int l8), (9, .int l9)], [.int l7, .int l9], (jE0, M))) 3 rfl ?_
    refine g_ic_le (tgt := 174) rfl rfl (fun q25 => ?_) (fun q25 => ?_)
    · refine g_pure (c' := (176, [(6, .int s0), (0, .ref l0), (1, .int l1), (2, .int l2), (3, .int l3), (4, .int l4), (5, .int l5), (7, .int l7), (8, .int l8), (9, .int l9)], [.int l9], (jE0, M))) 2 rfl ?_
      refine g_weakk (lv := [(0, .ref l0), (1, .int l1), (2, .int l2), (3, .int l3), (4, .int l4), (5, .int l5), (6, .int s0), (8, .int l8)]) ⟨rfl, rfl, rfl, rfl, rfl, rfl, rfl, rfl, trivial⟩ [0, 1, 2, 3, 4, 5, 6, 8] rfl (by decide) [6, 0, 1, 2, 3, 4, 5, 7, 8, 9] rfl (by decide) ?_
      exact (c190_176 h89 H89 l0 l1 l2 l3 l4 l5 s0 l8 l9 M pl0)
    · refine g_pure (c' := (176, [(6, .int s0), (0, .ref l0), (1, .int l1), (2, .int l2), (3, .int l3), (4, .int l4), (5, .int l5), (7, .int l7), (8, .int l8), (9, .int l9)], [.int l7], (jE0, M))) 1 rfl ?_
      refine g_weakk (lv := [(0, .ref l0), (1, .int l1), (2, .int l2), (3, .int l3), (4, .int l4), (5, .int l5), (6, .int s0), (8, .int l8)]) ⟨rfl, rfl, rfl, rfl, rfl, rfl, rfl, rfl, trivial⟩ [0, 1, 2, 3, 4, 5, 6, 8] rfl (by decide) [6, 0, 1, 2, 3, 4, 5, 7, 8, 9] rfl (by decide) ?_
      exact (c190_176 h89 H89 l0 l1 l2 l3 l4 l5 s0 l8 l7 M pl0)
def f190_89  : Nat → Nat → Int32 → Int32 → Int32 → Int32 → Int32 → Int32 → Int32 → Int32 → JM → Option (Int32 × JM)
  | 0, _, _, _, _, _, _, _, _, _, _ => none
  | n + 1, l0, l1, l2, l3, l4, l5, l6, l7, l8, M => (if l3 < l8 then ((some (jup M l0 7 ((M l0 7) - (1 : Int32)))).bind fun M13 => (if l4 = (0 : Int32) then (some (l6, M13)) else (some (l7, M13)))) else ((jla (jpt l0 9) l1 M).bind fun v15 => (if l8 < v15 then (f190_178 (f190_89 n) l0 l1 l2 l3 l4 l5 l6 l7 l8 M) else ((jla (jpt l0 9) l2 M).bind fun v17 => (if l8 < v17 then (f190_178 (f190_89 n) l0 l1 l2 l3 l4 l5 l6 l7 l8 M) else ((jsa (jpt l0 9) l5 l8 M).bind fun M19 => ((f157 l0 l5 l3 M19).bind fun z26 => ((jla (jpt l0 0) (10 : Int32) z26.2).bind fun v22 => ((f127 (z26.1 &&& v22)).bind fun v23 => (if l7 < v23 then (f190_160 (f190_89 n) l0 l1 l2 l3 l4 l5 l7 l8 v23 l8 z26.2) else (f190_160 (f190_89 n) l0 l1 l2 l3 l4 l5 l7 l8 v23 l6 z26.2)))))))))))
set_option maxRecDepth 100000 in
theorem c190_89 {xs : Option (List Int32)} : ∀ (n : Nat) (l0 : Nat) (l1 : Int32) (l2 : Int32) (l3 : Int32) (l4 : Int32) (l5 : Int32) (l6 : Int32) (l7 : Int32) (l8 : Int32) (M : JM) (pl0 : jok jE0 l0 7 = true), JG xs 7 190 (f190_89 n l0 l1 l2 l3 l4 l5 l6 l7 l8 M) (fun x r => r = (some (.int x.1), (jE0, x.2))) (89, [(0, .ref l0), (1, .int l1), (2, .int l2), (3, .int l3), (4, .int l4), (5, .int l5), (6, .int l6), (7, .int l7), (8, .int l8)], [], (jE0, M))
  | 0, _, _, _, _, _, _, _, _, _, _, _ => by rw [f190_89]; exact g_none
  | n + 1, l0, l1, l2, l3, l4, l5, l6, l7, l8, M, pl0 => by
    rw [f190_89]
    refine g_pure (c' := (92, [(0, .ref l0), (1, .int l1), (2, .int l2), (3, .int l3), (4, .int l4), (5, .int l5), (6, .int l6), (7, .int l7), (8, .int l8)], [.int l3, .int l8], (jE0, M))) 2 rfl ?_
    refine g_ic_gt (tgt := 184) rfl rfl (fun q12 => ?_) (fun q12 => ?_)
    · refine g_pure (c' := (186, [(0, .ref l0), (1, .int l1), (2, .int l2), (3, .int l3), (4, .int l4), (5, .int l5), (6, .int l6), (7, .int l7), (8, .int l8)], [.ref l0, .ref l0], (jE0, M))) 2 rfl ?_
      refine g_gf (ci := 7) (k := 7) rfl rfl rfl pl0 ?_
      refine g_pure (c' := (191, [(0, .ref l0), (1, .int l1), (2, .int l2), (3, .int l3), (4, .int l4), (5, .int l5), (6, .int l6), (7, .int l7), (8, .int l8)], [.int ((M l0 7) - (1 : Int32)), .ref l0], (jE0, M))) 2 rfl ?_
      refine g_pf (ci := 7) (k := 7) rfl rfl rfl rfl pl0 (fun M13 => ?_)
      refine g_pure (c' := (196, [(0, .ref l0), (1, .int l1), (2, .int l2), (3, .int l3), (4, .int l4), (5, .int l5), (6, .int l6), (7, .int l7), (8, .int l8)], [.int l4], (jE0, M13))) 1 rfl ?_
      refine g_if_ne (tgt := 204) rfl rfl (fun q14 => ?_) (fun q14 => ?_)
      · refine g_pure (c' := (206, [(0, .ref l0), (1, .int l1), (2, .int l2), (3, .int l3), (4, .int l4), (5, .int l5), (6, .int l6), (7, .int l7), (8, .int l8)], [.int l6], (jE0, M13))) 2 rfl ?_
        exact g_ret rfl rfl (fun _ h => h)
      · refine g_pure (c' := (206, [(0, .ref l0), (1, .int l1), (2, .int l2), (3, .int l3), (4, .int l4), (5, .int l5), (6, .int l6), (7, .int l7), (8, .int l8)], [.int l7], (jE0, M13))) 1 rfl ?_
        exact g_ret rfl rfl (fun _ h => h)
    · refine g_pure (c' := (98, [(0, .ref l0), (1, .int l1), (2, .int l2), (3, .int l3), (4, .int l4), (5, .int l5), (6, .int l6), (7, .int l7), (8, .int l8)], [.ref l0, .int l8], (jE0, M))) 2 rfl ?_
      refine g_gp rfl rfl rfl pl0 (jp_ok (kd := 8) pl0 (by decide) (by decide) rfl rfl).1 ?_
      refine g_pure (c' := (102, [(0, .ref l0), (1, .int l1), (2, .int l2), (3, .int l3), (4, .int l4), (5, .int l5), (6, .int l6), (7, .int l7), (8, .int l8)], [.int l1, .ref (jpt l0 9), .int l8], (jE0, M))) 1 rfl ?_
      refine g_ia rfl (jk_ok (kd := 8) pl0 (by decide) (by decide) rfl rfl) (fun v15 => ?_)
      refine g_ic_lt (tgt := 178) rfl rfl (fun q16 => ?_) (fun q16 => ?_)
      · exact (c190_178 (f190_89 n) (c190_89 n) l0 l1 l2 l3 l4 l5 l6 l7 l8 M pl0)
      · refine g_pure (c' := (109, [(0, .ref l0), (1, .int l1), (2, .int l2), (3, .int l3), (4, .int l4), (5, .int l5), (6, .int l6), (7, .int l7), (8, .int l8)], [.ref l0, .int l8], (jE0, M))) 2 rfl ?_
        refine g_gp rfl rfl rfl pl0 (jp_ok (kd := 8) pl0 (by decide) (by decide) rfl rfl).1 ?_
        refine g_pure (c' := (113, [(0, .ref l0), (1, .int l1), (2, .int l2), (3, .int l3), (4, .int l4), (5, .int l5), (6, .int l6), (7, .int l7), (8, .int l8)], [.int l2, .ref (jpt l0 9), .int l8], (jE0, M))) 1 rfl ?_
        refine g_ia rfl (jk_ok (kd := 8) pl0 (by decide) (by decide) rfl rfl) (fun v17 => ?_)
        refine g_ic_lt (tgt := 178) rfl rfl (fun q18 => ?_) (fun q18 => ?_)
        · exact (c190_178 (f190_89 n) (c190_89 n) l0 l1 l2 l3 l4 l5 l6 l7 l8 M pl0)
        · refine g_pure (c' := (118, [(0, .ref l0), (1, .int l1), (2, .int l2), (3, .int l3), (4, .int l4), (5, .int l5), (6, .int l6), (7, .int l7), (8, .int l8)], [.ref l0], (jE0, M))) 1 rfl ?_
          refine g_gp rfl rfl rfl pl0 (jp_ok (kd := 8) pl0 (by decide) (by decide) rfl rfl).1 ?_
          refine g_pure (c' := (125, [(0, .ref l0), (1, .int l1), (2, .int l2), (3, .int l3), (4, .int l4), (5, .int l5), (6, .int l6), (7, .int l7), (8, .int l8)], [.int l8, .int l5, .ref (jpt l0 9)], (jE0, M))) 2 rfl ?_
          refine g_is rfl (jk_ok (kd := 8) pl0 (by decide) (by decide) rfl rfl) (fun M19 => ?_)
          refine g_pure (c' := (130, [(0, .ref l0), (1, .int l1), (2, .int l2), (3, .int l3), (4, .int l4), (5, .int l5), (6, .int l6), (7, .int l7), (8, .int l8)], [.int l3, .int l5, .ref l0], (jE0, M19))) 3 rfl ?_
          refine g_wI rfl (jc_v rfl rfl (jv_o pl0 rfl) rfl) (c157 l0 l5 l3 M19 pl0) (by decide) (fun v21 M20 qv21 => ?_)
          refine g_pure (c' := (134, [(0, .ref l0), (1, .int l1), (2, .int l2), (3, .int l3), (4, .int l4), (5, .int l5), (6, .int l6), (7, .int l7), (8, .int l8)], [.ref l0, .int v21], (jE0, M20))) 1 rfl ?_
          refine g_gp rfl rfl rfl pl0 (jp_ok (kd := 8) pl0 (by decide) (by decide) rfl rfl).1 ?_
          refine g_pure (c' := (139, [(0, .ref l0), (1, .int l1), (2, .int l2), (3, .int l3), (4, .int l4), (5, .int l5), (6, .int l6), (7, .int l7), (8, .int l8)], [.int (10 : Int32), .ref (jpt l0 0), .int v21], (jE0, M20))) 1 rfl ?_
          refine g_ia rfl (jk_ok (kd := 8) pl0 (by decide) (by decide) rfl rfl) (fun v22 => ?_)
          refine g_pure (c' := (141, [(0, .ref l0), (1, .int l1), (2, .int l2), (3, .int l3), (4, .int l4), (5, .int l5), (6, .int l6), (7, .int l7), (8, .int l8)], [.int (v21 &&& v22)], (jE0, M20))) 1 rfl ?_
          refine g_cI rfl (jc_s rfl rfl) (c127 (v21 &&& v22)) (by decide) (fun v23 qv23 => ?_)
          refine g_pure (c' := (150, [(9, .int v23), (0, .ref l0), (1, .int l1), (2, .int l2), (3, .int l3), (4, .int l4), (5, .int l5), (6, .int l6), (7, .int l7), (8, .int l8)], [.int l7, .int v23], (jE0, M20))) 3 rfl ?_
          refine g_ic_le (tgt := 158) rfl rfl (fun q24 => ?_) (fun q24 => ?_)
          · refine g_pure (c' := (160, [(9, .int v23), (0, .ref l0), (1, .int l1), (2, .int l2), (3, .int l3), (4, .int l4), (5, .int l5), (6, .int l6), (7, .int l7), (8, .int l8)], [.int l8], (jE0, M20))) 2 rfl ?_
            refine g_weakk (lv := [(0, .ref l0), (1, .int l1), (2, .int l2), (3, .int l3), (4, .int l4), (5, .int l5), (7, .int l7), (8, .int l8), (9, .int v23)]) ⟨rfl, rfl, rfl, rfl, rfl, rfl, rfl, rfl, rfl, trivial⟩ [0, 1, 2, 3, 4, 5, 7, 8, 9] rfl (by decide) [9, 0, 1, 2, 3, 4, 5, 6, 7, 8] rfl (by decide) ?_
            exact (c190_160 (f190_89 n) (c190_89 n) l0 l1 l2 l3 l4 l5 l7 l8 v23 l8 M20 pl0)
          · refine g_pure (c' := (160, [(9, .int v23), (0, .ref l0), (1, .int l1), (2, .int l2), (3, .int l3), (4, .int l4), (5, .int l5), (6, .int l6), (7, .int l7), (8, .int l8)], [.int l6], (jE0, M20))) 1 rfl ?_
            refine g_weakk (lv := [(0, .ref l0), (1, .int l1), (2, .int l2), (3, .int l3), (4, .int l4), (5, .int l5), (7, .int l7), (8, .int l8), (9, .int v23)]) ⟨rfl, rfl, rfl, rfl, rfl, rfl, rfl, rfl, rfl, trivial⟩ [0, 1, 2, 3, 4, 5, 7, 8, 9] rfl (by decide) [9, 0, 1, 2, 3, 4, 5, 6, 7, 8] rfl (by decide) ?_
            exact (c190_160 (f190_89 n) (c190_89 n) l0 l1 l2 l3 l4 l5 l7 l8 v23 l6 M20 pl0)
/-- CometKinModel.bestBorn -/
def f190  (l0 : Nat) (l1 : Int32) (l2 : Int32) (l3 : Int32) (l4 : Int32) (M : JM) : Option (Int32 × JM) := ((f160 M l0 l1 l2).bind fun v1 => (if v1 = (0 : Int32) then (some ((-2 : Int32), M)) else ((f162 l3).bind fun v3 => (if v3 = (0 : Int32) then (some ((-3 : Int32), M)) else ((f125 ((l4).toInt64) (0 : Int64) (1 : Int64)).bind fun v5 => (if v5 = (0 : Int32) then (some ((-3 : Int32), M)) else (if (M l0 7) = (9 : Int32) then (some ((-5 : Int32), M)) else ((f142 l0 (0 : Int32) (0 : Int32) M).bind fun M8 => ((jsa (jpt l0 10) ((M8 l0 7) - (1 : Int32)) l1 M8).bind fun M9 => ((jsa (jpt l0 11) ((M8 l0 7) - (1 : Int32)) l2 M9).bind fun M10 => ((jla (jpt l0 0) (0 : Int32) M10).bind fun v11 => (f190_89 1000 l0 l1 l2 l3 l4 ((M8 l0 7) - (1 : Int32)) (-1 : Int32) (-1 : Int32) v11 M10))))))))))))
set_option maxRecDepth 100000 in
theorem c190 {xs : Option (List Int32)} (l0 : Nat) (l1 : Int32) (l2 : Int32) (l3 : Int32) (l4 : Int32) (M : JM) (pl0 : jok jE0 l0 7 = true) : JG xs 7 190 (f190 l0 l1 l2 l3 l4 M) (fun x r => r = (some (.int x.1), (jE0, x.2))) (0, [(0, .ref l0), (1, .int l1), (2, .int l2), (3, .int l3), (4, .int l4)], [], (jE0, M)) := by
    unfold f190
    refine g_pure (c' := (3, [(0, .ref l0), (1, .int l1), (2, .int l2), (3, .int l3), (4, .int l4)], [.int l2, .int l1, .ref l0], (jE0, M))) 3 rfl ?_
    refine g_cI rfl (jc_v rfl rfl (jv_o pl0 rfl) rfl) (c160 l0 l1 l2 pl0) (by decide) (fun v1 qv1 => ?_)
    refine g_if_ne (tgt := 12) rfl rfl (fun q2 => ?_) (fun q2 => ?_)
    · refine g_pure (c' := (11, [(0, .ref l0), (1, .int l1), (2, .int l2), (3, .int l3), (4, .int l4)], [.int (-2 : Int32)], (jE0, M))) 1 rfl ?_
      exact g_ret rfl rfl (fun _ h => h)
    · refine g_pure (c' := (13, [(0, .ref l0), (1, .int l1), (2, .int l2), (3, .int l3), (4, .int l4)], [.int l3], (jE0, M))) 1 rfl ?_
      refine g_cI rfl (jc_s rfl rfl) (c162 l3) (by decide) (fun v3 qv3 => ?_)
      refine g_if_eq (tgt := 30) rfl rfl (fun q4 => ?_) (fun q4 => ?_)
      · refine g_pure (c' := (32, [(0, .ref l0), (1, .int l1), (2, .int l2), (3, .int l3), (4, .int l4)], [.int (-3 : Int32)], (jE0, M))) 1 rfl ?_
        exact g_ret rfl rfl (fun _ h => h)
      · refine g_pure (c' := (24, [(0, .ref l0), (1, .int l1), (2, .int l2), (3, .int l3), (4, .int l4)], [.long (1 : Int64), .long (0 : Int64), .long ((l4).toInt64)], (jE0, M))) 4 rfl ?_
        refine g_cI rfl (jc_s rfl rfl) (c125 ((l4).toInt64) (0 : Int64) (1 : Int64)) (by decide) (fun v5 qv5 => ?_)
        refine g_if_ne (tgt := 33) rfl rfl (fun q6 => ?_) (fun q6 => ?_)
        · refine g_pure (c' := (32, [(0, .ref l0), (1, .int l1), (2, .int l2), (3, .int l3), (4, .int l4)], [.int (-3 : Int32)], (jE0, M))) 1 rfl ?_
          exact g_ret rfl rfl (fun _ h => h)
        · refine g_pure (c' := (34, [(0, .ref l0), (1, .int l1), (2, .int l2), (3, .int l3), (4, .int l4)], [.ref l0], (jE0, M))) 1 rfl ?_
          refine g_gf (ci := 7) (k := 7) rfl rfl rfl pl0 ?_
          refine g_pure (c' := (39, [(0, .ref l0), (1, .int l1), (2, .int l2), (3, .int l3), (4, .int l4)], [.int (9 : Int32), .int (M l0 7)], (jE0, M))) 1 rfl ?_
          refine g_ic_ne (tgt := 45) rfl rfl (fun q7 => ?_) (fun q7 => ?_)
          · refine g_pure (c' := (44, [(0, .ref l0), (1, .int l1), (2, .int l2), (3, .int l3), (4, .int l4)], [.int (-5 : Int32)], (jE0, M))) 1 rfl ?_
            exact g_ret rfl rfl (fun _ h => h)
          · refine g_pure (c' := (48, [(0, .ref l0), (1, .int l1), (2, .int l2), (3, .int l3), (4, .int l4)], [.int (0 : Int32), .int (0 : Int32), .ref l0], (jE0, M))) 3 rfl ?_
            refine g_wV rfl (jc_v rfl rfl (jv_o pl0 rfl) rfl) (c142 l0 (0 : Int32) (0 : Int32) M pl0) (by decide) (fun M8 => ?_)
            refine g_pure (c' := (52, [(0, .ref l0), (1, .int l1), (2, .int l2), (3, .int l3), (4, .int l4)], [.ref l0], (jE0, M8))) 1 rfl ?_
            refine g_gf (ci := 7) (k := 7) rfl rfl rfl pl0 ?_
            refine g_pure (c' := (60, [(5, .int ((M8 l0 7) - (1 : Int32))), (0, .ref l0), (1, .int l1), (2, .int l2), (3, .int l3), (4, .int l4)], [.ref l0], (jE0, M8))) 4 rfl ?_
            refine g_gp rfl rfl rfl pl0 (jp_ok (kd := 8) pl0 (by decide) (by decide) rfl rfl).1 ?_
            refine g_pure (c' := (66, [(5, .int ((M8 l0 7) - (1 : Int32))), (0, .ref l0), (1, .int l1), (2, .int l2), (3, .int l3), (4, .int l4)], [.int l1, .int ((M8 l0 7) - (1 : Int32)), .ref (jpt l0 10)], (jE0, M8))) 2 rfl ?_
            refine g_is rfl (jk_ok (kd := 8) pl0 (by decide) (by decide) rfl rfl) (fun M9 => ?_)
            refine g_pure (c' := (68, [(5, .int ((M8 l0 7) - (1 : Int32))), (0, .ref l0), (1, .int l1), (2, .int l2), (3, .int l3), (4, .int l4)], [.ref l0], (jE0, M9))) 1 rfl ?_
            refine g_gp rfl rfl rfl pl0 (jp_ok (kd := 8) pl0 (by decide) (by decide) rfl rfl).1 ?_
            refine g_pure (c' := (74, [(5, .int ((M8 l0 7) - (1 : Int32))), (0, .ref l0), (1, .int l1), (2, .int l2), (3, .int l3), (4, .int l4)], [.int l2, .int ((M8 l0 7) - (1 : Int32)), .ref (jpt l0 11)], (jE0, M9))) 2 rfl ?_
            refine g_is rfl (jk_ok (kd := 8) pl0 (by decide) (by decide) rfl rfl) (fun M10 => ?_)
            refine g_pure (c' := (82, [(7, .int (-1 : Int32)), (6, .int (-1 : Int32)), (5, .int ((M8 l0 7) - (1 : Int32))), (0, .ref l0), (1, .int l1), (2, .int l2), (3, .int l3), (4, .int l4)], [.ref l0], (jE0, M10))) 5 rfl ?_
            refine g_gp rfl rfl rfl pl0 (jp_ok (kd := 8) pl0 (by decide) (by decide) rfl rfl).1 ?_
            refine g_pure (c' := (86, [(7, .int (-1 : Int32)), (6, .int (-1 : Int32)), (5, .int ((M8 l0 7) - (1 : Int32))), (0, .ref l0), (1, .int l1), (2, .int l2), (3, .int l3), (4, .int l4)], [.int (0 : Int32), .ref (jpt l0 0)], (jE0, M10))) 1 rfl ?_
            refine g_ia rfl (jk_ok (kd := 8) pl0 (by decide) (by decide) rfl rfl) (fun v11 => ?_)
            refine g_pure (c' := (89, [(8, .int v11), (7, .int (-1 : Int32)), (6, .int (-1 : Int32)), (5, .int ((M8 l0 7) - (1 : Int32))), (0, .ref l0), (1, .int l1), (2, .int l2), (3, .int l3), (4, .int l4)], [], (jE0, M10))) 1 rfl ?_
            refine g_weakk (lv := [(0, .ref l0), (1, .int l1), (2, .int l2), (3, .int l3), (4, .int l4), (5, .int ((M8 l0 7) - (1 : Int32))), (6, .int (-1 : Int32)), (7, .int (-1 : Int32)), (8, .int v11)]) ⟨rfl, rfl, rfl, rfl, rfl, rfl, rfl, rfl, rfl, trivial⟩ [0, 1, 2, 3, 4, 5, 6, 7, 8] rfl (by decide) [8, 7, 6, 5, 0, 1, 2, 3, 4] rfl (by decide) ?_
            exact (c190_89 1000 l0 l1 l2 l3 l4 ((M8 l0 7) - (1 : Int32)) (-1 : Int32) (-1 : Int32) v11 M10 pl0)
