def f178_206 (h169 : Nat → Int32 → Int32 → Int32 → Int32 → JM → Option (Int32 × JM)) (l0 : Nat) (l3 : Int32) (l4 : Int32) (l5 : Int32) (l6 : Int32) (s0 : Int32) (s1 : Int32) (s2 : Int32) (s3 : Nat) (M : JM) : Option (Int32 × JM) := ((jsa s3 s2 (s1 + s0) M).bind fun M23 => (h169 l0 l3 l4 l5 (l6 + (1 : Int32)) M23))
set_option maxRecDepth 100000 in
theorem c178_206 {xs : Option (List Int32)} (h169 : Nat → Int32 → Int32 → Int32 → Int32 → JM → Option (Int32 × JM)) (H169 : ∀ (l0 : Nat) (l3 : Int32) (l4 : Int32) (l5 : Int32) (l6 : Int32) (M : JM) (pl0 : jok jE0 l0 7 = true), JG xs 7 178 (h169 l0 l3 l4 l5 l6 M) (fun x r => r = (some (.int x.1), (jE0, x.2))) (169, [(0, .ref l0), (3, .int l3), (4, .int l4), (5, .int l5), (6, .int l6)], [], (jE0, M))) : ∀ (l0 : Nat) (l3 : Int32) (l4 : Int32) (l5 : Int32) (l6 : Int32) (s0 : Int32) (s1 : Int32) (s2 : Int32) (s3 : Nat) (M : JM) (pl0 : jok jE0 l0 7 = true) (ps3 : jok jE0 s3 8 = true), JG xs 7 178 (f178_206 h169 l0 l3 l4 l5 l6 s0 s1 s2 s3 M) (fun x r => r = (some (.int x.1), (jE0, x.2))) (206, [(0, .ref l0), (3, .int l3), (4, .int l4), (5, .int l5), (6, .int l6)], [.int s0, .int s1, .int s2, .ref s3], (jE0, M)) := by
    intro l0 l3 l4 l5 l6 s0 s1 s2 s3 M pl0 ps3
    unfold f178_206
    refine g_pure (c' := (207, [(0, .ref l0), (3, .int l3), (4, .int l4), (5, .int l5), (6, .int l6)], [.int (s1 + s0), .int s2, .ref s3], (jE0, M))) 1 rfl ?_
    refine g_is rfl ps3 (fun M23 => ?_)
    refine g_pure (c' := (169, [(6, .int (l6 + (1 : Int32))), (0, .ref l0), (3, .int l3), (4, .int l4), (5, .int l5)], [], (jE0, M23))) 2 rfl ?_
    refine g_weakk (lv := [(0, .ref l0), (3, .int l3), (4, .int l4), (5, .int l5), (6, .int (l6 + (1 : Int32)))]) ⟨rfl, rfl, rfl, rfl, rfl, trivial⟩ [0, 3, 4, 5, 6] rfl (by decide) [6, 0, 3, 4, 5] rfl (by decide) ?_
    exact (H169 l0 l3 l4 l5 (l6 + (1 : Int32)) M23 pl0)
def f178_169  : Nat → Nat → Int32 → Int32 → Int32 → Int32 → JM → Option (Int32 × JM)
  | 0, _, _, _, _, _, _ => none
  | n + 1, l0, l3, l4, l5, l6, M => (if l6 < (M l0 7) then ((jla (jpt l0 0) ((1 : Int32) + l6) M).bind fun v20 => ((f126 l4 l6).bind fun v21 => (if v21 = (0 : Int32) then (f178_206 (f178_169 n) l0 l3 l4 l5 l6 (0 : Int32) v20 ((1 : Int32) + l6) (jpt l0 0) M) else ((jdv l3 l5).bind fun v24 => (f178_206 (f178_169 n) l0 l3 l4 l5 l6 v24 v20 ((1 : Int32) + l6) (jpt l0 0) M))))) else (some (l5, M)))
set_option maxRecDepth 100000 in
theorem c178_169 {xs : Option (List Int32)} : ∀ (n : Nat) (l0 : Nat) (l3 : Int32) (l4 : Int32) (l5 : Int32) (l6 : Int32) (M : JM) (pl0 : jok jE0 l0 7 = true), JG xs 7 178 (f178_169 n l0 l3 l4 l5 l6 M) (fun x r => r = (some (.int x.1), (jE0, x.2))) (169, [(0, .ref l0), (3, .int l3), (4, .int l4), (5, .int l5), (6, .int l6)], [], (jE0, M))
  | 0, _, _, _, _, _, _, _ => by rw [f178_169]; exact g_none
  | n + 1, l0, l3, l4, l5, l6, M, pl0 => by
    rw [f178_169]
    refine g_pure (c' := (172, [(0, .ref l0), (3, .int l3), (4, .int l4), (5, .int l5), (6, .int l6)], [.ref l0, .int l6], (jE0, M))) 2 rfl ?_
    refine g_gf (ci := 7) (k := 7) rfl rfl rfl pl0 ?_
    refine g_ic_ge (tgt := 214) rfl rfl (fun q19 => ?_) (fun q19 => ?_)
    · refine g_pure (c' := (179, [(0, .ref l0), (3, .int l3), (4, .int l4), (5, .int l5), (6, .int l6)], [.ref l0], (jE0, M))) 1 rfl ?_
      refine g_gp rfl rfl rfl pl0 (jp_ok (kd := 8) pl0 (by decide) (by decide) rfl rfl).1 ?_
      refine g_pure (c' := (187, [(0, .ref l0), (3, .int l3), (4, .int l4), (5, .int l5), (6, .int l6)], [.int ((1 : Int32) + l6), .ref (jpt l0 0), .int ((1 : Int32) + l6), .ref (jpt l0 0)], (jE0, M))) 4 rfl ?_
      refine g_ia rfl (jk_ok (kd := 8) pl0 (by decide) (by decide) rfl rfl) (fun v20 => ?_)
      refine g_pure (c' := (192, [(0, .ref l0), (3, .int l3), (4, .int l4), (5, .int l5), (6, .int l6)], [.int l6, .int l4, .int v20, .int ((1 : Int32) + l6), .ref (jpt l0 0)], (jE0, M))) 2 rfl ?_
      refine g_cI rfl (jc_s rfl rfl) (c126 l4 l6) (by decide) (fun v21 qv21 => ?_)
      refine g_if_eq (tgt := 205) rfl rfl (fun q22 => ?_) (fun q22 => ?_)
      · refine g_pure (c' := (206, [(0, .ref l0), (3, .int l3), (4, .int l4), (5, .int l5), (6, .int l6)], [.int (0 : Int32), .int v20, .int ((1 : Int32) + l6), .ref (jpt l0 0)], (jE0, M))) 1 rfl ?_
        exact (c178_206 (f178_169 n) (c178_169 n) l0 l3 l4 l5 l6 (0 : Int32) v20 ((1 : Int32) + l6) (jpt l0 0) M pl0 (jk_ok (kd := 8) pl0 (by decide) (by decide) rfl rfl))
      · refine g_pure (c' := (201, [(0, .ref l0), (3, .int l3), (4, .int l4), (5, .int l5), (6, .int l6)], [.int l5, .int l3, .int v20, .int ((1 : Int32) + l6), .ref (jpt l0 0)], (jE0, M))) 2 rfl ?_
        refine g_d1 rfl (fun v24 => ?_)
        refine g_pure (c' := (206, [(0, .ref l0), (3, .int l3), (4, .int l4), (5, .int l5), (6, .int l6)], [.int v24, .int v20, .int ((1 : Int32) + l6), .ref (jpt l0 0)], (jE0, M))) 1 rfl ?_
        exact (c178_206 (f178_169 n) (c178_169 n) l0 l3 l4 l5 l6 v24 v20 ((1 : Int32) + l6) (jpt l0 0) M pl0 (jk_ok (kd := 8) pl0 (by decide) (by decide) rfl rfl))
    · refine g_pure (c' := (216, [(0, .ref l0), (3, .int l3), (4, .int l4), (5, .int l5), (6, .int l6)], [.int l5], (jE0, M))) 1 rfl ?_
      exact g_ret rfl rfl (fun _ h => h)
def f178_152  (l0 : Nat) (l1 : Int32) (l3 : Int32) (M : JM) : Option (Int32 × JM) := ((f177 l0 l1 M).bind fun z25 => ((f127 z25.1).bind fun v18 => (f178_169 1000 l0 l3 z25.1 v18 (0 : Int32) z25.2)))
set_option maxRecDepth 100000 in
theorem c178_152 {xs : Option (List Int32)} : ∀ (l0 : Nat) (l1 : Int32) (l3 : Int32) (M : JM) (pl0 : jok jE0 l0 7 = true), JG xs 7 178 (f178_152 l0 l1 l3 M) (fun x r => r = (some (.int x.1), (jE0, x.2))) (152, [(0, .ref l0), (1, .int l1), (3, .int l3)], [], (jE0, M)) := by
    intro l0 l1 l3 M pl0
    unfold f178_152
    refine g_pure (c' := (154, [(0, .ref l0), (1, .int l1), (3, .int l3)], [.int l1, .ref l0], (jE0, M))) 2 rfl ?_
    refine g_wI rfl (jc_v rfl rfl (jv_o pl0 rfl) rfl) (c177 l0 l1 M pl0) (by decide) (fun v17 M16 qv17 => ?_)
    refine g_pure (c' := (161, [(4, .int v17), (0, .ref l0), (1, .int l1), (3, .int l3)], [.int v17], (jE0, M16))) 2 rfl ?_
    refine g_cI rfl (jc_s rfl rfl) (c127 v17) (by decide) (fun v18 qv18 => ?_)
    refine g_pure (c' := (169, [(6, .int (0 : Int32)), (5, .int v18), (4, .int v17), (0, .ref l0), (1, .int l1), (3, .int l3)], [], (jE0, M16))) 3 rfl ?_
    refine g_weakk (lv := [(0, .ref l0), (3, .int l3), (4, .int v17), (5, .int v18), (6, .int (0 : Int32))]) ⟨rfl, rfl, rfl, rfl, rfl, trivial⟩ [0, 3, 4, 5, 6] rfl (by decide) [6, 5, 4, 0, 1, 3] rfl (by decide) ?_
    exact (c178_169 1000 l0 l3 v17 v18 (0 : Int32) M16 pl0)
def f178_132  (l0 : Nat) (l1 : Int32) (l2 : Int32) (l3 : Int32) (s0 : Int32) (M : JM) : Option (Int32 × JM) := ((jla (jpt l0 0) ((1 : Int32) + l2) M).bind fun v31 => ((jsa (jpt l0 0) ((1 : Int32) + l2) (v31 + s0) M).bind fun M32 => (f178_152 l0 l1 (l3 - s0) M32)))
set_option maxRecDepth 100000 in
theorem c178_132 {xs : Option (List Int32)} : ∀ (l0 : Nat) (l1 : Int32) (l2 : Int32) (l3 : Int32) (s0 : Int32) (M : JM) (pl0 : jok jE0 l0 7 = true), JG xs 7 178 (f178_132 l0 l1 l2 l3 s0 M) (fun x r => r = (some (.int x.1), (jE0, x.2))) (132, [(0, .ref l0), (1, .int l1), (2, .int l2), (3, .int l3)], [.int s0], (jE0, M)) := by
    intro l0 l1 l2 l3 s0 M pl0
    unfold f178_132
    refine g_pure (c' := (135, [(4, .int s0), (0, .ref l0), (1, .int l1), (2, .int l2), (3, .int l3)], [.ref l0], (jE0, M))) 2 rfl ?_
    refine g_gp rfl rfl rfl pl0 (jp_ok (kd := 8) pl0 (by decide) (by decide) rfl rfl).1 ?_
    refine g_pure (c' := (142, [(4, .int s0), (0, .ref l0), (1, .int l1), (2, .int l2), (3, .int l3)], [.int ((1 : Int32) + l2), .ref (jpt l0 0), .int ((1 : Int32) + l2), .ref (jpt l0 0)], (jE0, M))) 4 rfl ?_
    refine g_ia rfl (jk_ok (kd := 8) pl0 (by decide) (by decide) rfl rfl) (fun v31 => ?_)
    refine g_pure (c' := (146, [(4, .int s0), (0, .ref l0), (1, .int l1), (2, .int l2), (3, .int l3)], [.int (v31 + s0), .int ((1 : Int32) + l2), .ref (jpt l0 0)], (jE0, M))) 2 rfl ?_
    refine g_is rfl (jk_ok (kd := 8) pl0 (by decide) (by decide) rfl rfl) (fun M32 => ?_)
    refine g_pure (c' := (152, [(3, .int (l3 - s0)), (4, .int s0), (0, .ref l0), (1, .int l1), (2, .int l2)], [], (jE0, M32))) 4 rfl ?_
    refine g_weakk (lv := [(0, .ref l0), (1, .int l1), (3, .int (l3 - s0))]) ⟨rfl, rfl, rfl, trivial⟩ [0, 1, 3] rfl (by decide) [3, 4, 0, 1, 2] rfl (by decide) ?_
    exact (c178_152 l0 l1 (l3 - s0) M32 pl0)
/-- CometKinModel.die -/
def f178  (l0 : Nat) (l1 : Int32) (M : JM) : Option (Int32 × JM) := ((f159 M l0 l1).bind fun v1 => (if v1 = (0 : Int32) then (some ((-2 : Int32), M)) else ((jla (jpt l0 0) (10 : Int32) M).bind fun v3 => ((f126 v3 l1).bind fun v4 => (if v4 = (0 : Int32) then (some ((-4 : Int32), M)) else ((jla (jpt l0 9) l1 M).bind fun v6 => ((jla (jpt l0 0) (0 : Int32) M).bind fun v7 => (if v7 < v6 then (some ((-4 : Int32), M)) else ((f170 l0 M).bind fun M9 => ((jla (jpt l0 0) ((11 : Int32) + l1) M9).bind fun v10 => ((jla (jpt l0 0) ((1 : Int32) + l1) M9).bind fun v11 => ((jla (jpt l0 0) (10 : Int32) M9).bind fun v12 => ((jsa (jpt l0 0) (10 : Int32) (v12 &&& (((1 : Int32) <<< (l1 &&& (31 : Int32))) ^^^ (-1 : Int32))) M9).bind fun M13 => ((jsa (jpt l0 0) ((1 : Int32) + l1) (0 : Int32) M13).bind fun M14 => (if v10 = (-1 : Int32) then (f178_152 l0 l1 v11 M14) else ((jsa (jpt l0 0) ((11 : Int32) + l1) (-1 : Int32) M14).bind fun M26 => ((jsa (jpt l0 0) ((11 : Int32) + v10) (-1 : Int32) M26).bind fun M27 => ((jla (jpt l0 8) v10 M27).bind fun v28 => (if v28 = (2 : Int32) then ((jdv v11 (2 : Int32)).bind fun v30 => (f178_132 l0 l1 v10 v11 v30 M27)) else (f178_132 l0 l1 v10 v11 (0 : Int32) M27))))))))))))))))))))
set_option maxRecDepth 100000 in
theorem c178 {xs : Option (List Int32)} (l0 : Nat) (l1 : Int32) (M : JM) (pl0 : jok jE0 l0 7 = true) : JG xs 7 178 (f178 l0 l1 M) (fun x r => r = (some (.int x.1), (jE0, x.2))) (0, [(0, .ref l0), (1, .int l1)], [], (jE0, M)) := by
    unfold f178
    refine g_pure (c' := (2, [(0, .ref l0), (1, .int l1)], [.int l1, .ref l0], (jE0, M))) 2 rfl ?_
    refine g_cI rfl (jc_v rfl rfl (jv_o pl0 rfl) rfl) (c159 l0 l1 pl0) (by decide) (fun v1 qv1 => ?_)
    refine g_if_ne (tgt := 11) rfl rfl (fun q2 => ?_) (fun q2 => ?_)
    · refine g_pure (c' := (10, [(0, .ref l0), (1, .int l1)], [.int (-2 : Int32)], (jE0, M))) 1 rfl ?_
      exact g_ret rfl rfl (fun _ h => h)
    · refine g_pure (c' := (12, [(0, .ref l0), (1, .int l1)], [.ref l0], (jE0, M))) 1 rfl ?_
      refine g_gp rfl rfl rfl pl0 (jp_ok (kd := 8) pl0 (by decide) (by decide) rfl rfl).1 ?_
      refine g_pure (c' := (17, [(0, .ref l0), (1, .int l1)], [.int (10 : Int32), .ref (jpt l0 0)], (jE0, M))) 1 rfl ?_
      refine g_ia rfl (jk_ok (kd := 8) pl0 (by decide) (by decide) rfl rfl) (fun v3 => ?_)
      refine g_pure (c' := (19, [(0, .ref l0), (1, .int l1)], [.int l1, .int v3], (jE0, M))) 1 rfl ?_
      refine g_cI rfl (jc_s rfl rfl) (c126 v3 l1) (by decide) (fun v4 qv4 => ?_)
      refine g_if_eq (tgt := 40) rfl rfl (fun q5 => ?_) (fun q5 => ?_)
      · refine g_pure (c' := (42, [(0, .ref l0), (1, .int l1)], [.int (-4 : Int32)], (jE0, M))) 1 rfl ?_
        exact g_ret rfl rfl (fun _ h => h)
      · refine g_pure (c' := (26, [(0, .ref l0), (1, .int l1)], [.ref l0], (jE0, M))) 1 rfl ?_
        refine g_gp rfl rfl rfl pl0 (jp_ok (kd := 8) pl0 (by decide) (by decide) rfl rfl).1 ?_
        refine g_pure (c' := (30, [(0, .ref l0), (1, .int l1)], [.int l1, .ref (jpt l0 9)], (jE0, M))) 1 rfl ?_
        refine g_ia rfl (jk_ok (kd := 8) pl0 (by decide) (by decide) rfl rfl) (fun v6 => ?_)
        refine g_pure (c' := (32, [(0, .ref l0), (1, .int l1)], [.ref l0, .int v6], (jE0, M))) 1 rfl ?_
        refine g_gp rfl rfl rfl pl0 (jp_ok (kd := 8) pl0 (by decide) (by decide) rfl rfl).1 ?_
        refine g_pure (c' := (36, [(0, .ref l0), (1, .int l1)], [.int (0 : Int32), .ref (jpt l0 0), .int v6], (jE0, M))) 1 rfl ?_
        refine g_ia rfl (jk_ok (kd := 8) pl0 (by decide) (by decide) rfl rfl) (fun v7 => ?_)
        refine g_ic_le (tgt := 43) rfl rfl (fun q8 => ?_) (fun q8 => ?_)
        · refine g_pure (c' := (42, [(0, .ref l0), (1, .int l1)], [.int (-4 : Int32)], (jE0, M))) 1 rfl ?_
          exact g_ret rfl rfl (fun _ h => h)
        · refine g_pure (c' := (44, [(0, .ref l0), (1, .int l1)], [.ref l0], (jE0, M))) 1 rfl ?_
          refine g_wV rfl (jc_v rfl rfl (jv_o pl0 rfl) rfl) (c170 l0 M pl0) (by decide) (fun M9 => ?_)
          refine g_pure (c' := (48, [(0, .ref l0), (1, .int l1)], [.ref l0], (jE0, M9))) 1 rfl ?_
          refine g_gp rfl rfl rfl pl0 (jp_ok (kd := 8) pl0 (by decide) (by decide) rfl rfl).1 ?_
          refine g_pure (c' := (55, [(0, .ref l0), (1, .int l1)], [.int ((11 : Int32) + l1), .ref (jpt l0 0)], (jE0, M9))) 3 rfl ?_
          refine g_ia rfl (jk_ok (kd := 8) pl0 (by decide) (by decide) rfl rfl) (fun v10 => ?_)
          refine g_pure (c' := (58, [(2, .int v10), (0, .ref l0), (1, .int l1)], [.ref l0], (jE0, M9))) 2 rfl ?_
          refine g_gp rfl rfl rfl pl0 (jp_ok (kd := 8) pl0 (by decide) (by decide) rfl rfl).1 ?_
          refine g_pure (c' := (64, [(2, .int v10), (0, .ref l0), (1, .int l1)], [.int ((1 : Int32) + l1), .ref (jpt l0 0)], (jE0, M9))) 3 rfl ?_
          refine g_ia rfl (jk_ok (kd := 8) pl0 (by decide) (by decide) rfl rfl) (fun v11 => ?_)
          refine g_pure (c' := (67, [(3, .int v11), (2, .int v10), (0, .ref l0), (1, .int l1)], [.ref l0], (jE0, M9))) 2 rfl ?_
          refine g_gp rfl rfl rfl pl0 (jp_ok (kd := 8) pl0 (by decide) (by decide) rfl rfl).1 ?_
          refine g_pure (c' := (73, [(3, .int v11), (2, .int v10), (0, .ref l0), (1, .int l1)], [.int (10 : Int32), .ref (jpt l0 0), .int (10 : Int32), .ref (jpt l0 0)], (jE0, M9))) 2 rfl ?_
          refine g_ia rfl (jk_ok (kd := 8) pl0 (by decide) (by decide) rfl rfl) (fun v12 => ?_)
          refine g_pure (c' := (80, [(3, .int v11), (2, .int v10), (0, .ref l0), (1, .int l1)], [.int (v12 &&& (((1 : Int32) <<< (l1 &&& (31 : Int32))) ^^^ (-1 : Int32))), .int (10 : Int32), .ref (jpt l0 0)], (jE0, M9))) 6 rfl ?_
          refine g_is rfl (jk_ok (kd := 8) pl0 (by decide) (by decide) rfl rfl) (fun M13 => ?_)
          refine g_pure (c' := (82, [(3, .int v11), (2, .int v10), (0, .ref l0), (1, .int l1)], [.ref l0], (jE0, M13))) 1 rfl ?_
          refine g_gp rfl rfl rfl pl0 (jp_ok (kd := 8) pl0 (by decide) (by decide) rfl rfl).1 ?_
          refine g_pure (c' := (89, [(3, .int v11), (2, .int v10), (0, .ref l0), (1, .int l1)], [.int (0 : Int32), .int ((1 : Int32) + l1), .ref (jpt l0 0)], (jE0, M13))) 4 rfl ?_
          refine g_is rfl (jk_ok (kd := 8) pl0 (by decide) (by decide) rfl rfl) (fun M14 => ?_)
          refine g_pure (c' := (92, [(3, .int v11), (2, .int v10), (0, .ref l0), (1, .int l1)], [.int (-1 : Int32), .int v10], (jE0, M14))) 2 rfl ?_
          refine g_ic_eq (tgt := 152) rfl rfl (fun q15 => ?_) (fun q15 => ?_)
          · refine g_weakk (lv := [(0, .ref l0), (1, .int l1), (3, .int v11)]) ⟨rfl, rfl, rfl, trivial⟩ [0, 1, 3] rfl (by decide) [3, 2, 0, 1] rfl (by decide) ?_
            exact (c178_152 l0 l1 v11 M14 pl0)
          · refine g_pure (c' := (96, [(3, .int v11), (2, .int v10), (0, .ref l0), (1, .int l1)], [.ref l0], (jE0, M14))) 1 rfl ?_
            refine g_gp rfl rfl rfl pl0 (jp_ok (kd := 8) pl0 (by decide) (by decide) rfl rfl).1 ?_
            refine g_pure (c' := (104, [(3, .int v11), (2, .int v10), (0, .ref l0), (1, .int l1)], [.int (-1 : Int32), .int ((11 : Int32) + l1), .ref (jpt l0 0)], (jE0, M14))) 4 rfl ?_
            refine g_is rfl (jk_ok (kd := 8) pl0 (by decide) (by decide) rfl rfl) (fun M26 => ?_)
            refine g_pure (c' := (106, [(3, .int v11), (2, .int v10), (0, .ref l0), (1, .int l1)], [.ref l0], (jE0, M26))) 1 rfl ?_
            refine g_gp rfl rfl rfl pl0 (jp_ok (kd := 8) pl0 (by decide) (by decide) rfl rfl).1 ?_
            refine g_pure (c' := (114, [(3, .int v11), (2, .int v10), (0, .ref l0), (1, .int l1)], [.int (-1 : Int32), .int ((11 : Int32) + v10), .ref (jpt l0 0)], (jE0, M26))) 4 rfl ?_
            refine g_is rfl (jk_ok (kd := 8) pl0 (by decide) (by decide) rfl rfl) (fun M27 => ?_)
            refine g_pure (c' := (116, [(3, .int v11), (2, .int v10), (0, .ref l0), (1, .int l1)], [.ref l0], (jE0, M27))) 1 rfl ?_
            refine g_gp rfl rfl rfl pl0 (jp_ok (kd := 8) pl0 (by decide) (by decide) rfl rfl).1 ?_
            refine g_pure (c' := (120, [(3, .int v11), (2, .int v10), (0, .ref l0), (1, .int l1)], [.int v10, .ref (jpt l0 8)], (jE0, M27))) 1 rfl ?_
            refine g_ia rfl (jk_ok (kd := 8) pl0 (by decide) (by decide) rfl rfl) (fun v28 => ?_)
            refine g_pure (c' := (122, [(3, .int v11), (2, .int v10), (0, .ref l0), (1, .int l1)], [.int (2 : Int32), .int v28], (jE0, M27))) 1 rfl ?_
            refine g_ic_ne (tgt := 131) rfl rfl (fun q29 => ?_) (fun q29 => ?_)
            · refine g_pure (c' := (127, [(3, .int v11), (2, .int v10), (0, .ref l0), (1, .int l1)], [.int (2 : Int32), .int v11], (jE0, M27))) 2 rfl ?_
              refine g_d1 rfl (fun v30 => ?_)
              refine g_pure (c' := (132, [(3, .int v11), (2, .int v10), (0, .ref l0), (1, .int l1)], [.int v30], (jE0, M27))) 1 rfl ?_
              refine g_weakk (lv := [(0, .ref l0), (1, .int l1), (2, .int v10), (3, .int v11)]) ⟨rfl, rfl, rfl, rfl, trivial⟩ [0, 1, 2, 3] rfl (by decide) [3, 2, 0, 1] rfl (by decide) ?_
              exact (c178_132 l0 l1 v10 v11 v30 M27 pl0)
            · refine g_pure (c' := (132, [(3, .int v11), (2, .int v10), (0, .ref l0), (1, .int l1)], [.int (0 : Int32)], (jE0, M27))) 1 rfl ?_
              refine g_weakk (lv := [(0, .ref l0), (1, .int l1), (2, .int v10), (3, .int v11)]) ⟨rfl, rfl, rfl, rfl, trivial⟩ [0, 1, 2, 3] rfl (by decide) [3, 2, 0, 1] rfl (by decide) ?_
              exact (c178_132 l0 l1 v10 v11 (0 : Int32) M27 pl0)
/-- CometKin.bothLive -/
def f106 (M : JM) (l0 : Nat) (l1 : Int32) (l2 : Int32) : Option Int32 := ((f101 (M (jpt l0 3) 1) l1).bind fun v1 => (if v1 = (0 : Int32) then (some (0 : Int32)) else ((f101 (M (jpt l0 3) 1) l2).bind fun v3 => (if v3 = (0 : Int32) then (some (0 : Int32)) else (some (1 : Int32))))))
set_option maxRecDepth 100000 in
theorem c106 {xs : Option (List Int32)} {M : JM} (l0 : Nat) (l1 : Int32) (l2 : Int32) (pl0 : jok jE0 l0 6 = true) : JG xs 1 106 (f106 M l0 l1 l2) (fun x r => r = (some (.int x), (jE0, M))) (0, [(0, .ref l0), (1, .int l1), (2, .int l2)], [], (jE0, M)) := by
    unfold f106
    refine g_pure (c' := (1, [(0, .ref l0), (1, .int l1), (2, .int l2)], [.ref l0], (jE0, M))) 1 rfl ?_
    refine g_gp rfl rfl rfl pl0 (jp_ok (kd := 2) pl0 (by decide) (by decide) rfl rfl).1 ?_
    refine g_gf (ci := 2) (k := 1) rfl rfl rfl (jk_ok (kd := 2) pl0 (by decide) (by decide) rfl rfl) ?_
    refine g_pure (c' := (8, [(0, .ref l0), (1, .int l1), (2, .int l2)], [.int l1, .int (M (jpt l0 3) 1)], (jE0, M))) 1 rfl ?_
    refine g_cI rfl (jc_s rfl rfl) (c101 (M (jpt l0 3) 1) l1) (by decide) (fun v1 qv1 => ?_)
    refine g_if_eq (tgt := 32) rfl rfl (fun q2 => ?_) (fun q2 => ?_)
    · refine g_pure (c' := (33, [(0, .ref l0), (1, .int l1), (2, .int l2)], [.int (0 : Int32)], (jE0, M))) 1 rfl ?_
      exact g_ret rfl rfl (fun _ h => h)
    · refine g_pure (c' := (15, [(0, .ref l0), (1, .int l1), (2, .int l2)], [.ref l0], (jE0, M))) 1 rfl ?_
      refine g_gp rfl rfl rfl pl0 (jp_ok (kd := 2) pl0 (by decide) (by decide) rfl rfl).1 ?_
      refine g_gf (ci := 2) (k := 1) rfl rfl rfl (jk_ok (kd := 2) pl0 (by decide) (by decide) rfl rfl) ?_
      refine g_pure (c' := (22, [(0, .ref l0), (1, .int l1), (2, .int l2)], [.int l2, .int (M (jpt l0 3) 1)], (jE0, M))) 1 rfl ?_
      refine g_cI rfl (jc_s rfl rfl) (c101 (M (jpt l0 3) 1) l2) (by decide) (fun v3 qv3 => ?_)
      refine g_if_eq (tgt := 32) rfl rfl (fun q4 => ?_) (fun q4 => ?_)
      · refine g_pure (c' := (33, [(0, .ref l0), (1, .int l1), (2, .int l2)], [.int (0 : Int32)], (jE0, M))) 1 rfl ?_
        exact g_ret rfl rfl (fun _ h => h)
      · refine g_pure (c' := (33, [(0, .ref l0), (1, .int l1), (2, .int l2)], [.int (1 : Int32)], (jE0, M))) 2 rfl ?_
        exact g_ret rfl rfl (fun _ h => h)
/-- CometKin$Life.addDebt -/
def f37  (l0 : Nat) (l1 : Int32) (l2 : Int32) (l3 : Int32) (M : JM) : Option (Int32 × JM) := ((some (jup M l0 2 ((M l0 2) + (1 : Int32)))).bind fun M1 => ((f43 (jpt l0 6) (M l0 2) l1 M1).bind fun M2 => ((f43 (jpt l0 7) (M l0 2) l2 M2).bind fun M3 => ((f43 (jpt l0 8) (M l0 2) l3 M3).bind fun M4 => ((f43 (jpt l0 9) (M l0 2) (M4 l0 0) M4).bind fun M5 => (some ((M l0 2), M5)))))))
set_option maxRecDepth 100000 in
theorem c37 {xs : Option (List Int32)} (l0 : Nat) (l1 : Int32) (l2 : Int32) (l3 : Int32) (M : JM) (pl0 : jok jE0 l0 2 = true) : JG xs 1 37 (f37 l0 l1 l2 l3 M) (fun x r => r = (some (.int x.1), (jE0, x.2))) (0, [(0, .ref l0), (1, .int l1), (2, .int l2), (3, .int l3)], [], (jE0, M)) := by
    unfold f37
    refine g_pure (c' := (1, [(0, .ref l0), (1, .int l1), (2, .int l2), (3, .int l3)], [.ref l0], (jE0, M))) 1 rfl ?_
    refine g_gf (ci := 2) (k := 2) rfl rfl rfl pl0 ?_
    refine g_pure (c' := (8, [(4, .int (M l0 2)), (0, .ref l0), (1, .int l1), (2, .int l2), (3, .int l3)], [.ref l0, .ref l0], (jE0, M))) 3 rfl ?_
    refine g_gf (ci := 2) (k := 2) rfl rfl rfl pl0 ?_
    refine g_pure (c' := (13, [(4, .int (M l0 2)), (0, .ref l0), (1, .int l1), (2, .int l2), (3, .int l3)], [.int ((M l0 2) + (1 : Int32)), .ref l0], (jE0, M))) 2 rfl ?_
    refine g_pf (ci := 2) (k := 2) rfl rfl rfl rfl pl0 (fun M1 => ?_)
    refine g_pure (c' := (17, [(4, .int (M l0 2)), (0, .ref l0), (1, .int l1), (2, .int l2), (3, .int l3)], [.ref l0], (jE0, M1))) 1 rfl ?_
    refine g_gp rfl rfl rfl pl0 (jp_ok (kd := 3) pl0 (by decide) (by decide) rfl rfl).1 ?_
    refine g_pure (c' := (23, [(4, .int (M l0 2)), (0, .ref l0), (1, .int l1), (2, .int l2), (3, .int l3)], [.int l1, .int (M l0 2), .ref (jpt l0 6)], (jE0, M1))) 2 rfl ?_
    refine g_wV rfl (jc_v rfl rfl (jv_o (jk_ok (kd := 3) pl0 (by decide) (by decide) rfl rfl) rfl) rfl) (c43 (jpt l0 6) (M l0 2) l1 M1 (jk_ok (kd := 3) pl0 (by decide) (by decide) rfl rfl)) (by decide) (fun M2 => ?_)
    refine g_pure (c' := (27, [(4, .int (M l0 2)), (0, .ref l0), (1, .int l1), (2, .int l2), (3, .int l3)], [.ref l0], (jE0, M2))) 1 rfl ?_
    refine g_gp rfl rfl rfl pl0 (jp_ok (kd := 3) pl0 (by decide) (by decide) rfl rfl).1 ?_
    refine g_pure (c' := (33, [(4, .int (M l0 2)), (0, .ref l0), (1, .int l1), (2, .int l2), (3, .int l3)], [.int l2, .int (M l0 2), .ref (jpt l0 7)], (jE0, M2))) 2 rfl ?_
    refine g_wV rfl (jc_v rfl rfl (jv_o (jk_ok (kd := 3) pl0 (by decide) (by decide) rfl rfl) rfl) rfl) (c43 (jpt l0 7) (M l0 2) l2 M2 (jk_ok (kd := 3) pl0 (by decide) (by decide) rfl rfl)) (by decide) (fun M3 => ?_)
    refine g_pure (c' := (37, [(4, .int (M l0 2)), (0, .ref l0), (1, .int l1), (2, .int l2), (3, .int l3)], [.ref l0], (jE0, M3))) 1 rfl ?_
    refine g_gp rfl rfl rfl pl0 (jp_ok (kd := 3) pl0 (by decide) (by decide) rfl rfl).1 ?_
    refine g_pure (c' := (43, [(4, .int (M l0 2)), (0, .ref l0), (1, .int l1), (2, .int l2), (3, .int l3)], [.int l3, .int (M l0 2), .ref (jpt l0 8)], (jE0, M3))) 2 rfl ?_
    refine g_wV rfl (jc_v rfl rfl (jv_o (jk_ok (kd := 3) pl0 (by decide) (by decide) rfl rfl) rfl) rfl) (c43 (jpt l0 8) (M l0 2) l3 M3 (jk_ok (kd := 3) pl0 (by decide) (by decide) rfl rfl)) (by decide) (fun M4 => ?_)
    refine g_pure (c' := (47, [(4, .int (M l0 2)), (0, .ref l0), (1, .int l1), (2, .int l2), (3, .int l3)], [.ref l0], (jE0, M4))) 1 rfl ?_
    refine g_gp rfl rfl rfl pl0 (jp_ok (kd := 3) pl0 (by decide) (by decide) rfl rfl).1 ?_
    refine g_pure (c' := (53, [(4, .int (M l0 2)), (0, .ref l0), (1, .int l1), (2, .int l2), (3, .int l3)], [.ref l0, .int (M l0 2), .ref (jpt l0 9)], (jE0, M4))) 2 rfl ?_
    refine g_gf (ci := 2) (k := 0) rfl rfl rfl pl0 ?_
    refine g_wV rfl (jc_v rfl rfl (jv_o (jk_ok (kd := 3) pl0 (by decide) (by decide) rfl rfl) rfl) rfl) (c43 (jpt l0 9) (M l0 2) (M4 l0 0) M4 (jk_ok (kd := 3) pl0 (by decide) (by decide) rfl rfl)) (by decide) (fun M5 => ?_)
    refine g_pure (c' := (61, [(4, .int (M l0 2)), (0, .ref l0), (1, .int l1), (2, .int l2), (3, .int l3)], [.int (M l0 2)], (jE0, M5))) 1 rfl ?_
    exact g_ret rfl rfl (fun _ h => h)
/-- CometKin.owe -/
def f82  (l0 : Nat) (l1 : Int32) (l2 : Int32) (l3 : Int32) (M : JM) : Option (Int32 × JM) := ((f4 M (jpt l0 1) l1 l2).bind fun v1 => (if v1 = (0 : Int32) then (some ((-2 : Int32), M)) else (if l3 < (1 : Int32) then (some ((-3 : Int32), M)) else (if (99 : Int32) < l3 then (some ((-3 : Int32), M)) else ((f106 M l0 l1 l2).bind fun v5 => (if v5 = (0 : Int32) then (some ((-4 : Int32), M)) else (if (M (jpt l0 3) 2) < (8 : Int32) then ((f105 l0 M).bind fun M8 => ((f37 (jpt l0 3) l1 l2 l3 M8).bind fun z11 => (some (z11.1, z11.2)))) else (some ((-5 : Int32), M)))))))))
set_option maxRecDepth 100000 in
theorem c82 {xs : Option (List Int32)} (l0 : Nat) (l1 : Int32) (l2 : Int32) (l3 : Int32) (M : JM) (pl0 : jok jE0 l0 6 = true) : JG xs 5 82 (f82 l0 l1 l2 l3 M) (fun x r => r = (some (.int x.1), (jE0, x.2))) (0, [(0, .ref l0), (1, .int l1), (2, .int l2), (3, .int l3)], [], (jE0, M)) := by
    unfold f82
    refine g_pure (c' := (1, [(0, .ref l0), (1, .int l1), (2, .int l2), (3, .int l3)], [.ref l0], (jE0, M))) 1 rfl ?_
    refine g_gp rfl rfl rfl pl0 (jp_ok (kd := 0) pl0 (by decide) (by decide) rfl rfl).1 ?_
    refine g_pure (c' := (6, [(0, .ref l0), (1, .int l1), (2, .int l2), (3, .int l3)], [.int l2, .int l1, .ref (jpt l0 1)], (jE0, M))) 2 rfl ?_
    refine g_cI rfl (jc_v rfl rfl (jv_o (jk_ok (kd := 0) pl0 (by decide) (by decide) rfl rfl) rfl) rfl) (c4 (jpt l0 1) l1 l2 (jk_ok (kd := 0) pl0 (by decide) (by decide) rfl rfl)) (by decide) (fun v1 qv1 => ?_)
    refine g_if_ne (tgt := 15) rfl rfl (fun q2 => ?_) (fun q2 => ?_)
    · refine g_pure (c' := (14, [(0, .ref l0), (1, .int l1), (2, .int l2), (3, .int l3)], [.int (-2 : Int32)], (jE0, M))) 1 rfl ?_
      exact g_ret rfl rfl (fun _ h => h)
    · refine g_pure (c' := (17, [(0, .ref l0), (1, .int l1), (2, .int l2), (3, .int l3)], [.int (1 : Int32), .int l3], (jE0, M))) 2 rfl ?_
      refine g_ic_lt (tgt := 26) rfl rfl (fun q3 => ?_) (fun q3 => ?_)
      · refine g_pure (c' := (28, [(0, .ref l0), (1, .int l1), (2, .int l2), (3, .int l3)], [.int (-3 : Int32)], (jE0, M))) 1 rfl ?_
        exact g_ret rfl rfl (fun _ h => h)
      · refine g_pure (c' := (23, [(0, .ref l0), (1, .int l1), (2, .int l2), (3, .int l3)], [.int (99 : Int32), .int l3], (jE0, M))) 2 rfl ?_
        refine g_ic_le (tgt := 29) rfl rfl (fun q4 => ?_) (fun q4 => ?_)
        · refine g_pure (c' := (28, [(0, .ref l0), (1, .int l1), (2, .int l2), (3, .int l3)], [.int (-3 : Int32)], (jE0, M))) 1 rfl ?_
          exact g_ret rfl rfl (fun _ h => h)
        · refine g_pure (c' := (32, [(0, .ref l0), (1, .int l1), (2, .int l2), (3, .int l3)], [.int l2, .int l1, .ref l0], (jE0, M))) 3 rfl ?_
          refine g_cI rfl (jc_v rfl rfl (jv_o pl0 rfl) rfl) (c106 l0 l1 l2 pl0) (by decide) (fun v5 qv5 => ?_)
          refine g_if_ne (tgt := 41) rfl rfl (fun q6 => ?_) (fun q6 => ?_)
          · refine g_pure (c' := (40, [(0, .ref l0), (1, .int l1), (2, .int l2), (3, .int l3)], [.int (-4 : Int32)], (jE0, M))) 1 rfl ?_
            exact g_ret rfl rfl (fun _ h => h)
          · refine g_pure (c' := (42, [(0, .ref l0), (1, .int l1), (2, .int l2), (3, .int l3)], [.ref l0], (jE0, M))) 1 rfl ?_
            refine g_gp rfl rfl rfl pl0 (jp_ok (kd := 2) pl0 (by decide) (by decide) rfl rfl).1 ?_
            refine g_gf (ci := 2) (k := 2) rfl rfl rfl (jk_ok (kd := 2) pl0 (by decide) (by decide) rfl rfl) ?_
            refine g_pure (c' := (50, [(0, .ref l0), (1, .int l1), (2, .int l2), (3, .int l3)], [.int (8 : Int32), .int (M (jpt l0 3) 2)], (jE0, M))) 1 rfl ?_
            refine g_ic_lt (tgt := 56) rfl rfl (fun q7 => ?_) (fun q7 => ?_)
            · refine g_pure (c' := (57, [(0, .ref l0), (1, .int l1), (2, .int l2), (3, .int l3)], [.ref l0], (jE0, M))) 1 rfl ?_
              refine g_wV rfl (jc_v rfl rfl (jv_o pl0 rfl) rfl) (c105 l0 M pl0) (by decide) (fun M8 => ?_)
              refine g_pure (c' := (61, [(0, .ref l0), (1, .int l1), (2, .int l2), (3, .int l3)], [.ref l0], (jE0, M8))) 1 rfl ?_
              refine g_gp rfl rfl rfl pl0 (jp_ok (kd := 2) pl0 (by decide) (by decide) rfl rfl).1 ?_
              refine g_pure (c' := (67, [(0, .ref l0), (1, .int l1), (2, .int l2), (3, .int l3)], [.int l3, .int l2, .int l1, .ref (jpt l0 3)], (jE0, M8))) 3 rfl ?_
              refine g_wI rfl (jc_v rfl rfl (jv_o (jk_ok (kd := 2) pl0 (by decide) (by decide) rfl rfl) rfl) rfl) (c37 (jpt l0 3) l1 l2 l3 M8 (jk_ok (kd := 2) pl0 (by decide) (by decide) rfl rfl)) (by decide) (fun v10 M9 qv10 => ?_)
              exact g_ret rfl rfl (fun _ h => h)
            · refine g_pure (c' := (55, [(0, .ref l0), (1, .int l1), (2, .int l2), (3, .int l3)], [.int (-5 : Int32)], (jE0, M))) 1 rfl ?_
              exact g_ret rfl rfl (fun _ h => h)
/-- CometKinModel.liveBoth -/
def f179 (M : JM) (l0 : Nat) (l1 : Int32) (l2 : Int32) : Option Int32 := ((jla (jpt l0 0) (10 : Int32) M).bind fun v1 => ((f126 v1 l1).bind fun v2 => (if v2 = (0 : Int32) then (some (0 : Int32)) else ((jla (jpt l0 0) (10 : Int32) M).bind fun v4 => ((f126 v4 l2).bind fun v5 => (if v5 = (0 : Int32) then (some (0 : Int32)) else (some (1 : Int32))))))))
set_option maxRecDepth 100000 in
theorem c179 {xs : Option (List Int32)} {M : JM} (l0 : Nat) (l1 : Int32) (l2 : Int32) (pl0 : jok jE0 l0 7 = true) : JG xs 1 179 (f179 M l0 l1 l2) (fun x r => r = (some (.int x), (jE0, M))) (0, [(0, .ref l0), (1, .int l1), (2, .int l2)], [], (jE0, M)) := by
    unfold f179
    refine g_pure (c' := (1, [(0, .ref l0), (1, .int l1), (2, .int l2)], [.ref l0], (jE0, M))) 1 rfl ?_
    refine g_gp rfl rfl rfl pl0 (jp_ok (kd := 8) pl0 (by decide) (by decide) rfl rfl).1 ?_
    refine g_pure (c' := (6, [(0, .ref l0), (1, .int l1), (2, .int l2)], [.int (10 : Int32), .ref (jpt l0 0)], (jE0, M))) 1 rfl ?_
    refine g_ia rfl (jk_ok (kd := 8) pl0 (by decide) (by decide) rfl rfl) (fun v1 => ?_)
    refine g_pure (c' := (8, [(0, .ref l0), (1, .int l1), (2, .int l2)], [.int l1, .int v1], (jE0, M))) 1 rfl ?_
    refine g_cI rfl (jc_s rfl rfl) (c126 v1 l1) (by decide) (fun v2 qv2 => ?_)
    refine g_if_eq (tgt := 32) rfl rfl (fun q3 => ?_) (fun q3 => ?_)
    · refine g_pure (c' := (33, [(0, .ref l0), (1, .int l1), (2, .int l2)], [.int (0 : Int32)], (jE0, M))) 1 rfl ?_
      exact g_ret rfl rfl (fun _ h => h)
    · refine g_pure (c' := (15, [(0, .ref l0), (1, .int l1), (2, .int l2)], [.ref l0], (jE0, M))) 1 rfl ?_
      refine g_gp rfl rfl rfl pl0 (jp_ok (kd := 8) pl0 (by decide) (by decide) rfl rfl).1 ?_
      refine g_pure (c' := (20, [(0, .ref l0), (1, .int l1), (2, .int l2)], [.int (10 : Int32), .ref (jpt l0 0)], (jE0, M))) 1 rfl ?_
      refine g_ia rfl (jk_ok (kd := 8) pl0 (by decide) (by decide) rfl rfl) (fun v4 => ?_)
      refine g_pure (c' := (22, [(0, .ref l0), (1, .int l1), (2, .int l2)], [.int l2, .int v4], (jE0, M))) 1 rfl ?_
      refine g_cI rfl (jc_s rfl rfl) (c126 v4 l2) (by decide) (fun v5 qv5 => ?_)
      refine g_if_eq (tgt := 32) rfl rfl (fun q6 => ?_) (fun q6 => ?_)
      · refine g_pure (c' := (33, [(0, .ref l0), (1, .int l1), (2, .int l2)], [.int (0 : Int32)], (jE0, M))) 1 rfl ?_
        exact g_ret rfl rfl (fun _ h => h)
      · refine g_pure (c' := (33, [(0, .ref l0), (1, .int l1), (2, .int l2)], [.int (1 : Int32)], (jE0, M))) 2 rfl ?_
        exact g_ret rfl rfl (fun _ h => h)
/-- CometKinModel.owe -/
def f180  (l0 : Nat) (l1 : Int32) (l2 : Int32) (l3 : Int32) (M : JM) : Option (Int32 × JM) := ((f160 M l0 l1 l2).bind fun v1 => (if v1 = (0 : Int32) then (some ((-2 : Int32), M)) else ((f125 ((l3).toInt64) (1 : Int64) (99 : Int64)).bind fun v3 => (if v3 = (0 : Int32) then (some ((-3 : Int32), M)) else ((f179 M l0 l1 l2).bind fun v5 => (if v5 = (0 : Int32) then (some ((-4 : Int32), M)) else ((jla (jpt l0 0) (20 : Int32) M).bind fun v7 => (if v7 = (8 : Int32) then (some ((-5 : Int32), M)) else ((f170 l0 M).bind fun M9 => ((jla (jpt l0 0) (20 : Int32) M9).bind fun v10 => ((jsa (jpt l0 0) ((21 : Int32) + ((5 : Int32) * v10)) l1 M9).bind fun M11 => ((jsa (jpt l0 0) (((21 : Int32) + ((5 : Int32) * v10)) + (1 : Int32)) l2 M11).bind fun M12 => ((jsa (jpt l0 0) (((21 : Int32) + ((5 : Int32) * v10)) + (2 : Int32)) l3 M12).bind fun M13 => ((jla (jpt l0 0) (0 : Int32) M13).bind fun v14 => ((jsa (jpt l0 0) (((21 : Int32) + ((5 : Int32) * v10)) + (3 : Int32)) v14 M13).bind fun M15 => ((jsa (jpt l0 0) (((21 : Int32) + ((5 : Int32) * v10)) + (4 : Int32)) (0 : Int32) M15).bind fun M16 => ((jla (jpt l0 0) (20 : Int32) M16).bind fun v17 => ((jsa (jpt l0 0) (20 : Int32) (v17 + (1 : Int32)) M16).bind fun M18 => ((jla (jpt l0 0) (20 : Int32) M18).bind fun v19 => (some ((v19 - (1 : Int32)), M18)))))))))))))))))))))
set_option maxRecDepth 100000 in
theorem c180 {xs : Option (List Int32)} (l0 : Nat) (l1 : Int32) (l2 : Int32) (l3 : Int32) (M : JM) (pl0 : jok jE0 l0 7 = true) : JG xs 3 180 (f180 l0 l1 l2 l3 M) (fun x r => r = (some (.int x.1), (jE0, x.2))) (0, [(0, .ref l0), (1, .int l1), (2, .int l2), (3, .int l3)], [], (jE0, M)) := by
    unfold f180
    refine g_pure (c' := (3, [(0, .ref l0), (1, .int l1), (2, .int l2), (3, .int l3)], [.int l2, .int l1, .ref l0], (jE0, M))) 3 rfl ?_
    refine g_cI rfl (jc_v rfl rfl (jv_o pl0 rfl) rfl) (c160 l0 l1 l2 pl0) (by decide) (fun v1 qv1 => ?_)
    refine g_if_ne (tgt := 12) rfl rfl (fun q2 => ?_) (fun q2 => ?_)
    · refine g_pure (c' := (11, [(0, .ref l0), (1, .int l1), (2, .int l2), (3, .int l3)], [.int (-2 : Int32)], (jE0, M))) 1 rfl ?_
      exact g_ret rfl rfl (fun _ h => h)
    · refine g_pure (c' := (18, [(0, .ref l0), (1, .int l1), (2, .int l2), (3, .int l3)], [.long (99 : Int64), .long (1 : Int64), .long ((l3).toInt64)], (jE0, M))) 4 rfl ?_
      refine g_cI rfl (jc_s rfl rfl) (c125 ((l3).toInt64) (1 : Int64) (99 : Int64)) (by decide) (fun v3 qv3 => ?_)
      refine g_if_ne (tgt := 27) rfl rfl (fun q4 => ?_) (fun q4 => ?_)
      · refine g_pure (c' := (26, [(0, .ref l0), (1, .int l1), (2, .int l2), (3, .int l3)], [.int (-3 : Int32)], (jE0, M))) 1 rfl ?_
        exact g_ret rfl rfl (fun _ h => h)
      · refine g_pure (c' := (30, [(0, .ref l0), (1, .int l1), (2, .int l2), (3, .int l3)], [.int l2, .int l1, .ref l0], (jE0, M))) 3 rfl ?_
        refine g_cI rfl (jc_v rfl rfl (jv_o pl0 rfl) rfl) (c179 l0 l1 l2 pl0) (by decide) (fun v5 qv5 => ?_)
        refine g_if_ne (tgt := 39) rfl rfl (fun q6 => ?_) (fun q6 => ?_)
        · refine g_pure (c' := (38, [(0, .ref l0), (1, .int l1), (2, .int l2), (3, .int l3)], [.int (-4 : Int32)], (jE0, M))) 1 rfl ?_
          exact g_ret rfl rfl (fun _ h => h)
        · refine g_pure (c' := (40, [(0, .ref l0), (1, .int l1), (2, .int l2), (3, .int l3)], [.ref l0], (jE0, M))) 1 rfl ?_
          refine g_gp rfl rfl rfl pl0 (jp_ok (kd := 8) pl0 (by decide) (by decide) rfl rfl).1 ?_
          refine g_pure (c' := (45, [(0, .ref l0), (1, .int l1), (2, .int l2), (3, .int l3)], [.int (20 : Int32), .ref (jpt l0 0)], (jE0, M))) 1 rfl ?_
          refine g_ia rfl (jk_ok (kd := 8) pl0 (by decide) (by decide) rfl rfl) (fun v7 => ?_)
          refine g_pure (c' := (48, [(0, .ref l0), (1, .int l1), (2, .int l2), (3, .int l3)], [.int (8 : Int32), .int v7], (jE0, M))) 1 rfl ?_
          refine g_ic_ne (tgt := 54) rfl rfl (fun q8 => ?_) (fun q8 => ?_)
          · refine g_pure (c' := (53, [(0, .ref l0), (1, .int l1), (2, .int l2), (3, .int l3)], [.int (-5 : Int32)], (jE0, M))) 1 rfl ?_
            exact g_ret rfl rfl (fun _ h => h)
          · refine g_pure (c' := (55, [(0, .ref l0), (1, .int l1), (2, .int l2), (3, .int l3)], [.ref l0], (jE0, M))) 1 rfl ?_
            refine g_wV rfl (jc_v rfl rfl (jv_o pl0 rfl) rfl) (c170 l0 M pl0) (by decide) (fun M9 => ?_)
            refine g_pure (c' := (62, [(0, .ref l0), (1, .int l1), (2, .int l2), (3, .int l3)], [.ref l0, .int (5 : Int32), .int (21 : Int32)], (jE0, M9))) 3 rfl ?_
            refine g_gp rfl rfl rfl pl0 (jp_ok (kd := 8) pl0 (by decide) (by decide) rfl rfl).1 ?_
            refine g_pure (c' := (67, [(0, .ref l0), (1, .int l1), (2, .int l2), (3, .int l3)], [.int (20 : Int32), .ref (jpt l0 0), .int (5 : Int32), .int (21 : Int32)], (jE0, M9))) 1 rfl ?_
            refine g_ia rfl (jk_ok (kd := 8) pl0 (by decide) (by decide) rfl rfl) (fun v10 => ?_)
            refine g_pure (c' := (73, [(4, .int ((21 : Int32) + ((5 : Int32) * v10))), (0, .ref l0), (1, .int l1), (2, .int l2), (3, .int l3)], [.ref l0], (jE0, M9))) 4 rfl ?_
            refine g_gp rfl rfl rfl pl0 (jp_ok (kd := 8) pl0 (by decide) (by decide) rfl rfl).1 ?_
            refine g_pure (c' := (79, [(4, .int ((21 : Int32) + ((5 : Int32) * v10))), (0, .ref l0), (1, .int l1), (2, .int l2), (3, .int l3)], [.int l1, .int ((21 : Int32) + ((5 : Int32) * v10)), .ref (jpt l0 0)], (jE0, M9))) 2 rfl ?_
            refine g_is rfl (jk_ok (kd := 8) pl0 (by decide) (by decide) rfl rfl) (fun M11 => ?_)
            refine g_pure (c' := (81, [(4, .int ((21 : Int32) + ((5 : Int32) * v10))), (0, .ref l0), (1, .int l1), (2, .int l2), (3, .int l3)], [.ref l0], (jE0, M11))) 1 rfl ?_
            refine g_gp rfl rfl rfl pl0 (jp_ok (kd := 8) pl0 (by decide) (by decide) rfl rfl).1 ?_
            refine g_pure (c' := (89, [(4, .int ((21 : Int32) + ((5 : Int32) * v10))), (0, .ref l0), (1, .int l1), (2, .int l2), (3, .int l3)], [.int l2, .int (((21 : Int32) + ((5 : Int32) * v10)) + (1 : Int32)), .ref (jpt l0 0)], (jE0, M11))) 4 rfl ?_
            refine g_is rfl (jk_ok (kd := 8) pl0 (by decide) (by decide) rfl rfl) (fun M12 => ?_)
            refine g_pure (c' := (91, [(4, .int ((21 : Int32) + ((5 : Int32) * v10))), (0, .ref l0), (1, .int l1), (2, .int l2), (3, .int l3)], [.ref l0], (jE0, M12))) 1 rfl ?_
            refine g_gp rfl rfl rfl pl0 (jp_ok (kd := 8) pl0 (by decide) (by decide) rfl rfl).1 ?_
            refine g_pure (c' := (99, [(4, .int ((21 : Int32) + ((5 : Int32) * v10))), (0, .ref l0), (1, .int l1), (2, .int l2), (3, .int l3)], [.int l3, .int (((21 : Int32) + ((5 : Int32) * v10)) + (2 : Int32)), .ref (jpt l0 0)], (jE0, M12))) 4 rfl ?_
            refine g_is rfl (jk_ok (kd := 8) pl0 (by decide) (by decide) rfl rfl) (fun M13 => ?_)
            refine g_pure (c' := (101, [(4, .int ((21 : Int32) + ((5 : Int32) * v10))), (0, .ref l0), (1, .int l1), (2, .int l2), (3, .int l3)], [.ref l0], (jE0, M13))) 1 rfl ?_
            refine g_gp rfl rfl rfl pl0 (jp_ok (kd := 8) pl0 (by decide) (by decide) rfl rfl).1 ?_
            refine g_pure (c' := (109, [(4, .int ((21 : Int32) + ((5 : Int32) * v10))), (0, .ref l0), (1, .int l1), (2, .int l2), (3, .int l3)], [.ref l0, .int (((21 : Int32) + ((5 : Int32) * v10)) + (3 : Int32)), .ref (jpt l0 0)], (jE0, M13))) 4 rfl ?_
            refine g_gp rfl rfl rfl pl0 (jp_ok (kd := 8) pl0 (by decide) (by decide) rfl rfl).1 ?_
            refine g_pure (c' := (113, [(4, .int ((21 : Int32) + ((5 : Int32) * v10))), (0, .ref l0), (1, .int l1), (2, .int l2), (3, .int l3)], [.int (0 : Int32), .ref (jpt l0 0), .int (((21 : Int32) + ((5 : Int32) * v10)) + (3 : Int32)), .ref (jpt l0 0)], (jE0, M13))) 1 rfl ?_
            refine g_ia rfl (jk_ok (kd := 8) pl0 (by decide) (by decide) rfl rfl) (fun v14 => ?_)
            refine g_is rfl (jk_ok (kd := 8) pl0 (by decide) (by decide) rfl rfl) (fun M15 => ?_)
            refine g_pure (c' := (116, [(4, .int ((21 : Int32) + ((5 : Int32) * v10))), (0, .ref l0), (1, .int l1), (2, .int l2), (3, .int l3)], [.ref l0], (jE0, M15))) 1 rfl ?_
            refine g_gp rfl rfl rfl pl0 (jp_ok (kd := 8) pl0 (by decide) (by decide) rfl rfl).1 ?_
            refine g_pure (c' := (124, [(4, .int ((21 : Int32) + ((5 : Int32) * v10))), (0, .ref l0), (1, .int l1), (2, .int l2), (3, .int l3)], [.int (0 : Int32), .int (((21 : Int32) + ((5 : Int32) * v10)) + (4 : Int32)), .ref (jpt l0 0)], (jE0, M15))) 4 rfl ?_
            refine g_is rfl (jk_ok (kd := 8) pl0 (by decide) (by decide) rfl rfl) (fun M16 => ?_)
            refine g_pure (c' := (126, [(4, .int ((21 : Int32) + ((5 : Int32) * v10))), (0, .ref l0), (1, .int l1), (2, .int l2), (3, .int l3)], [.ref l0], (jE0, M16))) 1 rfl ?_
            refine g_gp rfl rfl rfl pl0 (jp_ok (kd := 8) pl0 (by decide) (by decide) rfl rfl).1 ?_
            refine g_pure (c' := (132, [(4, .int ((21 : Int32) + ((5 : Int32) * v10))), (0, .ref l0), (1, .int l1), (2, .int l2), (3, .int l3)], [.int (20 : Int32), .ref (jpt l0 0), .int (20 : Int32), .ref (jpt l0 0)], (jE0, M16))) 2 rfl ?_
            refine g_ia rfl (jk_ok (kd := 8) pl0 (by decide) (by decide) rfl rfl) (fun v17 => ?_)
            refine g_pure (c' := (135, [(4, .int ((21 : Int32) + ((5 : Int32) * v10))), (0, .ref l0), (1, .int l1), (2, .int l2), (3, .int l3)], [.int (v17 + (1 : Int32)), .int (20 : Int32), .ref (jpt l0 0)], (jE0, M16))) 2 rfl ?_
            refine g_is rfl (jk_ok (kd := 8) pl0 (by decide) (by decide) rfl rfl) (fun M18 => ?_)
            refine g_pure (c' := (137, [(4, .int ((21 : Int32) + ((5 : Int32) * v10))), (0, .ref l0), (1, .int l1), (2, .int l2), (3, .int l3)], [.ref l0], (jE0, M18))) 1 rfl ?_
            refine g_gp rfl rfl rfl pl0 (jp_ok (kd := 8) pl0 (by decide) (by decide) rfl rfl).1 ?_
            refine g_pure (c' := (142, [(4, .int ((21 : Int32) + ((5 : Int32) * v10))), (0, .ref l0), (1, .int l1), (2, .int l2), (3, .int l3)], [.int (20 : Int32), .ref (jpt l0 0)], (jE0, M18))) 1 rfl ?_
            refine g_ia rfl (jk_ok (kd := 8) pl0 (by decide) (by decide) rfl rfl) (fun v19 => ?_)
            refine g_pure (c' := (145, [(4, .int ((21 : Int32) + ((5 : Int32) * v10))), (0, .ref l0), (1, .int l1), (2, .int l2), (3, .int l3)], [.int (v19 - (1 : Int32))], (jE0, M18))) 2 rfl ?_
            exact g_ret rfl rfl (fun _ h => h)
/-- CometKin$Life.hasDebt -/
def f36 (M : JM) (l0 : Nat) (l1 : Int32) : Option Int32 := (if l1 < (0 : Int32) then (some (0 : Int32)) else (if l1 < (M l0 2) then (some (1 : Int32)) else (some (0 : Int32))))
set_option maxRecDepth 100000 in
theorem c36 {xs : Option (List Int32)} {M : JM} (l0 : Nat) (l1 : Int32) (pl0 : jok jE0 l0 2 = true) : JG xs 0 36 (f36 M l0 l1) (fun x r => r = (some (.int x), (jE0, M))) (0, [(0, .ref l0), (1, .int l1)], [], (jE0, M)) := by
    unfold f36
    refine g_pure (c' := (1, [(0, .ref l0), (1, .int l1)], [.int l1], (jE0, M))) 1 rfl ?_
    refine g_if_lt (tgt := 16) rfl rfl (fun q1 => ?_) (fun q1 => ?_)
    · refine g_pure (c' := (17, [(0, .ref l0), (1, .int l1)], [.int (0 : Int32)], (jE0, M))) 1 rfl ?_
      exact g_ret rfl rfl (fun _ h => h)
    · refine g_pure (c' := (6, [(0, .ref l0), (1, .int l1)], [.ref l0, .int l1], (jE0, M))) 2 rfl ?_
      refine g_gf (ci := 2) (k := 2) rfl rfl rfl pl0 ?_
      refine g_ic_ge (tgt := 16) rfl rfl (fun q2 => ?_) (fun q2 => ?_)
      · refine g_pure (c' := (17, [(0, .ref l0), (1, .int l1)], [.int (1 : Int32)], (jE0, M))) 2 rfl ?_
        exact g_ret rfl rfl (fun _ h => h)
      · refine g_pure (c' := (17, [(0, .ref l0), (1, .int l1)], [.int (0 : Int32)], (jE0, M))) 1 rfl ?_
        exact g_ret rfl rfl (fun _ h => h)
def f17_83 (M : JM) (h8 : Nat → Int32 → Int32 → Int32 → Int32 → Int32 → Option Int32) (l0 : Nat) (l1 : Int32) (l2 : Int32) (l3 : Int32) (l4 : Int32) (l5 : Int32) : Option Int32 := (h8 l0 l1 l2 l3 l4 (l5 + (1 : Int32)))
set_option maxRecDepth 100000 in
theorem c17_83 {xs : Option (List Int32)} {M : JM} (h8 : Nat → Int32 → Int32 → Int32 → Int32 → Int32 → Option Int32) (H8 : ∀ (l0 : Nat) (l1 : Int32) (l2 : Int32) (l3 : Int32) (l4 : Int32) (l5 : Int32) (pl0 : jok jE0 l0 0 = true), JG xs 1 17 (h8 l0 l1 l2 l3 l4 l5) (fun x r => r = (some (.int x), (jE0, M))) (8, [(0, .ref l0), (1, .int l1), (2, .int l2), (3, .int l3), (4, .int l4), (5, .int l5)], [], (jE0, M))) : ∀ (l0 : Nat) (l1 : Int32) (l2 : Int32) (l3 : Int32) (l4 : Int32) (l5 : Int32) (pl0 : jok jE0 l0 0 = true), JG xs 1 17 (f17_83 M h8 l0 l1 l2 l3 l4 l5) (fun x r => r = (some (.int x), (jE0, M))) (83, [(0, .ref l0), (1, .int l1), (2, .int l2), (3, .int l3), (4, .int l4), (5, .int l5)], [], (jE0, M)) := by
    intro l0 l1 l2 l3 l4 l5 pl0
    unfold f17_83
    refine g_pure (c' := (8, [(5, .int (l5 + (1 : Int32))), (0, .ref l0), (1, .int l1), (2, .int l2), (3, .int l3), (4, .int l4)], [], (jE0, M))) 2 rfl ?_
    refine g_weakk (lv := [(0, .ref l0), (1, .int l1), (2, .int l2), (3, .int l3), (4, .int l4), (5, .int (l5 + (1 : Int32)))]) ⟨rfl, rfl, rfl, rfl, rfl, rfl, trivial⟩ [0, 1, 2, 3, 4, 5] rfl (by decide) [5, 0, 1, 2, 3, 4] rfl (by decide) ?_
    exact (H8 l0 l1 l2 l3 l4 (l5 + (1 : Int32)) pl0)
def f17_57 (M : JM) (h8 : Nat → Int32 → Int32 → Int32 → Int32 → Int32 → Option Int32) (l0 : Nat) (l1 : Int32) (l2 : Int32) (l3 : Int32) (l5 : Int32) (l6 : Int32) : Option Int32 := (f17_83 M h8 l0 l1 l2 l6 l3 l5)
set_option maxRecDepth 100000 in
theorem c17_57 {xs : Option (List Int32)} {M : JM} (h8 : Nat → Int32 → Int32 → Int32 → Int32 → Int32 → Option Int32) (H8 : ∀ (l0 : Nat) (l1 : Int32) (l2 : Int32) (l3 : Int32) (l4 : Int32) (l5 : Int32) (pl0 : jok jE0 l0 0 = true), JG xs 1 17 (h8 l0 l1 l2 l3 l4 l5) (fun x r => r = (some (.int x), (jE0, M))) (8, [(0, .ref l0), (1, .int l1), (2, .int l2), (3, .int l3), (4, .int l4), (5, .int l5)], [], (jE0, M))) : ∀ (l0 : Nat) (l1 : Int32) (l2 : Int32) (l3 : Int32) (l5 : Int32) (l6 : Int32) (pl0 : jok jE0 l0 0 = true), JG xs 1 17 (f17_57 M h8 l0 l1 l2 l3 l5 l6) (fun x r => r = (some (.int x), (jE0, M))) (57, [(0, .ref l0), (1, .int l1), (2, .int l2), (3, .int l3), (5, .int l5), (6, .int l6)], [], (jE0, M)) := by
    intro l0 l1 l2 l3 l5 l6 pl0
    unfold f17_57
    refine g_pure (c' := (83, [(3, .int l6), (4, .int l3), (0, .ref l0), (1, .int l1), (2, .int l2), (5, .int l5), (6, .int l6)], [], (jE0, M))) 5 rfl ?_
    refine g_weakk (lv := [(0, .ref l0), (1, .int l1), (2, .int l2), (3, .int l6), (4, .int l3), (5, .int l5)]) ⟨rfl, rfl, rfl, rfl, rfl, rfl, trivial⟩ [0, 1, 2, 3, 4, 5] rfl (by decide) [3, 4, 0, 1, 2, 5, 6] rfl (by decide) ?_
    exact (c17_83 h8 H8 l0 l1 l2 l6 l3 l5 pl0)
def f17_79 (M : JM) (h8 : Nat → Int32 → Int32 → Int32 → Int32 → Int32 → Option Int32) (l0 : Nat) (l1 : Int32) (l2 : Int32) (l3 : Int32) (l5 : Int32) (l6 : Int32) : Option Int32 := (f17_83 M h8 l0 l1 l2 l3 l6 l5)
set_option maxRecDepth 100000 in
theorem c17_79 {xs : Option (List Int32)} {M : JM} (h8 : Nat → Int32 → Int32 → Int32 → Int32 → Int32 → Option Int32) (H8 : ∀ (l0 : Nat) (l1 : Int32) (l2 : Int32) (l3 : Int32) (l4 : Int32) (l5 : Int32) (pl0 : jok jE0 l0 0 = true), JG xs 1 17 (h8 l0 l1 l2 l3 l4 l5) (fun x r => r = (some (.int x), (jE0, M))) (8, [(0, .ref l0), (1, .int l1), (2, .int l2), (3, .int l3), (4, .int l4), (5, .int l5)], [], (jE0, M))) : ∀ (l0 : Nat) (l1 : Int32) (l2 : Int32) (l3 : Int32) (l5 : Int32) (l6 : Int32) (pl0 : jok jE0 l0 0 = true), JG xs 1 17 (f17_79 M h8 l0 l1 l2 l3 l5 l6) (fun x r => r = (some (.int x), (jE0, M))) (79, [(0, .ref l0), (1, .int l1), (2, .int l2), (3, .int l3), (5, .int l5), (6, .int l6)], [], (jE0, M)) := by
    intro l0 l1 l2 l3 l5 l6 pl0
    unfold f17_79
    refine g_pure (c' := (83, [(4, .int l6), (0, .ref l0), (1, .int l1), (2, .int l2), (3, .int l3), (5, .int l5), (6, .int l6)], [], (jE0, M))) 2 rfl ?_
    refine g_weakk (lv := [(0, .ref l0), (1, .int l1), (2, .int l2), (3, .int l3), (4, .int l6), (5, .int l5)]) ⟨rfl, rfl, rfl, rfl, rfl, rfl, trivial⟩ [0, 1, 2, 3, 4, 5] rfl (by decide) [4, 0, 1, 2, 3, 5, 6] rfl (by decide) ?_
    exact (c17_83 h8 H8 l0 l1 l2 l3 l6 l5 pl0)
def f17_8 (M : JM) : Nat → Nat → Int32 → Int32 → Int32 → Int32 → Int32 → Option Int32
  | 0, _, _, _, _, _, _ => none
  | n + 1, l0, l1, l2, l3, l4, l5 => (if l5 < (M l0 1) then ((f42 M (jpt l0 9) l5).bind fun v2 => ((f101 l1 l5).bind fun v3 => (if v3 = (0 : Int32) then (f17_83 M (f17_8 M n) l0 l1 l2 l3 l4 l5) else (if l2 < v2 then (if l3 = (-1 : Int32) then (f17_57 M (f17_8 M n) l0 l1 l2 l3 l5 v2) else (if v2 < l3 then (f17_57 M (f17_8 M n) l0 l1 l2 l3 l5 v2) else (if l4 = (-1 : Int32) then (f17_79 M (f17_8 M n) l0 l1 l2 l3 l5 v2) else (if v2 < l4 then (f17_79 M (f17_8 M n) l0 l1 l2 l3 l5 v2) else (f17_83 M (f17_8 M n) l0 l1 l2 l3 l4 l5))))) else (f17_83 M (f17_8 M n) l0 l1 l2 l3 l4 l5))))) else (some l4))
set_option maxRecDepth 100000 in
theorem c17_8 {xs : Option (List Int32)} {M : JM} : ∀ (n : Nat) (l0 : Nat) (l1 : Int32) (l2 : Int32) (l3 : Int32) (l4 : Int32) (l5 : Int32) (pl0 : jok jE0 l0 0 = true), JG xs 1 17 (f17_8 M n l0 l1 l2 l3 l4 l5) (fun x r => r = (some (.int x), (jE0, M))) (8, [(0, .ref l0), (1, .int l1), (2, .int l2), (3, .int l3), (4, .int l4), (5, .int l5)], [], (jE0, M))
  | 0, _, _, _, _, _, _, _ => by rw [f17_8]; exact g_none
  | n + 1, l0, l1, l2, l3, l4, l5, pl0 => by
    rw [f17_8]
    refine g_pure (c' := (11, [(0, .ref l0), (1, .int l1), (2, .int l2), (3, .int l3), (4, .int l4), (5, .int l5)], [.ref l0, .int l5], (jE0, M))) 2 rfl ?_
    refine g_gf (ci := 0) (k := 1) rfl rfl rfl pl0 ?_
    refine g_ic_ge (tgt := 89) rfl rfl (fun q1 => ?_) (fun q1 => ?_)
    · refine g_pure (c' := (18, [(0, .ref l0), (1, .int l1), (2, .int l2), (3, .int l3), (4, .int l4), (5, .int l5)], [.ref l0], (jE0, M))) 1 rfl ?_
      refine g_gp rfl rfl rfl pl0 (jp_ok (kd := 3) pl0 (by decide) (by decide) rfl rfl).1 ?_
      refine g_pure (c' := (23, [(0, .ref l0), (1, .int l1), (2, .int l2), (3, .int l3), (4, .int l4), (5, .int l5)], [.int l5, .ref (jpt l0 9)], (jE0, M))) 1 rfl ?_
      refine g_cI rfl (jc_v rfl rfl (jv_o (jk_ok (kd := 3) pl0 (by decide) (by decide) rfl rfl) rfl) rfl) (c42 (jpt l0 9) l5 (jk_ok (kd := 3) pl0 (by decide) (by decide) rfl rfl)) (by decide) (fun v2 qv2 => ?_)
      refine g_pure (c' := (31, [(6, .int v2), (0, .ref l0), (1, .int l1), (2, .int l2), (3, .int l3), (4, .int l4), (5, .int l5)], [.int l5, .int l1], (jE0, M))) 3 rfl ?_
      refine g_cI rfl (jc_s rfl rfl) (c101 l1 l5) (by decide) (fun v3 qv3 => ?_)
      refine g_if_eq (tgt := 83) rfl rfl (fun q4 => ?_) (fun q4 => ?_)
      · refine g_weakk (lv := [(0, .ref l0), (1, .int l1), (2, .int l2), (3, .int l3), (4, .int l4), (5, .int l5)]) ⟨rfl, rfl, rfl, rfl, rfl, rfl, trivial⟩ [0, 1, 2, 3, 4, 5] rfl (by decide) [6, 0, 1, 2, 3, 4, 5] rfl (by decide) ?_
        exact (c17_83 (f17_8 M n) (c17_8 n) l0 l1 l2 l3 l4 l5 pl0)
      · refine g_pure (c' := (40, [(6, .int v2), (0, .ref l0), (1, .int l1), (2, .int l2), (3, .int l3), (4, .int l4), (5, .int l5)], [.int l2, .int v2], (jE0, M))) 2 rfl ?_
        refine g_ic_gt (tgt := 46) rfl rfl (fun q5 => ?_) (fun q5 => ?_)
        · refine g_pure (c' := (48, [(6, .int v2), (0, .ref l0), (1, .int l1), (2, .int l2), (3, .int l3), (4, .int l4), (5, .int l5)], [.int (-1 : Int32), .int l3], (jE0, M))) 2 rfl ?_
          refine g_ic_eq (tgt := 57) rfl rfl (fun q6 => ?_) (fun q6 => ?_)
          · refine g_weakk (lv := [(0, .ref l0), (1, .int l1), (2, .int l2), (3, .int l3), (5, .int l5), (6, .int v2)]) ⟨rfl, rfl, rfl, rfl, rfl, rfl, trivial⟩ [0, 1, 2, 3, 5, 6] rfl (by decide) [6, 0, 1, 2, 3, 4, 5] rfl (by decide) ?_
            exact (c17_57 (f17_8 M n) (c17_8 n) l0 l1 l2 l3 l5 v2 pl0)
          · refine g_pure (c' := (54, [(6, .int v2), (0, .ref l0), (1, .int l1), (2, .int l2), (3, .int l3), (4, .int l4), (5, .int l5)], [.int l3, .int v2], (jE0, M))) 2 rfl ?_
            refine g_ic_ge (tgt := 66) rfl rfl (fun q7 => ?_) (fun q7 => ?_)
            · refine g_weakk (lv := [(0, .ref l0), (1, .int l1), (2, .int l2), (3, .int l3), (5, .int l5), (6, .int v2)]) ⟨rfl, rfl, rfl, rfl, rfl, rfl, trivial⟩ [0, 1, 2, 3, 5, 6] rfl (by decide) [6, 0, 1, 2, 3, 4, 5] rfl (by decide) ?_
              exact (c17_57 (f17_8 M n) (c17_8 n) l0 l1 l2 l3 l5 v2 pl0)
            · refine g_pure (c' := (69, [(6, .int v2), (0, .ref l0), (1, .int l1), (2, .int l2), (3, .int l3), (4, .int l4), (5, .int l5)], [.int (-1 : Int32), .int l4], (jE0, M))) 2 rfl ?_
              refine g_ic_eq (tgt := 79) rfl rfl (fun q8 => ?_) (fun q8 => ?_)
              · refine g_weakk (lv := [(0, .ref l0), (1, .int l1), (2, .int l2), (3, .int l3), (5, .int l5), (6, .int v2)]) ⟨rfl, rfl, rfl, rfl, rfl, rfl, trivial⟩ [0, 1, 2, 3, 5, 6] rfl (by decide) [6, 0, 1, 2, 3, 4, 5] rfl (by decide) ?_
                exact (c17_79 (f17_8 M n) (c17_8 n) l0 l1 l2 l3 l5 v2 pl0)
              · refine g_pure (c' := (76, [(6, .int v2), (0, .ref l0), (1, .int l1), (2, .int l2), (3, .int l3), (4, .int l4), (5, .int l5)], [.int l4, .int v2], (jE0, M))) 2 rfl ?_
                refine g_ic_ge (tgt := 83) rfl rfl (fun q9 => ?_) (fun q9 => ?_)
                · refine g_weakk (lv := [(0, .ref l0), (1, .int l1), (2, .int l2), (3, .int l3), (5, .int l5), (6, .int v2)]) ⟨rfl, rfl, rfl, rfl, rfl, rfl, trivial⟩ [0, 1, 2, 3, 5, 6] rfl (by decide) [6, 0, 1, 2, 3, 4, 5] rfl (by decide) ?_
                  exact (c17_79 (f17_8 M n) (c17_8 n) l0 l1 l2 l3 l5 v2 pl0)
                · refine g_weakk (lv := [(0, .ref l0), (1, .int l1), (2, .int l2), (3, .int l3), (4, .int l4), (5, .int l5)]) ⟨rfl, rfl, rfl, rfl, rfl, rfl, trivial⟩ [0, 1, 2, 3, 4, 5] rfl (by decide) [6, 0, 1, 2, 3, 4, 5] rfl (by decide) ?_
                  exact (c17_83 (f17_8 M n) (c17_8 n) l0 l1 l2 l3 l4 l5 pl0)
        · refine g_pure (c' := (83, [(6, .int v2), (0, .ref l0), (1, .int l1), (2, .int l2), (3, .int l3), (4, .int l4), (5, .int l5)], [], (jE0, M))) 1 rfl ?_
          refine g_weakk (lv := [(0, .ref l0), (1, .int l1), (2, .int l2), (3, .int l3), (4, .int l4), (5, .int l5)]) ⟨rfl, rfl, rfl, rfl, rfl, rfl, trivial⟩ [0, 1, 2, 3, 4, 5] rfl (by decide) [6, 0, 1, 2, 3, 4, 5] rfl (by decide) ?_
          exact (c17_83 (f17_8 M n) (c17_8 n) l0 l1 l2 l3 l4 l5 pl0)
    · refine g_pure (c' := (91, [(0, .ref l0), (1, .int l1), (2, .int l2), (3, .int l3), (4, .int l4), (5, .int l5)], [.int l4], (jE0, M))) 1 rfl ?_
      exact g_ret rfl rfl (fun _ h => h)
/-- CometKin$Country.secondYear -/
def f17 (M : JM) (l0 : Nat) (l1 : Int32) (l2 : Int32) : Option Int32 := (f17_8 M 1000 l0 l1 l2 (-1 : Int32) (-1 : Int32) (0 : Int32))
set_option maxRecDepth 100000 in
theorem c17 {xs : Option (List Int32)} {M : JM} (l0 : Nat) (l1 : Int32) (l2 : Int32) (pl0 : jok jE0 l0 0 = true) : JG xs 1 17 (f17 M l0 l1 l2) (fun x r => r = (some (.int x), (jE0, M))) (0, [(0, .ref l0), (1, .int l1), (2, .int l2)], [], (jE0, M)) := by
    unfold f17
    refine g_pure (c' := (8, [(5, .int (0 : Int32)), (4, .int (-1 : Int32)), (3, .int (-1 : Int32)), (0, .ref l0), (1, .int l1), (2, .int l2)], [], (jE0, M))) 6 rfl ?_
    refine g_weakk (lv := [(0, .ref l0), (1, .int l1), (2, .int l2), (3, .int (-1 : Int32)), (4, .int (-1 : Int32)), (5, .int (0 : Int32))]) ⟨rfl, rfl, rfl, rfl, rfl, rfl, trivial⟩ [0, 1, 2, 3, 4, 5] rfl (by decide) [5, 4, 3, 0, 1, 2] rfl (by decide) ?_
    exact (c17_8 1000 l0 l1 l2 (-1 : Int32) (-1 : Int32) (0 : Int32) pl0)
/-- CometKin.dueYear -/
def f113 (M : JM) (l0 : Nat) (l1 : Int32) : Option Int32 := ((f42 M (jpt (jpt l0 3) 6) l1).bind fun v1 => ((f14 M (jpt l0 1) v1).bind fun v2 => ((f42 M (jpt (jpt l0 3) 7) l1).bind fun v3 => ((f14 M (jpt l0 1) v3).bind fun v4 => ((f42 M (jpt (jpt l0 3) 9) l1).bind fun v5 => ((f17 M (jpt l0 1) (v2 &&& v4) v5).bind fun v6 => (some v6)))))))
set_option maxRecDepth 100000 in
theorem c113 {xs : Option (List Int32)} {M : JM} (l0 : Nat) (l1 : Int32) (pl0 : jok jE0 l0 6 = true) : JG xs 2 113 (f113 M l0 l1) (fun x r => r = (some (.int x), (jE0, M))) (0, [(0, .ref l0), (1, .int l1)], [], (jE0, M)) := by
    unfold f113
    refine g_pure (c' := (1, [(0, .ref l0), (1, .int l1)], [.ref l0], (jE0, M))) 1 rfl ?_
    refine g_gp rfl rfl rfl pl0 (jp_ok (kd := 0) pl0 (by decide) (by decide) rfl rfl).1 ?_
    refine g_pure (c' := (5, [(0, .ref l0), (1, .int l1)], [.ref l0, .ref (jpt l0 1)], (jE0, M))) 1 rfl ?_
    refine g_gp rfl rfl rfl pl0 (jp_ok (kd := 2) pl0 (by decide) (by decide) rfl rfl).1 ?_
    refine g_gp rfl rfl rfl (jk_ok (kd := 2) pl0 (by decide) (by decide) rfl rfl) (jp_ok (kd := 3) (jk_ok (kd := 2) pl0 (by decide) (by decide) rfl rfl) (by decide) (by decide) rfl rfl).1 ?_
    refine g_pure (c' := (12, [(0, .ref l0), (1, .int l1)], [.int l1, .ref (jpt (jpt l0 3) 6), .ref (jpt l0 1)], (jE0, M))) 1 rfl ?_
    refine g_cI rfl (jc_v rfl rfl (jv_o (jk_ok (kd := 3) (jk_ok (kd := 2) pl0 (by decide) (by decide) rfl rfl) (by decide) (by decide) rfl rfl) rfl) rfl) (c42 (jpt (jpt l0 3) 6) l1 (jk_ok (kd := 3) (jk_ok (kd := 2) pl0 (by decide) (by decide) rfl rfl) (by decide) (by decide) rfl rfl)) (by decide) (fun v1 qv1 => ?_)
    refine g_cI rfl (jc_v rfl rfl (jv_o (jk_ok (kd := 0) pl0 (by decide) (by decide) rfl rfl) rfl) rfl) (c14 (jpt l0 1) v1 (jk_ok (kd := 0) pl0 (by decide) (by decide) rfl rfl)) (by decide) (fun v2 qv2 => ?_)
    refine g_pure (c' := (19, [(0, .ref l0), (1, .int l1)], [.ref l0, .int v2], (jE0, M))) 1 rfl ?_
    refine g_gp rfl rfl rfl pl0 (jp_ok (kd := 0) pl0 (by decide) (by decide) rfl rfl).1 ?_
    refine g_pure (c' := (23, [(0, .ref l0), (1, .int l1)], [.ref l0, .ref (jpt l0 1), .int v2], (jE0, M))) 1 rfl ?_
    refine g_gp rfl rfl rfl pl0 (jp_ok (kd := 2) pl0 (by decide) (by decide) rfl rfl).1 ?_
    refine g_gp rfl rfl rfl (jk_ok (kd := 2) pl0 (by decide) (by decide) rfl rfl) (jp_ok (kd := 3) (jk_ok (kd := 2) pl0 (by decide) (by decide) rfl rfl) (by decide) (by decide) rfl rfl).1 ?_
    refine g_pure (c' := (30, [(0, .ref l0), (1, .int l1)], [.int l1, .ref (jpt (jpt l0 3) 7), .ref (jpt l0 1), .int v2], (jE0, M))) 1 rfl ?_
    refine g_cI rfl (jc_v rfl rfl (jv_o (jk_ok (kd := 3) (jk_ok (kd := 2) pl0 (by decide) (by decide) rfl rfl) (by decide) (by decide) rfl rfl) rfl) rfl) (c42 (jpt (jpt l0 3) 7) l1 (jk_ok (kd := 3) (jk_ok (kd := 2) pl0 (by decide) (by decide) rfl rfl) (by decide) (by decide) rfl rfl)) (by decide) (fun v3 qv3 => ?_)
    refine g_cI rfl (jc_v rfl rfl (jv_o (jk_ok (kd := 0) pl0 (by decide) (by decide) rfl rfl) rfl) rfl) (c14 (jpt l0 1) v3 (jk_ok (kd := 0) pl0 (by decide) (by decide) rfl rfl)) (by decide) (fun v4 qv4 => ?_)
    refine g_pure (c' := (39, [(2, .int (v2 &&& v4)), (0, .ref l0), (1, .int l1)], [.ref l0], (jE0, M))) 3 rfl ?_
    refine g_gp rfl rfl rfl pl0 (jp_ok (kd := 0) pl0 (by decide) (by decide) rfl rfl).1 ?_
    refine g_pure (c' := (44, [(2, .int (v2 &&& v4)), (0, .ref l0), (1, .int l1)], [.ref l0, .int (v2 &&& v4), .ref (jpt l0 1)], (jE0, M))) 2 rfl ?_
    refine g_gp rfl rfl rfl pl0 (jp_ok (kd := 2) pl0 (by decide) (by decide) rfl rfl).1 ?_
    refine g_gp rfl rfl rfl (jk_ok (kd := 2) pl0 (by decide) (by decide) rfl rfl) (jp_ok (kd := 3) (jk_ok (kd := 2) pl0 (by decide) (by decide) rfl rfl) (by decide) (by decide) rfl rfl).1 ?_
    refine g_pure (c' := (51, [(2, .int (v2 &&& v4)), (0, .ref l0), (1, .int l1)], [.int l1, .ref (jpt (jpt l0 3) 9), .int (v2 &&& v4), .ref (jpt l0 1)], (jE0, M))) 1 rfl ?_
    refine g_cI rfl (jc_v rfl rfl (jv_o (jk_ok (kd := 3) (jk_ok (kd := 2) pl0 (by decide) (by decide) rfl rfl) (by decide) (by decide) rfl rfl) rfl) rfl) (c42 (jpt (jpt l0 3) 9) l1 (jk_ok (kd := 3) (jk_ok (kd := 2) pl0 (by decide) (by decide) rfl rfl) (by decide) (by decide) rfl rfl)) (by decide) (fun v5 qv5 => ?_)
    refine g_cI rfl (jc_v rfl rfl (jv_o (jk_ok (kd := 0) pl0 (by decide) (by decide) rfl rfl) rfl) rfl) (c17 (jpt l0 1) (v2 &&& v4) v5 (jk_ok (kd := 0) pl0 (by decide) (by decide) rfl rfl)) (by decide) (fun v6 qv6 => ?_)
    exact g_ret rfl rfl (fun _ h => h)
/-- CometKin.debt -/
def f83 (M : JM) (l0 : Nat) (l1 : Int32) (l2 : Int32) : Option Int32 := ((f36 M (jpt l0 3) l1).bind fun v1 => (if v1 = (0 : Int32) then (some (-2 : Int32)) else (if l2 = (0 : Int32) then ((f42 M (jpt (jpt l0 3) 6) l1).bind fun v4 => (some v4)) else (if l2 = (1 : Int32) then ((f42 M (jpt (jpt l0 3) 7) l1).bind fun v6 => (some v6)) else (if l2 = (2 : Int32) then ((f42 M (jpt (jpt l0 3) 8) l1).bind fun v8 => (some v8)) else (if l2 = (3 : Int32) then ((f42 M (jpt (jpt l0 3) 9) l1).bind fun v10 => (some v10)) else (if l2 = (4 : Int32) then ((f113 M l0 l1).bind fun v12 => (some v12)) else (if l2 = (5 : Int32) then ((f101 (M (jpt l0 3) 3) l1).bind fun v14 => (if v14 = (0 : Int32) then (some (0 : Int32)) else (some (1 : Int32)))) else (some (-3 : Int32))))))))))
set_option maxRecDepth 100000 in
theorem c83 {xs : Option (List Int32)} {M : JM} (l0 : Nat) (l1 : Int32) (l2 : Int32) (pl0 : jok jE0 l0 6 = true) : JG xs 3 83 (f83 M l0 l1 l2) (fun x r => r = (some (.int x), (jE0, M))) (0, [(0, .ref l0), (1, .int l1), (2, .int l2)], [], (jE0, M)) := by
    unfold f83
    refine g_pure (c' := (1, [(0, .ref l0), (1, .int l1), (2, .int l2)], [.ref l0], (jE0, M))) 1 rfl ?_
    refine g_gp rfl rfl rfl pl0 (jp_ok (kd := 2) pl0 (by decide) (by decide) rfl rfl).1 ?_
    refine g_pure (c' := (5, [(0, .ref l0), (1, .int l1), (2, .int l2)], [.int l1, .ref (jpt l0 3)], (jE0, M))) 1 rfl ?_
    refine g_cI rfl (jc_v rfl rfl (jv_o (jk_ok (kd := 2) pl0 (by decide) (by decide) rfl rfl) rfl) rfl) (c36 (jpt l0 3) l1 (jk_ok (kd := 2) pl0 (by decide) (by decide) rfl rfl)) (by decide) (fun v1 qv1 => ?_)
    refine g_if_ne (tgt := 14) rfl rfl (fun q2 => ?_) (fun q2 => ?_)
    · refine g_pure (c' := (13, [(0, .ref l0), (1, .int l1), (2, .int l2)], [.int (-2 : Int32)], (jE0, M))) 1 rfl ?_
      exact g_ret rfl rfl (fun _ h => h)
    · refine g_pure (c' := (15, [(0, .ref l0), (1, .int l1), (2, .int l2)], [.int l2], (jE0, M))) 1 rfl ?_
      refine g_eq (fun q3 => ?_) (fun q3 => ?_)
      · refine g_t1 q3 rfl rfl ?_
        refine g_pure (c' := (53, [(0, .ref l0), (1, .int l1), (2, .int l2)], [.ref l0], (jE0, M))) 1 rfl ?_
        refine g_gp rfl rfl rfl pl0 (jp_ok (kd := 2) pl0 (by decide) (by decide) rfl rfl).1 ?_
        refine g_gp rfl rfl rfl (jk_ok (kd := 2) pl0 (by decide) (by decide) rfl rfl) (jp_ok (kd := 3) (jk_ok (kd := 2) pl0 (by decide) (by decide) rfl rfl) (by decide) (by decide) rfl rfl).1 ?_
        refine g_pure (c' := (60, [(0, .ref l0), (1, .int l1), (2, .int l2)], [.int l1, .ref (jpt (jpt l0 3) 6)], (jE0, M))) 1 rfl ?_
        refine g_cI rfl (jc_v rfl rfl (jv_o (jk_ok (kd := 3) (jk_ok (kd := 2) pl0 (by decide) (by decide) rfl rfl) (by decide) (by decide) rfl rfl) rfl) rfl) (c42 (jpt (jpt l0 3) 6) l1 (jk_ok (kd := 3) (jk_ok (kd := 2) pl0 (by decide) (by decide) rfl rfl) (by decide) (by decide) rfl rfl)) (by decide) (fun v4 qv4 => ?_)
        exact g_ret rfl rfl (fun _ h => h)
      refine g_eq (fun q5 => ?_) (fun q5 => ?_)
      · refine g_t1 q5 rfl rfl ?_
        refine g_pure (c' := (65, [(0, .ref l0), (1, .int l1), (2, .int l2)], [.ref l0], (jE0, M))) 1 rfl ?_
        refine g_gp rfl rfl rfl pl0 (jp_ok (kd := 2) pl0 (by decide) (by decide) rfl rfl).1 ?_
        refine g_gp rfl rfl rfl (jk_ok (kd := 2) pl0 (by decide) (by decide) rfl rfl) (jp_ok (kd := 3) (jk_ok (kd := 2) pl0 (by decide) (by decide) rfl rfl) (by decide) (by decide) rfl rfl).1 ?_
        refine g_pure (c' := (72, [(0, .ref l0), (1, .int l1), (2, .int l2)], [.int l1, .ref (jpt (jpt l0 3) 7)], (jE0, M))) 1 rfl ?_
        refine g_cI rfl (jc_v rfl rfl (jv_o (jk_ok (kd := 3) (jk_ok (kd := 2) pl0 (by decide) (by decide) rfl rfl) (by decide) (by decide) rfl rfl) rfl) rfl) (c42 (jpt (jpt l0 3) 7) l1 (jk_ok (kd := 3) (jk_ok (kd := 2) pl0 (by decide) (by decide) rfl rfl) (by decide) (by decide) rfl rfl)) (by decide) (fun v6 qv6 => ?_)
        exact g_ret rfl rfl (fun _ h => h)
      refine g_eq (fun q7 => ?_) (fun q7 => ?_)
      · refine g_t1 q7 rfl rfl ?_
        refine g_pure (c' := (77, [(0, .ref l0), (1, .int l1), (2, .int l2)], [.ref l0], (jE0, M))) 1 rfl ?_
        refine g_gp rfl rfl rfl pl0 (jp_ok (kd := 2) pl0 (by decide) (by decide) rfl rfl).1 ?_
        refine g_gp rfl rfl rfl (jk_ok (kd := 2) pl0 (by decide) (by decide) rfl rfl) (jp_ok (kd := 3) (jk_ok (kd := 2) pl0 (by decide) (by decide) rfl rfl) (by decide) (by decide) rfl rfl).1 ?_
        refine g_pure (c' := (84, [(0, .ref l0), (1, .int l1), (2, .int l2)], [.int l1, .ref (jpt (jpt l0 3) 8)], (jE0, M))) 1 rfl ?_
        refine g_cI rfl (jc_v rfl rfl (jv_o (jk_ok (kd := 3) (jk_ok (kd := 2) pl0 (by decide) (by decide) rfl rfl) (by decide) (by decide) rfl rfl) rfl) rfl) (c42 (jpt (jpt l0 3) 8) l1 (jk_ok (kd := 3) (jk_ok (kd := 2) pl0 (by decide) (by decide) rfl rfl) (by decide) (by decide) rfl rfl)) (by decide) (fun v8 qv8 => ?_)
        exact g_ret rfl rfl (fun _ h => h)
      refine g_eq (fun q9 => ?_) (fun q9 => ?_)
      · refine g_t1 q9 rfl rfl ?_
        refine g_pure (c' := (89, [(0, .ref l0), (1, .int l1), (2, .int l2)], [.ref l0], (jE0, M))) 1 rfl ?_
        refine g_gp rfl rfl rfl pl0 (jp_ok (kd := 2) pl0 (by decide) (by decide) rfl rfl).1 ?_
        refine g_gp rfl rfl rfl (jk_ok (kd := 2) pl0 (by decide) (by decide) rfl rfl) (jp_ok (kd := 3) (jk_ok (kd := 2) pl0 (by decide) (by decide) rfl rfl) (by decide) (by decide) rfl rfl).1 ?_
        refine g_pure (c' := (96, [(0, .ref l0), (1, .int l1), (2, .int l2)], [.int l1, .ref (jpt (jpt l0 3) 9)], (jE0, M))) 1 rfl ?_
        refine g_cI rfl (jc_v rfl rfl (jv_o (jk_ok (kd := 3) (jk_ok (kd := 2) pl0 (by decide) (by decide) rfl rfl) (by decide) (by decide) rfl rfl) rfl) rfl) (c42 (jpt (jpt l0 3) 9) l1 (jk_ok (kd := 3) (jk_ok (kd := 2) pl0 (by decide) (by decide) rfl rfl) (by decide) (by decide) rfl rfl)) (by decide) (fun v10 qv10 => ?_)
        exact g_ret rfl rfl (fun _ h => h)
      refine g_eq (fun q11 => ?_) (fun q11 => ?_)
      · refine g_t1 q11 rfl rfl ?_
        refine g_pure (c' := (102, [(0, .ref l0), (1, .int l1), (2, .int l2)], [.int l1, .ref l0], (jE0, M))) 2 rfl ?_
        refine g_cI rfl (jc_v rfl rfl (jv_o pl0 rfl) rfl) (c113 l0 l1 pl0) (by decide) (fun v12 qv12 => ?_)
        exact g_ret rfl rfl (fun _ h => h)
      refine g_eq (fun q13 => ?_) (fun q13 => ?_)
      · refine g_t1 q13 rfl rfl ?_
        refine g_pure (c' := (107, [(0, .ref l0), (1, .int l1), (2, .int l2)], [.ref l0], (jE0, M))) 1 rfl ?_
        refine g_gp rfl rfl rfl pl0 (jp_ok (kd := 2) pl0 (by decide) (by decide) rfl rfl).1 ?_
        refine g_gf (ci := 2) (k := 3) rfl rfl rfl (jk_ok (kd := 2) pl0 (by decide) (by decide) rfl rfl) ?_
        refine g_pure (c' := (114, [(0, .ref l0), (1, .int l1), (2, .int l2)], [.int l1, .int (M (jpt l0 3) 3)], (jE0, M))) 1 rfl ?_
        refine g_cI rfl (jc_s rfl rfl) (c101 (M (jpt l0 3) 3) l1) (by decide) (fun v14 qv14 => ?_)
        refine g_if_eq (tgt := 124) rfl rfl (fun q15 => ?_) (fun q15 => ?_)
        · refine g_pure (c' := (125, [(0, .ref l0), (1, .int l1), (2, .int l2)], [.int (0 : Int32)], (jE0, M))) 1 rfl ?_
          exact g_ret rfl rfl (fun _ h => h)
        · refine g_pure (c' := (125, [(0, .ref l0), (1, .int l1), (2, .int l2)], [.int (1 : Int32)], (jE0, M))) 2 rfl ?_
          exact g_ret rfl rfl (fun _ h => h)
      refine g_t0 (tgt := 126) rfl (fun v h1 h2 => ?_) rfl ?_
      · rcases (show v = 0 ∨ v = 1 ∨ v = 2 ∨ v = 3 ∨ v = 4 ∨ v = 5 by omega) with rfl | rfl | rfl | rfl | rfl | rfl
        · exact q3
        · exact q5
        · exact q7
        · exact q9
        · exact q11
        · exact q13
      refine g_pure (c' := (128, [(0, .ref l0), (1, .int l1), (2, .int l2)], [.int (-3 : Int32)], (jE0, M))) 1 rfl ?_
      exact g_ret rfl rfl (fun _ h => h)
