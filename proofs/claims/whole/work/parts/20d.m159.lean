/-- CometKinModel.isOne -/
def f159 (M : JM) (l0 : Nat) (l1 : Int32) : Option Int32 := ((f125 ((l1).toInt64) (0 : Int64) ((((M l0 7) - (1 : Int32))).toInt64)).bind fun v1 => (jbo 159 v1))
set_option maxRecDepth 100000 in
theorem c159 {xs : Option (List Int32)} {M : JM} (l0 : Nat) (l1 : Int32) (pl0 : jok jE0 l0 7 = true) : JG xs 1 159 (f159 M l0 l1) (fun x r => r = (some (.int x), (jE0, M))) (0, [(0, .ref l0), (1, .int l1)], [], (jE0, M)) := by
    unfold f159
    refine g_pure (c' := (4, [(0, .ref l0), (1, .int l1)], [.ref l0, .long (0 : Int64), .long ((l1).toInt64)], (jE0, M))) 4 rfl ?_
    refine g_gf (ci := 7) (k := 7) rfl rfl rfl pl0 ?_
    refine g_pure (c' := (10, [(0, .ref l0), (1, .int l1)], [.long ((((M l0 7) - (1 : Int32))).toInt64), .long (0 : Int64), .long ((l1).toInt64)], (jE0, M))) 3 rfl ?_
    refine g_cI rfl (jc_s rfl rfl) (c125 ((l1).toInt64) (0 : Int64) ((((M l0 7) - (1 : Int32))).toInt64)) (by decide) (fun v1 qv1 => ?_)
    exact g_rn rfl (fun _ _ h => h)
/-- CometKinModel.one -/
def f163 (M : JM) (l0 : Nat) (l1 : Int32) (l2 : Int32) : Option Int32 := ((f159 M l0 l1).bind fun v1 => (if v1 = (0 : Int32) then (some (-2 : Int32)) else (if l2 = (0 : Int32) then ((jla (jpt l0 8) l1 M).bind fun v4 => (some v4)) else (if l2 = (1 : Int32) then ((jla (jpt l0 9) l1 M).bind fun v6 => (some v6)) else (if l2 = (2 : Int32) then ((jla (jpt l0 10) l1 M).bind fun v8 => (some v8)) else (if l2 = (3 : Int32) then ((jla (jpt l0 11) l1 M).bind fun v10 => (some v10)) else (if l2 = (4 : Int32) then ((jla (jpt l0 0) ((1 : Int32) + l1) M).bind fun v12 => (some v12)) else (if l2 = (5 : Int32) then ((jla (jpt l0 0) (10 : Int32) M).bind fun v14 => (some ((v14 >>> (l1 &&& (31 : Int32))) &&& (1 : Int32)))) else (if l2 = (6 : Int32) then ((jla (jpt l0 0) ((11 : Int32) + l1) M).bind fun v16 => (some v16)) else (some (-3 : Int32)))))))))))
set_option maxRecDepth 100000 in
theorem c163 {xs : Option (List Int32)} {M : JM} (l0 : Nat) (l1 : Int32) (l2 : Int32) (pl0 : jok jE0 l0 7 = true) : JG xs 2 163 (f163 M l0 l1 l2) (fun x r => r = (some (.int x), (jE0, M))) (0, [(0, .ref l0), (1, .int l1), (2, .int l2)], [], (jE0, M)) := by
    unfold f163
    refine g_pure (c' := (2, [(0, .ref l0), (1, .int l1), (2, .int l2)], [.int l1, .ref l0], (jE0, M))) 2 rfl ?_
    refine g_cI rfl (jc_v rfl rfl (jv_o pl0 rfl) rfl) (c159 l0 l1 pl0) (by decide) (fun v1 qv1 => ?_)
    refine g_if_ne (tgt := 11) rfl rfl (fun q2 => ?_) (fun q2 => ?_)
    · refine g_pure (c' := (10, [(0, .ref l0), (1, .int l1), (2, .int l2)], [.int (-2 : Int32)], (jE0, M))) 1 rfl ?_
      exact g_ret rfl rfl (fun _ h => h)
    · refine g_pure (c' := (12, [(0, .ref l0), (1, .int l1), (2, .int l2)], [.int l2], (jE0, M))) 1 rfl ?_
      refine g_eq (fun q3 => ?_) (fun q3 => ?_)
      · refine g_t1 q3 rfl rfl ?_
        refine g_pure (c' := (57, [(0, .ref l0), (1, .int l1), (2, .int l2)], [.ref l0], (jE0, M))) 1 rfl ?_
        refine g_gp rfl rfl rfl pl0 (jp_ok (kd := 8) pl0 (by decide) (by decide) rfl rfl).1 ?_
        refine g_pure (c' := (61, [(0, .ref l0), (1, .int l1), (2, .int l2)], [.int l1, .ref (jpt l0 8)], (jE0, M))) 1 rfl ?_
        refine g_ia rfl (jk_ok (kd := 8) pl0 (by decide) (by decide) rfl rfl) (fun v4 => ?_)
        exact g_ret rfl rfl (fun _ h => h)
      refine g_eq (fun q5 => ?_) (fun q5 => ?_)
      · refine g_t1 q5 rfl rfl ?_
        refine g_pure (c' := (64, [(0, .ref l0), (1, .int l1), (2, .int l2)], [.ref l0], (jE0, M))) 1 rfl ?_
        refine g_gp rfl rfl rfl pl0 (jp_ok (kd := 8) pl0 (by decide) (by decide) rfl rfl).1 ?_
        refine g_pure (c' := (68, [(0, .ref l0), (1, .int l1), (2, .int l2)], [.int l1, .ref (jpt l0 9)], (jE0, M))) 1 rfl ?_
        refine g_ia rfl (jk_ok (kd := 8) pl0 (by decide) (by decide) rfl rfl) (fun v6 => ?_)
        exact g_ret rfl rfl (fun _ h => h)
      refine g_eq (fun q7 => ?_) (fun q7 => ?_)
      · refine g_t1 q7 rfl rfl ?_
        refine g_pure (c' := (71, [(0, .ref l0), (1, .int l1), (2, .int l2)], [.ref l0], (jE0, M))) 1 rfl ?_
        refine g_gp rfl rfl rfl pl0 (jp_ok (kd := 8) pl0 (by decide) (by decide) rfl rfl).1 ?_
        refine g_pure (c' := (75, [(0, .ref l0), (1, .int l1), (2, .int l2)], [.int l1, .ref (jpt l0 10)], (jE0, M))) 1 rfl ?_
        refine g_ia rfl (jk_ok (kd := 8) pl0 (by decide) (by decide) rfl rfl) (fun v8 => ?_)
        exact g_ret rfl rfl (fun _ h => h)
      refine g_eq (fun q9 => ?_) (fun q9 => ?_)
      · refine g_t1 q9 rfl rfl ?_
        refine g_pure (c' := (78, [(0, .ref l0), (1, .int l1), (2, .int l2)], [.ref l0], (jE0, M))) 1 rfl ?_
        refine g_gp rfl rfl rfl pl0 (jp_ok (kd := 8) pl0 (by decide) (by decide) rfl rfl).1 ?_
        refine g_pure (c' := (82, [(0, .ref l0), (1, .int l1), (2, .int l2)], [.int l1, .ref (jpt l0 11)], (jE0, M))) 1 rfl ?_
        refine g_ia rfl (jk_ok (kd := 8) pl0 (by decide) (by decide) rfl rfl) (fun v10 => ?_)
        exact g_ret rfl rfl (fun _ h => h)
      refine g_eq (fun q11 => ?_) (fun q11 => ?_)
      · refine g_t1 q11 rfl rfl ?_
        refine g_pure (c' := (85, [(0, .ref l0), (1, .int l1), (2, .int l2)], [.ref l0], (jE0, M))) 1 rfl ?_
        refine g_gp rfl rfl rfl pl0 (jp_ok (kd := 8) pl0 (by decide) (by decide) rfl rfl).1 ?_
        refine g_pure (c' := (91, [(0, .ref l0), (1, .int l1), (2, .int l2)], [.int ((1 : Int32) + l1), .ref (jpt l0 0)], (jE0, M))) 3 rfl ?_
        refine g_ia rfl (jk_ok (kd := 8) pl0 (by decide) (by decide) rfl rfl) (fun v12 => ?_)
        exact g_ret rfl rfl (fun _ h => h)
      refine g_eq (fun q13 => ?_) (fun q13 => ?_)
      · refine g_t1 q13 rfl rfl ?_
        refine g_pure (c' := (94, [(0, .ref l0), (1, .int l1), (2, .int l2)], [.ref l0], (jE0, M))) 1 rfl ?_
        refine g_gp rfl rfl rfl pl0 (jp_ok (kd := 8) pl0 (by decide) (by decide) rfl rfl).1 ?_
        refine g_pure (c' := (99, [(0, .ref l0), (1, .int l1), (2, .int l2)], [.int (10 : Int32), .ref (jpt l0 0)], (jE0, M))) 1 rfl ?_
        refine g_ia rfl (jk_ok (kd := 8) pl0 (by decide) (by decide) rfl rfl) (fun v14 => ?_)
        refine g_pure (c' := (104, [(0, .ref l0), (1, .int l1), (2, .int l2)], [.int ((v14 >>> (l1 &&& (31 : Int32))) &&& (1 : Int32))], (jE0, M))) 4 rfl ?_
        exact g_ret rfl rfl (fun _ h => h)
      refine g_eq (fun q15 => ?_) (fun q15 => ?_)
      · refine g_t1 q15 rfl rfl ?_
        refine g_pure (c' := (106, [(0, .ref l0), (1, .int l1), (2, .int l2)], [.ref l0], (jE0, M))) 1 rfl ?_
        refine g_gp rfl rfl rfl pl0 (jp_ok (kd := 8) pl0 (by decide) (by decide) rfl rfl).1 ?_
        refine g_pure (c' := (113, [(0, .ref l0), (1, .int l1), (2, .int l2)], [.int ((11 : Int32) + l1), .ref (jpt l0 0)], (jE0, M))) 3 rfl ?_
        refine g_ia rfl (jk_ok (kd := 8) pl0 (by decide) (by decide) rfl rfl) (fun v16 => ?_)
        exact g_ret rfl rfl (fun _ h => h)
      refine g_t0 (tgt := 115) rfl (fun v h1 h2 => ?_) rfl ?_
      · rcases (show v = 0 ∨ v = 1 ∨ v = 2 ∨ v = 3 ∨ v = 4 ∨ v = 5 ∨ v = 6 by omega) with rfl | rfl | rfl | rfl | rfl | rfl | rfl
        · exact q3
        · exact q5
        · exact q7
        · exact q9
        · exact q11
        · exact q13
        · exact q15
      refine g_pure (c' := (117, [(0, .ref l0), (1, .int l1), (2, .int l2)], [.int (-3 : Int32)], (jE0, M))) 1 rfl ?_
      exact g_ret rfl rfl (fun _ h => h)
/-- CometKin$Country.hasComet -/
def f5 (M : JM) (l0 : Nat) (l1 : Int32) : Option Int32 := (if l1 < (0 : Int32) then (some (0 : Int32)) else (if l1 < (M l0 1) then (some (1 : Int32)) else (some (0 : Int32))))
set_option maxRecDepth 100000 in
theorem c5 {xs : Option (List Int32)} {M : JM} (l0 : Nat) (l1 : Int32) (pl0 : jok jE0 l0 0 = true) : JG xs 0 5 (f5 M l0 l1) (fun x r => r = (some (.int x), (jE0, M))) (0, [(0, .ref l0), (1, .int l1)], [], (jE0, M)) := by
    unfold f5
    refine g_pure (c' := (1, [(0, .ref l0), (1, .int l1)], [.int l1], (jE0, M))) 1 rfl ?_
    refine g_if_lt (tgt := 16) rfl rfl (fun q1 => ?_) (fun q1 => ?_)
    · refine g_pure (c' := (17, [(0, .ref l0), (1, .int l1)], [.int (0 : Int32)], (jE0, M))) 1 rfl ?_
      exact g_ret rfl rfl (fun _ h => h)
    · refine g_pure (c' := (6, [(0, .ref l0), (1, .int l1)], [.ref l0, .int l1], (jE0, M))) 2 rfl ?_
      refine g_gf (ci := 0) (k := 1) rfl rfl rfl pl0 ?_
      refine g_ic_ge (tgt := 16) rfl rfl (fun q2 => ?_) (fun q2 => ?_)
      · refine g_pure (c' := (17, [(0, .ref l0), (1, .int l1)], [.int (1 : Int32)], (jE0, M))) 2 rfl ?_
        exact g_ret rfl rfl (fun _ h => h)
      · refine g_pure (c' := (17, [(0, .ref l0), (1, .int l1)], [.int (0 : Int32)], (jE0, M))) 1 rfl ?_
        exact g_ret rfl rfl (fun _ h => h)
def f15_34 (M : JM) (l0 : Nat) (l1 : Int32) (l2 : Int32) (s0 : Int32) : Option Int32 := ((f101 (M l0 12) l1).bind fun v4 => (if v4 = (0 : Int32) then (some (s0 ||| (0 : Int32))) else (some (s0 ||| l2))))
set_option maxRecDepth 100000 in
theorem c15_34 {xs : Option (List Int32)} {M : JM} : ∀ (l0 : Nat) (l1 : Int32) (l2 : Int32) (s0 : Int32) (pl0 : jok jE0 l0 0 = true), JG xs 2 15 (f15_34 M l0 l1 l2 s0) (fun x r => r = (some (.int x), (jE0, M))) (34, [(0, .ref l0), (1, .int l1), (2, .int l2)], [.int s0], (jE0, M)) := by
    intro l0 l1 l2 s0 pl0
    unfold f15_34
    refine g_pure (c' := (35, [(0, .ref l0), (1, .int l1), (2, .int l2)], [.ref l0, .int s0], (jE0, M))) 1 rfl ?_
    refine g_gf (ci := 0) (k := 12) rfl rfl rfl pl0 ?_
    refine g_pure (c' := (39, [(0, .ref l0), (1, .int l1), (2, .int l2)], [.int l1, .int (M l0 12), .int s0], (jE0, M))) 1 rfl ?_
    refine g_cI rfl (jc_s rfl rfl) (c101 (M l0 12) l1) (by decide) (fun v4 qv4 => ?_)
    refine g_if_eq (tgt := 49) rfl rfl (fun q5 => ?_) (fun q5 => ?_)
    · refine g_pure (c' := (51, [(0, .ref l0), (1, .int l1), (2, .int l2)], [.int (s0 ||| (0 : Int32))], (jE0, M))) 2 rfl ?_
      exact g_ret rfl rfl (fun _ h => h)
    · refine g_pure (c' := (51, [(0, .ref l0), (1, .int l1), (2, .int l2)], [.int (s0 ||| l2)], (jE0, M))) 3 rfl ?_
      exact g_ret rfl rfl (fun _ h => h)
/-- CometKin$Country.whoSees -/
def f15 (M : JM) (l0 : Nat) (l1 : Int32) : Option Int32 := ((f102 (M l0 0)).bind fun v1 => ((f101 (M l0 13) l1).bind fun v2 => (if v2 = (0 : Int32) then (f15_34 M l0 l1 (v1 &&& ((M l0 10) ^^^ (-1 : Int32))) (0 : Int32)) else (f15_34 M l0 l1 (v1 &&& ((M l0 10) ^^^ (-1 : Int32))) (M l0 10)))))
set_option maxRecDepth 100000 in
theorem c15 {xs : Option (List Int32)} {M : JM} (l0 : Nat) (l1 : Int32) (pl0 : jok jE0 l0 0 = true) : JG xs 2 15 (f15 M l0 l1) (fun x r => r = (some (.int x), (jE0, M))) (0, [(0, .ref l0), (1, .int l1)], [], (jE0, M)) := by
    unfold f15
    refine g_pure (c' := (1, [(0, .ref l0), (1, .int l1)], [.ref l0], (jE0, M))) 1 rfl ?_
    refine g_gf (ci := 0) (k := 0) rfl rfl rfl pl0 ?_
    refine g_cI rfl (jc_s rfl rfl) (c102 (M l0 0)) (by decide) (fun v1 qv1 => ?_)
    refine g_pure (c' := (8, [(0, .ref l0), (1, .int l1)], [.ref l0, .int v1], (jE0, M))) 1 rfl ?_
    refine g_gf (ci := 0) (k := 10) rfl rfl rfl pl0 ?_
    refine g_pure (c' := (16, [(2, .int (v1 &&& ((M l0 10) ^^^ (-1 : Int32)))), (0, .ref l0), (1, .int l1)], [.ref l0], (jE0, M))) 5 rfl ?_
    refine g_gf (ci := 0) (k := 13) rfl rfl rfl pl0 ?_
    refine g_pure (c' := (20, [(2, .int (v1 &&& ((M l0 10) ^^^ (-1 : Int32)))), (0, .ref l0), (1, .int l1)], [.int l1, .int (M l0 13)], (jE0, M))) 1 rfl ?_
    refine g_cI rfl (jc_s rfl rfl) (c101 (M l0 13) l1) (by decide) (fun v2 qv2 => ?_)
    refine g_if_eq (tgt := 33) rfl rfl (fun q3 => ?_) (fun q3 => ?_)
    · refine g_pure (c' := (34, [(2, .int (v1 &&& ((M l0 10) ^^^ (-1 : Int32)))), (0, .ref l0), (1, .int l1)], [.int (0 : Int32)], (jE0, M))) 1 rfl ?_
      refine g_weakk (lv := [(0, .ref l0), (1, .int l1), (2, .int (v1 &&& ((M l0 10) ^^^ (-1 : Int32))))]) ⟨rfl, rfl, rfl, trivial⟩ [0, 1, 2] rfl (by decide) [2, 0, 1] rfl (by decide) ?_
      exact (c15_34 l0 l1 (v1 &&& ((M l0 10) ^^^ (-1 : Int32))) (0 : Int32) pl0)
    · refine g_pure (c' := (27, [(2, .int (v1 &&& ((M l0 10) ^^^ (-1 : Int32)))), (0, .ref l0), (1, .int l1)], [.ref l0], (jE0, M))) 1 rfl ?_
      refine g_gf (ci := 0) (k := 10) rfl rfl rfl pl0 ?_
      refine g_pure (c' := (34, [(2, .int (v1 &&& ((M l0 10) ^^^ (-1 : Int32)))), (0, .ref l0), (1, .int l1)], [.int (M l0 10)], (jE0, M))) 1 rfl ?_
      refine g_weakk (lv := [(0, .ref l0), (1, .int l1), (2, .int (v1 &&& ((M l0 10) ^^^ (-1 : Int32))))]) ⟨rfl, rfl, rfl, trivial⟩ [0, 1, 2] rfl (by decide) [2, 0, 1] rfl (by decide) ?_
      exact (c15_34 l0 l1 (v1 &&& ((M l0 10) ^^^ (-1 : Int32))) (M l0 10) pl0)
/-- CometKin.comet -/
def f73 (M : JM) (l0 : Nat) (l1 : Int32) (l2 : Int32) : Option Int32 := ((f5 M (jpt l0 1) l1).bind fun v1 => (if v1 = (0 : Int32) then (some (-2 : Int32)) else (if l2 = (0 : Int32) then ((f42 M (jpt (jpt l0 1) 8) l1).bind fun v4 => (some v4)) else (if l2 = (1 : Int32) then ((f42 M (jpt (jpt l0 1) 9) l1).bind fun v6 => (some v6)) else (if l2 = (2 : Int32) then ((f101 (M (jpt l0 1) 11) l1).bind fun v8 => (if v8 = (0 : Int32) then (some (0 : Int32)) else (some (1 : Int32)))) else (if l2 = (3 : Int32) then ((f15 M (jpt l0 1) l1).bind fun v11 => (some v11)) else (some (-3 : Int32))))))))
set_option maxRecDepth 100000 in
theorem c73 {xs : Option (List Int32)} {M : JM} (l0 : Nat) (l1 : Int32) (l2 : Int32) (pl0 : jok jE0 l0 6 = true) : JG xs 3 73 (f73 M l0 l1 l2) (fun x r => r = (some (.int x), (jE0, M))) (0, [(0, .ref l0), (1, .int l1), (2, .int l2)], [], (jE0, M)) := by
    unfold f73
    refine g_pure (c' := (1, [(0, .ref l0), (1, .int l1), (2, .int l2)], [.ref l0], (jE0, M))) 1 rfl ?_
    refine g_gp rfl rfl rfl pl0 (jp_ok (kd := 0) pl0 (by decide) (by decide) rfl rfl).1 ?_
    refine g_pure (c' := (5, [(0, .ref l0), (1, .int l1), (2, .int l2)], [.int l1, .ref (jpt l0 1)], (jE0, M))) 1 rfl ?_
    refine g_cI rfl (jc_v rfl rfl (jv_o (jk_ok (kd := 0) pl0 (by decide) (by decide) rfl rfl) rfl) rfl) (c5 (jpt l0 1) l1 (jk_ok (kd := 0) pl0 (by decide) (by decide) rfl rfl)) (by decide) (fun v1 qv1 => ?_)
    refine g_if_ne (tgt := 14) rfl rfl (fun q2 => ?_) (fun q2 => ?_)
    · refine g_pure (c' := (13, [(0, .ref l0), (1, .int l1), (2, .int l2)], [.int (-2 : Int32)], (jE0, M))) 1 rfl ?_
      exact g_ret rfl rfl (fun _ h => h)
    · refine g_pure (c' := (15, [(0, .ref l0), (1, .int l1), (2, .int l2)], [.int l2], (jE0, M))) 1 rfl ?_
      refine g_eq (fun q3 => ?_) (fun q3 => ?_)
      · refine g_t1 q3 rfl rfl ?_
        refine g_pure (c' := (45, [(0, .ref l0), (1, .int l1), (2, .int l2)], [.ref l0], (jE0, M))) 1 rfl ?_
        refine g_gp rfl rfl rfl pl0 (jp_ok (kd := 0) pl0 (by decide) (by decide) rfl rfl).1 ?_
        refine g_gp rfl rfl rfl (jk_ok (kd := 0) pl0 (by decide) (by decide) rfl rfl) (jp_ok (kd := 3) (jk_ok (kd := 0) pl0 (by decide) (by decide) rfl rfl) (by decide) (by decide) rfl rfl).1 ?_
        refine g_pure (c' := (52, [(0, .ref l0), (1, .int l1), (2, .int l2)], [.int l1, .ref (jpt (jpt l0 1) 8)], (jE0, M))) 1 rfl ?_
        refine g_cI rfl (jc_v rfl rfl (jv_o (jk_ok (kd := 3) (jk_ok (kd := 0) pl0 (by decide) (by decide) rfl rfl) (by decide) (by decide) rfl rfl) rfl) rfl) (c42 (jpt (jpt l0 1) 8) l1 (jk_ok (kd := 3) (jk_ok (kd := 0) pl0 (by decide) (by decide) rfl rfl) (by decide) (by decide) rfl rfl)) (by decide) (fun v4 qv4 => ?_)
        exact g_ret rfl rfl (fun _ h => h)
      refine g_eq (fun q5 => ?_) (fun q5 => ?_)
      · refine g_t1 q5 rfl rfl ?_
        refine g_pure (c' := (57, [(0, .ref l0), (1, .int l1), (2, .int l2)], [.ref l0], (jE0, M))) 1 rfl ?_
        refine g_gp rfl rfl rfl pl0 (jp_ok (kd := 0) pl0 (by decide) (by decide) rfl rfl).1 ?_
        refine g_gp rfl rfl rfl (jk_ok (kd := 0) pl0 (by decide) (by decide) rfl rfl) (jp_ok (kd := 3) (jk_ok (kd := 0) pl0 (by decide) (by decide) rfl rfl) (by decide) (by decide) rfl rfl).1 ?_
        refine g_pure (c' := (64, [(0, .ref l0), (1, .int l1), (2, .int l2)], [.int l1, .ref (jpt (jpt l0 1) 9)], (jE0, M))) 1 rfl ?_
        refine g_cI rfl (jc_v rfl rfl (jv_o (jk_ok (kd := 3) (jk_ok (kd := 0) pl0 (by decide) (by decide) rfl rfl) (by decide) (by decide) rfl rfl) rfl) rfl) (c42 (jpt (jpt l0 1) 9) l1 (jk_ok (kd := 3) (jk_ok (kd := 0) pl0 (by decide) (by decide) rfl rfl) (by decide) (by decide) rfl rfl)) (by decide) (fun v6 qv6 => ?_)
        exact g_ret rfl rfl (fun _ h => h)
      refine g_eq (fun q7 => ?_) (fun q7 => ?_)
      · refine g_t1 q7 rfl rfl ?_
        refine g_pure (c' := (69, [(0, .ref l0), (1, .int l1), (2, .int l2)], [.ref l0], (jE0, M))) 1 rfl ?_
        refine g_gp rfl rfl rfl pl0 (jp_ok (kd := 0) pl0 (by decide) (by decide) rfl rfl).1 ?_
        refine g_gf (ci := 0) (k := 11) rfl rfl rfl (jk_ok (kd := 0) pl0 (by decide) (by decide) rfl rfl) ?_
        refine g_pure (c' := (76, [(0, .ref l0), (1, .int l1), (2, .int l2)], [.int l1, .int (M (jpt l0 1) 11)], (jE0, M))) 1 rfl ?_
        refine g_cI rfl (jc_s rfl rfl) (c101 (M (jpt l0 1) 11) l1) (by decide) (fun v8 qv8 => ?_)
        refine g_if_eq (tgt := 86) rfl rfl (fun q9 => ?_) (fun q9 => ?_)
        · refine g_pure (c' := (87, [(0, .ref l0), (1, .int l1), (2, .int l2)], [.int (0 : Int32)], (jE0, M))) 1 rfl ?_
          exact g_ret rfl rfl (fun _ h => h)
        · refine g_pure (c' := (87, [(0, .ref l0), (1, .int l1), (2, .int l2)], [.int (1 : Int32)], (jE0, M))) 2 rfl ?_
          exact g_ret rfl rfl (fun _ h => h)
      refine g_eq (fun q10 => ?_) (fun q10 => ?_)
      · refine g_t1 q10 rfl rfl ?_
        refine g_pure (c' := (89, [(0, .ref l0), (1, .int l1), (2, .int l2)], [.ref l0], (jE0, M))) 1 rfl ?_
        refine g_gp rfl rfl rfl pl0 (jp_ok (kd := 0) pl0 (by decide) (by decide) rfl rfl).1 ?_
        refine g_pure (c' := (93, [(0, .ref l0), (1, .int l1), (2, .int l2)], [.int l1, .ref (jpt l0 1)], (jE0, M))) 1 rfl ?_
        refine g_cI rfl (jc_v rfl rfl (jv_o (jk_ok (kd := 0) pl0 (by decide) (by decide) rfl rfl) rfl) rfl) (c15 (jpt l0 1) l1 (jk_ok (kd := 0) pl0 (by decide) (by decide) rfl rfl)) (by decide) (fun v11 qv11 => ?_)
        exact g_ret rfl rfl (fun _ h => h)
      refine g_t0 (tgt := 97) rfl (fun v h1 h2 => ?_) rfl ?_
      · rcases (show v = 0 ∨ v = 1 ∨ v = 2 ∨ v = 3 by omega) with rfl | rfl | rfl | rfl
        · exact q3
        · exact q5
        · exact q7
        · exact q10
      refine g_pure (c' := (99, [(0, .ref l0), (1, .int l1), (2, .int l2)], [.int (-3 : Int32)], (jE0, M))) 1 rfl ?_
      exact g_ret rfl rfl (fun _ h => h)
/-- CometKinModel.isComet -/
def f161 (M : JM) (l0 : Nat) (l1 : Int32) : Option Int32 := ((f125 ((l1).toInt64) (0 : Int64) ((((M l0 13) - (1 : Int32))).toInt64)).bind fun v1 => (jbo 161 v1))
set_option maxRecDepth 100000 in
theorem c161 {xs : Option (List Int32)} {M : JM} (l0 : Nat) (l1 : Int32) (pl0 : jok jE0 l0 7 = true) : JG xs 1 161 (f161 M l0 l1) (fun x r => r = (some (.int x), (jE0, M))) (0, [(0, .ref l0), (1, .int l1)], [], (jE0, M)) := by
    unfold f161
    refine g_pure (c' := (4, [(0, .ref l0), (1, .int l1)], [.ref l0, .long (0 : Int64), .long ((l1).toInt64)], (jE0, M))) 4 rfl ?_
    refine g_gf (ci := 7) (k := 13) rfl rfl rfl pl0 ?_
    refine g_pure (c' := (10, [(0, .ref l0), (1, .int l1)], [.long ((((M l0 13) - (1 : Int32))).toInt64), .long (0 : Int64), .long ((l1).toInt64)], (jE0, M))) 3 rfl ?_
    refine g_cI rfl (jc_s rfl rfl) (c125 ((l1).toInt64) (0 : Int64) ((((M l0 13) - (1 : Int32))).toInt64)) (by decide) (fun v1 qv1 => ?_)
    exact g_rn rfl (fun _ _ h => h)
/-- CometKinModel.isThere -/
def f148 (M : JM) (l0 : Nat) (l1 : Int32) : Option Int32 := (if l1 = (M l0 22) then (some (0 : Int32)) else (some (1 : Int32)))
set_option maxRecDepth 100000 in
theorem c148 {xs : Option (List Int32)} {M : JM} (l0 : Nat) (l1 : Int32) (pl0 : jok jE0 l0 7 = true) : JG xs 0 148 (f148 M l0 l1) (fun x r => r = (some (.int x), (jE0, M))) (0, [(0, .ref l0), (1, .int l1)], [], (jE0, M)) := by
    unfold f148
    refine g_pure (c' := (2, [(0, .ref l0), (1, .int l1)], [.ref l0, .int l1], (jE0, M))) 2 rfl ?_
    refine g_gf (ci := 7) (k := 22) rfl rfl rfl pl0 ?_
    refine g_ic_eq (tgt := 12) rfl rfl (fun q1 => ?_) (fun q1 => ?_)
    · refine g_pure (c' := (13, [(0, .ref l0), (1, .int l1)], [.int (0 : Int32)], (jE0, M))) 1 rfl ?_
      exact g_ret rfl rfl (fun _ h => h)
    · refine g_pure (c' := (13, [(0, .ref l0), (1, .int l1)], [.int (1 : Int32)], (jE0, M))) 2 rfl ?_
      exact g_ret rfl rfl (fun _ h => h)
def f151_13  (l0 : Int32) (l1 : Int32) : Option Int32 := (if l0 = (2 : Int32) then (if l1 = (0 : Int32) then (some (1 : Int32)) else (some (0 : Int32))) else (some (0 : Int32)))
set_option maxRecDepth 100000 in
theorem c151_13 {xs : Option (List Int32)} {M : JM} : ∀ (l0 : Int32) (l1 : Int32), JG xs 0 151 (f151_13 l0 l1) (fun x r => r = (some (.int x), (jE0, M))) (13, [(0, .int l0), (1, .int l1)], [], (jE0, M)) := by
    intro l0 l1
    unfold f151_13
    refine g_pure (c' := (15, [(0, .int l0), (1, .int l1)], [.int (2 : Int32), .int l0], (jE0, M))) 2 rfl ?_
    refine g_ic_ne (tgt := 26) rfl rfl (fun q4 => ?_) (fun q4 => ?_)
    · refine g_pure (c' := (19, [(0, .int l0), (1, .int l1)], [.int l1], (jE0, M))) 1 rfl ?_
      refine g_if_ne (tgt := 26) rfl rfl (fun q5 => ?_) (fun q5 => ?_)
      · refine g_pure (c' := (27, [(0, .int l0), (1, .int l1)], [.int (1 : Int32)], (jE0, M))) 2 rfl ?_
        exact g_ret rfl rfl (fun _ h => h)
      · refine g_pure (c' := (27, [(0, .int l0), (1, .int l1)], [.int (0 : Int32)], (jE0, M))) 1 rfl ?_
        exact g_ret rfl rfl (fun _ h => h)
    · refine g_pure (c' := (27, [(0, .int l0), (1, .int l1)], [.int (0 : Int32)], (jE0, M))) 1 rfl ?_
      exact g_ret rfl rfl (fun _ h => h)
/-- CometKinModel.wouldSee -/
def f151  (l0 : Int32) (l1 : Int32) : Option Int32 := (if l0 = (0 : Int32) then (some (1 : Int32)) else (if l0 = (1 : Int32) then (if l1 = (0 : Int32) then (f151_13 l0 l1) else (some (1 : Int32))) else (f151_13 l0 l1)))
set_option maxRecDepth 100000 in
theorem c151 {xs : Option (List Int32)} {M : JM} (l0 : Int32) (l1 : Int32) : JG xs 0 151 (f151 l0 l1) (fun x r => r = (some (.int x), (jE0, M))) (0, [(0, .int l0), (1, .int l1)], [], (jE0, M)) := by
    unfold f151
    refine g_pure (c' := (1, [(0, .int l0), (1, .int l1)], [.int l0], (jE0, M))) 1 rfl ?_
    refine g_if_eq (tgt := 22) rfl rfl (fun q1 => ?_) (fun q1 => ?_)
    · refine g_pure (c' := (27, [(0, .int l0), (1, .int l1)], [.int (1 : Int32)], (jE0, M))) 2 rfl ?_
      exact g_ret rfl rfl (fun _ h => h)
    · refine g_pure (c' := (6, [(0, .int l0), (1, .int l1)], [.int (1 : Int32), .int l0], (jE0, M))) 2 rfl ?_
      refine g_ic_ne (tgt := 13) rfl rfl (fun q2 => ?_) (fun q2 => ?_)
      · refine g_pure (c' := (10, [(0, .int l0), (1, .int l1)], [.int l1], (jE0, M))) 1 rfl ?_
        refine g_if_ne (tgt := 22) rfl rfl (fun q3 => ?_) (fun q3 => ?_)
        · exact (c151_13 l0 l1)
        · refine g_pure (c' := (27, [(0, .int l0), (1, .int l1)], [.int (1 : Int32)], (jE0, M))) 2 rfl ?_
          exact g_ret rfl rfl (fun _ h => h)
      · exact (c151_13 l0 l1)
/-- CometKinModel.isAhead -/
def f147 (M : JM) (l0 : Nat) (l1 : Int32) (l2 : Int32) : Option Int32 := ((jla (jpt l0 15) l1 M).bind fun v1 => ((jla (jpt l0 15) l2 M).bind fun v2 => (if v1 < v2 then (some (1 : Int32)) else ((jla (jpt l0 15) l1 M).bind fun v4 => ((jla (jpt l0 15) l2 M).bind fun v5 => (if v4 = v5 then (if l1 < l2 then (some (1 : Int32)) else (some (0 : Int32))) else (some (0 : Int32))))))))
set_option maxRecDepth 100000 in
theorem c147 {xs : Option (List Int32)} {M : JM} (l0 : Nat) (l1 : Int32) (l2 : Int32) (pl0 : jok jE0 l0 7 = true) : JG xs 0 147 (f147 M l0 l1 l2) (fun x r => r = (some (.int x), (jE0, M))) (0, [(0, .ref l0), (1, .int l1), (2, .int l2)], [], (jE0, M)) := by
    unfold f147
    refine g_pure (c' := (1, [(0, .ref l0), (1, .int l1), (2, .int l2)], [.ref l0], (jE0, M))) 1 rfl ?_
    refine g_gp rfl rfl rfl pl0 (jp_ok (kd := 8) pl0 (by decide) (by decide) rfl rfl).1 ?_
    refine g_pure (c' := (5, [(0, .ref l0), (1, .int l1), (2, .int l2)], [.int l1, .ref (jpt l0 15)], (jE0, M))) 1 rfl ?_
    refine g_ia rfl (jk_ok (kd := 8) pl0 (by decide) (by decide) rfl rfl) (fun v1 => ?_)
    refine g_pure (c' := (7, [(0, .ref l0), (1, .int l1), (2, .int l2)], [.ref l0, .int v1], (jE0, M))) 1 rfl ?_
    refine g_gp rfl rfl rfl pl0 (jp_ok (kd := 8) pl0 (by decide) (by decide) rfl rfl).1 ?_
    refine g_pure (c' := (11, [(0, .ref l0), (1, .int l1), (2, .int l2)], [.int l2, .ref (jpt l0 15), .int v1], (jE0, M))) 1 rfl ?_
    refine g_ia rfl (jk_ok (kd := 8) pl0 (by decide) (by decide) rfl rfl) (fun v2 => ?_)
    refine g_ic_lt (tgt := 35) rfl rfl (fun q3 => ?_) (fun q3 => ?_)
    · refine g_pure (c' := (40, [(0, .ref l0), (1, .int l1), (2, .int l2)], [.int (1 : Int32)], (jE0, M))) 2 rfl ?_
      exact g_ret rfl rfl (fun _ h => h)
    · refine g_pure (c' := (16, [(0, .ref l0), (1, .int l1), (2, .int l2)], [.ref l0], (jE0, M))) 1 rfl ?_
      refine g_gp rfl rfl rfl pl0 (jp_ok (kd := 8) pl0 (by decide) (by decide) rfl rfl).1 ?_
      refine g_pure (c' := (20, [(0, .ref l0), (1, .int l1), (2, .int l2)], [.int l1, .ref (jpt l0 15)], (jE0, M))) 1 rfl ?_
      refine g_ia rfl (jk_ok (kd := 8) pl0 (by decide) (by decide) rfl rfl) (fun v4 => ?_)
      refine g_pure (c' := (22, [(0, .ref l0), (1, .int l1), (2, .int l2)], [.ref l0, .int v4], (jE0, M))) 1 rfl ?_
      refine g_gp rfl rfl rfl pl0 (jp_ok (kd := 8) pl0 (by decide) (by decide) rfl rfl).1 ?_
      refine g_pure (c' := (26, [(0, .ref l0), (1, .int l1), (2, .int l2)], [.int l2, .ref (jpt l0 15), .int v4], (jE0, M))) 1 rfl ?_
      refine g_ia rfl (jk_ok (kd := 8) pl0 (by decide) (by decide) rfl rfl) (fun v5 => ?_)
      refine g_ic_ne (tgt := 39) rfl rfl (fun q6 => ?_) (fun q6 => ?_)
      · refine g_pure (c' := (32, [(0, .ref l0), (1, .int l1), (2, .int l2)], [.int l2, .int l1], (jE0, M))) 2 rfl ?_
        refine g_ic_ge (tgt := 39) rfl rfl (fun q7 => ?_) (fun q7 => ?_)
        · refine g_pure (c' := (40, [(0, .ref l0), (1, .int l1), (2, .int l2)], [.int (1 : Int32)], (jE0, M))) 2 rfl ?_
          exact g_ret rfl rfl (fun _ h => h)
        · refine g_pure (c' := (40, [(0, .ref l0), (1, .int l1), (2, .int l2)], [.int (0 : Int32)], (jE0, M))) 1 rfl ?_
          exact g_ret rfl rfl (fun _ h => h)
      · refine g_pure (c' := (40, [(0, .ref l0), (1, .int l1), (2, .int l2)], [.int (0 : Int32)], (jE0, M))) 1 rfl ?_
        exact g_ret rfl rfl (fun _ h => h)
def f149_70 (M : JM) (h4 : Nat → Int32 → Int32 → Int32 → Option Int32) (l0 : Nat) (l1 : Int32) (l3 : Int32) (s0 : Int32) : Option Int32 := (h4 l0 l1 s0 (l3 + (1 : Int32)))
set_option maxRecDepth 100000 in
theorem c149_70 {xs : Option (List Int32)} {M : JM} (h4 : Nat → Int32 → Int32 → Int32 → Option Int32) (H4 : ∀ (l0 : Nat) (l1 : Int32) (l2 : Int32) (l3 : Int32) (pl0 : jok jE0 l0 7 = true), JG xs 1 149 (h4 l0 l1 l2 l3) (fun x r => r = (some (.int x), (jE0, M))) (4, [(0, .ref l0), (1, .int l1), (2, .int l2), (3, .int l3)], [], (jE0, M))) : ∀ (l0 : Nat) (l1 : Int32) (l3 : Int32) (s0 : Int32) (pl0 : jok jE0 l0 7 = true), JG xs 1 149 (f149_70 M h4 l0 l1 l3 s0) (fun x r => r = (some (.int x), (jE0, M))) (70, [(0, .ref l0), (1, .int l1), (3, .int l3)], [.int s0], (jE0, M)) := by
    intro l0 l1 l3 s0 pl0
    unfold f149_70
    refine g_pure (c' := (4, [(3, .int (l3 + (1 : Int32))), (2, .int s0), (0, .ref l0), (1, .int l1)], [], (jE0, M))) 3 rfl ?_
    refine g_weakk (lv := [(0, .ref l0), (1, .int l1), (2, .int s0), (3, .int (l3 + (1 : Int32)))]) ⟨rfl, rfl, rfl, rfl, trivial⟩ [0, 1, 2, 3] rfl (by decide) [3, 2, 0, 1] rfl (by decide) ?_
    exact (H4 l0 l1 s0 (l3 + (1 : Int32)) pl0)
def f149_69 (M : JM) (h4 : Nat → Int32 → Int32 → Int32 → Option Int32) (l0 : Nat) (l1 : Int32) (l2 : Int32) (l3 : Int32) : Option Int32 := (f149_70 M h4 l0 l1 l3 l2)
set_option maxRecDepth 100000 in
theorem c149_69 {xs : Option (List Int32)} {M : JM} (h4 : Nat → Int32 → Int32 → Int32 → Option Int32) (H4 : ∀ (l0 : Nat) (l1 : Int32) (l2 : Int32) (l3 : Int32) (pl0 : jok jE0 l0 7 = true), JG xs 1 149 (h4 l0 l1 l2 l3) (fun x r => r = (some (.int x), (jE0, M))) (4, [(0, .ref l0), (1, .int l1), (2, .int l2), (3, .int l3)], [], (jE0, M))) : ∀ (l0 : Nat) (l1 : Int32) (l2 : Int32) (l3 : Int32) (pl0 : jok jE0 l0 7 = true), JG xs 1 149 (f149_69 M h4 l0 l1 l2 l3) (fun x r => r = (some (.int x), (jE0, M))) (69, [(0, .ref l0), (1, .int l1), (2, .int l2), (3, .int l3)], [], (jE0, M)) := by
    intro l0 l1 l2 l3 pl0
    unfold f149_69
    refine g_pure (c' := (70, [(0, .ref l0), (1, .int l1), (2, .int l2), (3, .int l3)], [.int l2], (jE0, M))) 1 rfl ?_
    refine g_weakk (lv := [(0, .ref l0), (1, .int l1), (3, .int l3)]) ⟨rfl, rfl, rfl, trivial⟩ [0, 1, 3] rfl (by decide) [0, 1, 2, 3] rfl (by decide) ?_
    exact (c149_70 h4 H4 l0 l1 l3 l2 pl0)
def f149_65 (M : JM) (h4 : Nat → Int32 → Int32 → Int32 → Option Int32) (l0 : Nat) (l1 : Int32) (l3 : Int32) : Option Int32 := (f149_70 M h4 l0 l1 l3 l3)
set_option maxRecDepth 100000 in
theorem c149_65 {xs : Option (List Int32)} {M : JM} (h4 : Nat → Int32 → Int32 → Int32 → Option Int32) (H4 : ∀ (l0 : Nat) (l1 : Int32) (l2 : Int32) (l3 : Int32) (pl0 : jok jE0 l0 7 = true), JG xs 1 149 (h4 l0 l1 l2 l3) (fun x r => r = (some (.int x), (jE0, M))) (4, [(0, .ref l0), (1, .int l1), (2, .int l2), (3, .int l3)], [], (jE0, M))) : ∀ (l0 : Nat) (l1 : Int32) (l3 : Int32) (pl0 : jok jE0 l0 7 = true), JG xs 1 149 (f149_65 M h4 l0 l1 l3) (fun x r => r = (some (.int x), (jE0, M))) (65, [(0, .ref l0), (1, .int l1), (3, .int l3)], [], (jE0, M)) := by
    intro l0 l1 l3 pl0
    unfold f149_65
    refine g_pure (c' := (70, [(0, .ref l0), (1, .int l1), (3, .int l3)], [.int l3], (jE0, M))) 2 rfl ?_
    exact (c149_70 h4 H4 l0 l1 l3 l3 pl0)
def f149_44 (M : JM) (h4 : Nat → Int32 → Int32 → Int32 → Option Int32) (l0 : Nat) (l1 : Int32) (l2 : Int32) (l3 : Int32) (s0 : Int32) : Option Int32 := (if s0 = (0 : Int32) then (f149_69 M h4 l0 l1 l2 l3) else (if l2 = (-1 : Int32) then (f149_65 M h4 l0 l1 l3) else ((f147 M l0 l2 l3).bind fun v6 => (if v6 = (0 : Int32) then (f149_69 M h4 l0 l1 l2 l3) else (f149_65 M h4 l0 l1 l3)))))
set_option maxRecDepth 100000 in
theorem c149_44 {xs : Option (List Int32)} {M : JM} (h4 : Nat → Int32 → Int32 → Int32 → Option Int32) (H4 : ∀ (l0 : Nat) (l1 : Int32) (l2 : Int32) (l3 : Int32) (pl0 : jok jE0 l0 7 = true), JG xs 1 149 (h4 l0 l1 l2 l3) (fun x r => r = (some (.int x), (jE0, M))) (4, [(0, .ref l0), (1, .int l1), (2, .int l2), (3, .int l3)], [], (jE0, M))) : ∀ (l0 : Nat) (l1 : Int32) (l2 : Int32) (l3 : Int32) (s0 : Int32) (pl0 : jok jE0 l0 7 = true), JG xs 1 149 (f149_44 M h4 l0 l1 l2 l3 s0) (fun x r => r = (some (.int x), (jE0, M))) (44, [(0, .ref l0), (1, .int l1), (2, .int l2), (3, .int l3)], [.int s0], (jE0, M)) := by
    intro l0 l1 l2 l3 s0 pl0
    unfold f149_44
    refine g_pure (c' := (48, [(4, .int s0), (0, .ref l0), (1, .int l1), (2, .int l2), (3, .int l3)], [.int s0], (jE0, M))) 2 rfl ?_
    refine g_if_eq (tgt := 69) rfl rfl (fun q4 => ?_) (fun q4 => ?_)
    · refine g_weakk (lv := [(0, .ref l0), (1, .int l1), (2, .int l2), (3, .int l3)]) ⟨rfl, rfl, rfl, rfl, trivial⟩ [0, 1, 2, 3] rfl (by decide) [4, 0, 1, 2, 3] rfl (by decide) ?_
      exact (c149_69 h4 H4 l0 l1 l2 l3 pl0)
    · refine g_pure (c' := (53, [(4, .int s0), (0, .ref l0), (1, .int l1), (2, .int l2), (3, .int l3)], [.int (-1 : Int32), .int l2], (jE0, M))) 2 rfl ?_
      refine g_ic_eq (tgt := 65) rfl rfl (fun q5 => ?_) (fun q5 => ?_)
      · refine g_weakk (lv := [(0, .ref l0), (1, .int l1), (3, .int l3)]) ⟨rfl, rfl, rfl, trivial⟩ [0, 1, 3] rfl (by decide) [4, 0, 1, 2, 3] rfl (by decide) ?_
        exact (c149_65 h4 H4 l0 l1 l3 pl0)
      · refine g_pure (c' := (59, [(4, .int s0), (0, .ref l0), (1, .int l1), (2, .int l2), (3, .int l3)], [.int l3, .int l2, .ref l0], (jE0, M))) 3 rfl ?_
        refine g_cI rfl (jc_v rfl rfl (jv_o pl0 rfl) rfl) (c147 l0 l2 l3 pl0) (by decide) (fun v6 qv6 => ?_)
        refine g_if_eq (tgt := 69) rfl rfl (fun q7 => ?_) (fun q7 => ?_)
        · refine g_weakk (lv := [(0, .ref l0), (1, .int l1), (2, .int l2), (3, .int l3)]) ⟨rfl, rfl, rfl, rfl, trivial⟩ [0, 1, 2, 3] rfl (by decide) [4, 0, 1, 2, 3] rfl (by decide) ?_
          exact (c149_69 h4 H4 l0 l1 l2 l3 pl0)
        · refine g_weakk (lv := [(0, .ref l0), (1, .int l1), (3, .int l3)]) ⟨rfl, rfl, rfl, trivial⟩ [0, 1, 3] rfl (by decide) [4, 0, 1, 2, 3] rfl (by decide) ?_
          exact (c149_65 h4 H4 l0 l1 l3 pl0)
def f149_43 (M : JM) (h4 : Nat → Int32 → Int32 → Int32 → Option Int32) (l0 : Nat) (l1 : Int32) (l2 : Int32) (l3 : Int32) : Option Int32 := (f149_44 M h4 l0 l1 l2 l3 (0 : Int32))
set_option maxRecDepth 100000 in
theorem c149_43 {xs : Option (List Int32)} {M : JM} (h4 : Nat → Int32 → Int32 → Int32 → Option Int32) (H4 : ∀ (l0 : Nat) (l1 : Int32) (l2 : Int32) (l3 : Int32) (pl0 : jok jE0 l0 7 = true), JG xs 1 149 (h4 l0 l1 l2 l3) (fun x r => r = (some (.int x), (jE0, M))) (4, [(0, .ref l0), (1, .int l1), (2, .int l2), (3, .int l3)], [], (jE0, M))) : ∀ (l0 : Nat) (l1 : Int32) (l2 : Int32) (l3 : Int32) (pl0 : jok jE0 l0 7 = true), JG xs 1 149 (f149_43 M h4 l0 l1 l2 l3) (fun x r => r = (some (.int x), (jE0, M))) (43, [(0, .ref l0), (1, .int l1), (2, .int l2), (3, .int l3)], [], (jE0, M)) := by
    intro l0 l1 l2 l3 pl0
    unfold f149_43
    refine g_pure (c' := (44, [(0, .ref l0), (1, .int l1), (2, .int l2), (3, .int l3)], [.int (0 : Int32)], (jE0, M))) 1 rfl ?_
    exact (c149_44 h4 H4 l0 l1 l2 l3 (0 : Int32) pl0)
def f149_4 (M : JM) : Nat → Nat → Int32 → Int32 → Int32 → Option Int32
  | 0, _, _, _, _ => none
  | n + 1, l0, l1, l2, l3 => (if l3 < (M l0 13) then ((f148 M l0 l3).bind fun v2 => (if v2 = (0 : Int32) then (f149_43 M (f149_4 M n) l0 l1 l2 l3) else ((jla (jpt l0 14) l3 M).bind fun v8 => (if v8 = (3 : Int32) then (f149_43 M (f149_4 M n) l0 l1 l2 l3) else ((f147 M l0 l3 l1).bind fun v10 => (if v10 = (0 : Int32) then (f149_43 M (f149_4 M n) l0 l1 l2 l3) else (f149_44 M (f149_4 M n) l0 l1 l2 l3 (1 : Int32)))))))) else (some l2))
set_option maxRecDepth 100000 in
theorem c149_4 {xs : Option (List Int32)} {M : JM} : ∀ (n : Nat) (l0 : Nat) (l1 : Int32) (l2 : Int32) (l3 : Int32) (pl0 : jok jE0 l0 7 = true), JG xs 1 149 (f149_4 M n l0 l1 l2 l3) (fun x r => r = (some (.int x), (jE0, M))) (4, [(0, .ref l0), (1, .int l1), (2, .int l2), (3, .int l3)], [], (jE0, M))
  | 0, _, _, _, _, _ => by rw [f149_4]; exact g_none
  | n + 1, l0, l1, l2, l3, pl0 => by
    rw [f149_4]
    refine g_pure (c' := (6, [(0, .ref l0), (1, .int l1), (2, .int l2), (3, .int l3)], [.ref l0, .int l3], (jE0, M))) 2 rfl ?_
    refine g_gf (ci := 7) (k := 13) rfl rfl rfl pl0 ?_
    refine g_ic_ge (tgt := 77) rfl rfl (fun q1 => ?_) (fun q1 => ?_)
    · refine g_pure (c' := (14, [(0, .ref l0), (1, .int l1), (2, .int l2), (3, .int l3)], [.int l3, .ref l0], (jE0, M))) 2 rfl ?_
      refine g_cI rfl (jc_v rfl rfl (jv_o pl0 rfl) rfl) (c148 l0 l3 pl0) (by decide) (fun v2 qv2 => ?_)
      refine g_if_eq (tgt := 43) rfl rfl (fun q3 => ?_) (fun q3 => ?_)
      · exact (c149_43 (f149_4 M n) (c149_4 n) l0 l1 l2 l3 pl0)
      · refine g_pure (c' := (21, [(0, .ref l0), (1, .int l1), (2, .int l2), (3, .int l3)], [.ref l0], (jE0, M))) 1 rfl ?_
        refine g_gp rfl rfl rfl pl0 (jp_ok (kd := 8) pl0 (by decide) (by decide) rfl rfl).1 ?_
        refine g_pure (c' := (25, [(0, .ref l0), (1, .int l1), (2, .int l2), (3, .int l3)], [.int l3, .ref (jpt l0 14)], (jE0, M))) 1 rfl ?_
        refine g_ia rfl (jk_ok (kd := 8) pl0 (by decide) (by decide) rfl rfl) (fun v8 => ?_)
        refine g_pure (c' := (27, [(0, .ref l0), (1, .int l1), (2, .int l2), (3, .int l3)], [.int (3 : Int32), .int v8], (jE0, M))) 1 rfl ?_
        refine g_ic_eq (tgt := 43) rfl rfl (fun q9 => ?_) (fun q9 => ?_)
        · exact (c149_43 (f149_4 M n) (c149_4 n) l0 l1 l2 l3 pl0)
        · refine g_pure (c' := (33, [(0, .ref l0), (1, .int l1), (2, .int l2), (3, .int l3)], [.int l1, .int l3, .ref l0], (jE0, M))) 3 rfl ?_
          refine g_cI rfl (jc_v rfl rfl (jv_o pl0 rfl) rfl) (c147 l0 l3 l1 pl0) (by decide) (fun v10 qv10 => ?_)
          refine g_if_eq (tgt := 43) rfl rfl (fun q11 => ?_) (fun q11 => ?_)
          · exact (c149_43 (f149_4 M n) (c149_4 n) l0 l1 l2 l3 pl0)
          · refine g_pure (c' := (44, [(0, .ref l0), (1, .int l1), (2, .int l2), (3, .int l3)], [.int (1 : Int32)], (jE0, M))) 2 rfl ?_
            exact (c149_44 (f149_4 M n) (c149_4 n) l0 l1 l2 l3 (1 : Int32) pl0)
    · refine g_pure (c' := (78, [(0, .ref l0), (1, .int l1), (2, .int l2), (3, .int l3)], [.int l2], (jE0, M))) 1 rfl ?_
      exact g_ret rfl rfl (fun _ h => h)
/-- CometKinModel.cancelledBy -/
def f149 (M : JM) (l0 : Nat) (l1 : Int32) : Option Int32 := (f149_4 M 1000 l0 l1 (-1 : Int32) (0 : Int32))
set_option maxRecDepth 100000 in
theorem c149 {xs : Option (List Int32)} {M : JM} (l0 : Nat) (l1 : Int32) (pl0 : jok jE0 l0 7 = true) : JG xs 1 149 (f149 M l0 l1) (fun x r => r = (some (.int x), (jE0, M))) (0, [(0, .ref l0), (1, .int l1)], [], (jE0, M)) := by
    unfold f149
    refine g_pure (c' := (4, [(3, .int (0 : Int32)), (2, .int (-1 : Int32)), (0, .ref l0), (1, .int l1)], [], (jE0, M))) 4 rfl ?_
    refine g_weakk (lv := [(0, .ref l0), (1, .int l1), (2, .int (-1 : Int32)), (3, .int (0 : Int32))]) ⟨rfl, rfl, rfl, rfl, trivial⟩ [0, 1, 2, 3] rfl (by decide) [3, 2, 0, 1] rfl (by decide) ?_
    exact (c149_4 1000 l0 l1 (-1 : Int32) (0 : Int32) pl0)
def f150_48 (M : JM) (h4 : Nat → Int32 → Int32 → Int32 → Option Int32) (l0 : Nat) (l1 : Int32) (l3 : Int32) (s0 : Int32) : Option Int32 := (h4 l0 l1 s0 (l3 + (1 : Int32)))
set_option maxRecDepth 100000 in
theorem c150_48 {xs : Option (List Int32)} {M : JM} (h4 : Nat → Int32 → Int32 → Int32 → Option Int32) (H4 : ∀ (l0 : Nat) (l1 : Int32) (l2 : Int32) (l3 : Int32) (pl0 : jok jE0 l0 7 = true), JG xs 2 150 (h4 l0 l1 l2 l3) (fun x r => r = (some (.int x), (jE0, M))) (4, [(0, .ref l0), (1, .int l1), (2, .int l2), (3, .int l3)], [], (jE0, M))) : ∀ (l0 : Nat) (l1 : Int32) (l3 : Int32) (s0 : Int32) (pl0 : jok jE0 l0 7 = true), JG xs 2 150 (f150_48 M h4 l0 l1 l3 s0) (fun x r => r = (some (.int x), (jE0, M))) (48, [(0, .ref l0), (1, .int l1), (3, .int l3)], [.int s0], (jE0, M)) := by
    intro l0 l1 l3 s0 pl0
    unfold f150_48
    refine g_pure (c' := (4, [(3, .int (l3 + (1 : Int32))), (2, .int s0), (0, .ref l0), (1, .int l1)], [], (jE0, M))) 3 rfl ?_
    refine g_weakk (lv := [(0, .ref l0), (1, .int l1), (2, .int s0), (3, .int (l3 + (1 : Int32)))]) ⟨rfl, rfl, rfl, rfl, trivial⟩ [0, 1, 2, 3] rfl (by decide) [3, 2, 0, 1] rfl (by decide) ?_
    exact (H4 l0 l1 s0 (l3 + (1 : Int32)) pl0)
def f150_47 (M : JM) (h4 : Nat → Int32 → Int32 → Int32 → Option Int32) (l0 : Nat) (l1 : Int32) (l3 : Int32) : Option Int32 := (f150_48 M h4 l0 l1 l3 (0 : Int32))
set_option maxRecDepth 100000 in
theorem c150_47 {xs : Option (List Int32)} {M : JM} (h4 : Nat → Int32 → Int32 → Int32 → Option Int32) (H4 : ∀ (l0 : Nat) (l1 : Int32) (l2 : Int32) (l3 : Int32) (pl0 : jok jE0 l0 7 = true), JG xs 2 150 (h4 l0 l1 l2 l3) (fun x r => r = (some (.int x), (jE0, M))) (4, [(0, .ref l0), (1, .int l1), (2, .int l2), (3, .int l3)], [], (jE0, M))) : ∀ (l0 : Nat) (l1 : Int32) (l3 : Int32) (pl0 : jok jE0 l0 7 = true), JG xs 2 150 (f150_47 M h4 l0 l1 l3) (fun x r => r = (some (.int x), (jE0, M))) (47, [(0, .ref l0), (1, .int l1), (3, .int l3)], [], (jE0, M)) := by
    intro l0 l1 l3 pl0
    unfold f150_47
    refine g_pure (c' := (48, [(0, .ref l0), (1, .int l1), (3, .int l3)], [.int (0 : Int32)], (jE0, M))) 1 rfl ?_
    exact (c150_48 h4 H4 l0 l1 l3 (0 : Int32) pl0)
def f150_43 (M : JM) (h4 : Nat → Int32 → Int32 → Int32 → Option Int32) (l0 : Nat) (l1 : Int32) (l3 : Int32) : Option Int32 := (f150_48 M h4 l0 l1 l3 (1 : Int32))
set_option maxRecDepth 100000 in
theorem c150_43 {xs : Option (List Int32)} {M : JM} (h4 : Nat → Int32 → Int32 → Int32 → Option Int32) (H4 : ∀ (l0 : Nat) (l1 : Int32) (l2 : Int32) (l3 : Int32) (pl0 : jok jE0 l0 7 = true), JG xs 2 150 (h4 l0 l1 l2 l3) (fun x r => r = (some (.int x), (jE0, M))) (4, [(0, .ref l0), (1, .int l1), (2, .int l2), (3, .int l3)], [], (jE0, M))) : ∀ (l0 : Nat) (l1 : Int32) (l3 : Int32) (pl0 : jok jE0 l0 7 = true), JG xs 2 150 (f150_43 M h4 l0 l1 l3) (fun x r => r = (some (.int x), (jE0, M))) (43, [(0, .ref l0), (1, .int l1), (3, .int l3)], [], (jE0, M)) := by
    intro l0 l1 l3 pl0
    unfold f150_43
    refine g_pure (c' := (48, [(0, .ref l0), (1, .int l1), (3, .int l3)], [.int (1 : Int32)], (jE0, M))) 2 rfl ?_
    exact (c150_48 h4 H4 l0 l1 l3 (1 : Int32) pl0)
def f150_4 (M : JM) : Nat → Nat → Int32 → Int32 → Int32 → Option Int32
  | 0, _, _, _, _ => none
  | n + 1, l0, l1, l2, l3 => (if l3 < (M l0 13) then (if l2 = (0 : Int32) then ((f148 M l0 l3).bind fun v3 => (if v3 = (0 : Int32) then (f150_47 M (f150_4 M n) l0 l1 l3) else ((jla (jpt l0 14) l3 M).bind fun v5 => (if v5 = (3 : Int32) then ((f149 M l0 l3).bind fun v7 => (if v7 = l1 then (f150_43 M (f150_4 M n) l0 l1 l3) else (f150_47 M (f150_4 M n) l0 l1 l3))) else (f150_47 M (f150_4 M n) l0 l1 l3))))) else (f150_43 M (f150_4 M n) l0 l1 l3)) else (jbo 150 l2))
set_option maxRecDepth 100000 in
theorem c150_4 {xs : Option (List Int32)} {M : JM} : ∀ (n : Nat) (l0 : Nat) (l1 : Int32) (l2 : Int32) (l3 : Int32) (pl0 : jok jE0 l0 7 = true), JG xs 2 150 (f150_4 M n l0 l1 l2 l3) (fun x r => r = (some (.int x), (jE0, M))) (4, [(0, .ref l0), (1, .int l1), (2, .int l2), (3, .int l3)], [], (jE0, M))
  | 0, _, _, _, _, _ => by rw [f150_4]; exact g_none
  | n + 1, l0, l1, l2, l3, pl0 => by
    rw [f150_4]
    refine g_pure (c' := (6, [(0, .ref l0), (1, .int l1), (2, .int l2), (3, .int l3)], [.ref l0, .int l3], (jE0, M))) 2 rfl ?_
    refine g_gf (ci := 7) (k := 13) rfl rfl rfl pl0 ?_
    refine g_ic_ge (tgt := 55) rfl rfl (fun q1 => ?_) (fun q1 => ?_)
    · refine g_pure (c' := (13, [(0, .ref l0), (1, .int l1), (2, .int l2), (3, .int l3)], [.int l2], (jE0, M))) 1 rfl ?_
      refine g_if_ne (tgt := 43) rfl rfl (fun q2 => ?_) (fun q2 => ?_)
      · refine g_pure (c' := (18, [(0, .ref l0), (1, .int l1), (2, .int l2), (3, .int l3)], [.int l3, .ref l0], (jE0, M))) 2 rfl ?_
        refine g_cI rfl (jc_v rfl rfl (jv_o pl0 rfl) rfl) (c148 l0 l3 pl0) (by decide) (fun v3 qv3 => ?_)
        refine g_if_eq (tgt := 47) rfl rfl (fun q4 => ?_) (fun q4 => ?_)
        · refine g_weakk (lv := [(0, .ref l0), (1, .int l1), (3, .int l3)]) ⟨rfl, rfl, rfl, trivial⟩ [0, 1, 3] rfl (by decide) [0, 1, 2, 3] rfl (by decide) ?_
          exact (c150_47 (f150_4 M n) (c150_4 n) l0 l1 l3 pl0)
        · refine g_pure (c' := (25, [(0, .ref l0), (1, .int l1), (2, .int l2), (3, .int l3)], [.ref l0], (jE0, M))) 1 rfl ?_
          refine g_gp rfl rfl rfl pl0 (jp_ok (kd := 8) pl0 (by decide) (by decide) rfl rfl).1 ?_
          refine g_pure (c' := (29, [(0, .ref l0), (1, .int l1), (2, .int l2), (3, .int l3)], [.int l3, .ref (jpt l0 14)], (jE0, M))) 1 rfl ?_
          refine g_ia rfl (jk_ok (kd := 8) pl0 (by decide) (by decide) rfl rfl) (fun v5 => ?_)
          refine g_pure (c' := (31, [(0, .ref l0), (1, .int l1), (2, .int l2), (3, .int l3)], [.int (3 : Int32), .int v5], (jE0, M))) 1 rfl ?_
          refine g_ic_ne (tgt := 47) rfl rfl (fun q6 => ?_) (fun q6 => ?_)
          · refine g_pure (c' := (36, [(0, .ref l0), (1, .int l1), (2, .int l2), (3, .int l3)], [.int l3, .ref l0], (jE0, M))) 2 rfl ?_
            refine g_cI rfl (jc_v rfl rfl (jv_o pl0 rfl) rfl) (c149 l0 l3 pl0) (by decide) (fun v7 qv7 => ?_)
            refine g_pure (c' := (40, [(0, .ref l0), (1, .int l1), (2, .int l2), (3, .int l3)], [.int l1, .int v7], (jE0, M))) 1 rfl ?_
            refine g_ic_ne (tgt := 47) rfl rfl (fun q8 => ?_) (fun q8 => ?_)
            · refine g_weakk (lv := [(0, .ref l0), (1, .int l1), (3, .int l3)]) ⟨rfl, rfl, rfl, trivial⟩ [0, 1, 3] rfl (by decide) [0, 1, 2, 3] rfl (by decide) ?_
              exact (c150_43 (f150_4 M n) (c150_4 n) l0 l1 l3 pl0)
            · refine g_weakk (lv := [(0, .ref l0), (1, .int l1), (3, .int l3)]) ⟨rfl, rfl, rfl, trivial⟩ [0, 1, 3] rfl (by decide) [0, 1, 2, 3] rfl (by decide) ?_
              exact (c150_47 (f150_4 M n) (c150_4 n) l0 l1 l3 pl0)
          · refine g_weakk (lv := [(0, .ref l0), (1, .int l1), (3, .int l3)]) ⟨rfl, rfl, rfl, trivial⟩ [0, 1, 3] rfl (by decide) [0, 1, 2, 3] rfl (by decide) ?_
            exact (c150_47 (f150_4 M n) (c150_4 n) l0 l1 l3 pl0)
      · refine g_weakk (lv := [(0, .ref l0), (1, .int l1), (3, .int l3)]) ⟨rfl, rfl, rfl, trivial⟩ [0, 1, 3] rfl (by decide) [0, 1, 2, 3] rfl (by decide) ?_
        exact (c150_43 (f150_4 M n) (c150_4 n) l0 l1 l3 pl0)
    · refine g_pure (c' := (56, [(0, .ref l0), (1, .int l1), (2, .int l2), (3, .int l3)], [.int l2], (jE0, M))) 1 rfl ?_
      exact g_rn rfl (fun _ _ h => h)
/-- CometKinModel.isCancelled -/
def f150 (M : JM) (l0 : Nat) (l1 : Int32) : Option Int32 := (f150_4 M 1000 l0 l1 (0 : Int32) (0 : Int32))
set_option maxRecDepth 100000 in
theorem c150 {xs : Option (List Int32)} {M : JM} (l0 : Nat) (l1 : Int32) (pl0 : jok jE0 l0 7 = true) : JG xs 2 150 (f150 M l0 l1) (fun x r => r = (some (.int x), (jE0, M))) (0, [(0, .ref l0), (1, .int l1)], [], (jE0, M)) := by
    unfold f150
    refine g_pure (c' := (4, [(3, .int (0 : Int32)), (2, .int (0 : Int32)), (0, .ref l0), (1, .int l1)], [], (jE0, M))) 4 rfl ?_
    refine g_weakk (lv := [(0, .ref l0), (1, .int l1), (2, .int (0 : Int32)), (3, .int (0 : Int32))]) ⟨rfl, rfl, rfl, rfl, trivial⟩ [0, 1, 2, 3] rfl (by decide) [3, 2, 0, 1] rfl (by decide) ?_
    exact (c150_4 1000 l0 l1 (0 : Int32) (0 : Int32) pl0)
def f152_29 (M : JM) (l0 : Nat) (l2 : Int32) (s0 : Int32) (s1 : Int32) : Option Int32 := ((f151 s1 s0).bind fun v6 => (if v6 = (0 : Int32) then (some (0 : Int32)) else ((f150 M l0 l2).bind fun v8 => (if v8 = (0 : Int32) then (some (1 : Int32)) else (some (0 : Int32))))))
set_option maxRecDepth 100000 in
theorem c152_29 {xs : Option (List Int32)} {M : JM} : ∀ (l0 : Nat) (l2 : Int32) (s0 : Int32) (s1 : Int32) (pl0 : jok jE0 l0 7 = true), JG xs 3 152 (f152_29 M l0 l2 s0 s1) (fun x r => r = (some (.int x), (jE0, M))) (29, [(0, .ref l0), (2, .int l2)], [.int s0, .int s1], (jE0, M)) := by
    intro l0 l2 s0 s1 pl0
    unfold f152_29
    refine g_cI rfl (jc_s rfl rfl) (c151 s1 s0) (by decide) (fun v6 qv6 => ?_)
    refine g_if_eq (tgt := 47) rfl rfl (fun q7 => ?_) (fun q7 => ?_)
    · refine g_pure (c' := (48, [(0, .ref l0), (2, .int l2)], [.int (0 : Int32)], (jE0, M))) 1 rfl ?_
      exact g_ret rfl rfl (fun _ h => h)
    · refine g_pure (c' := (37, [(0, .ref l0), (2, .int l2)], [.int l2, .ref l0], (jE0, M))) 2 rfl ?_
      refine g_cI rfl (jc_v rfl rfl (jv_o pl0 rfl) rfl) (c150 l0 l2 pl0) (by decide) (fun v8 qv8 => ?_)
      refine g_if_ne (tgt := 47) rfl rfl (fun q9 => ?_) (fun q9 => ?_)
      · refine g_pure (c' := (48, [(0, .ref l0), (2, .int l2)], [.int (1 : Int32)], (jE0, M))) 2 rfl ?_
        exact g_ret rfl rfl (fun _ h => h)
      · refine g_pure (c' := (48, [(0, .ref l0), (2, .int l2)], [.int (0 : Int32)], (jE0, M))) 1 rfl ?_
        exact g_ret rfl rfl (fun _ h => h)
/-- CometKinModel.sees -/
def f152 (M : JM) (l0 : Nat) (l1 : Int32) (l2 : Int32) : Option Int32 := ((f148 M l0 l2).bind fun v1 => (if v1 = (0 : Int32) then (some (0 : Int32)) else ((jla (jpt l0 14) l2 M).bind fun v3 => ((jla (jpt l0 8) l1 M).bind fun v4 => (if v4 = (1 : Int32) then (f152_29 M l0 l2 (1 : Int32) v3) else (f152_29 M l0 l2 (0 : Int32) v3))))))
set_option maxRecDepth 100000 in
theorem c152 {xs : Option (List Int32)} {M : JM} (l0 : Nat) (l1 : Int32) (l2 : Int32) (pl0 : jok jE0 l0 7 = true) : JG xs 3 152 (f152 M l0 l1 l2) (fun x r => r = (some (.int x), (jE0, M))) (0, [(0, .ref l0), (1, .int l1), (2, .int l2)], [], (jE0, M)) := by
    unfold f152
    refine g_pure (c' := (2, [(0, .ref l0), (1, .int l1), (2, .int l2)], [.int l2, .ref l0], (jE0, M))) 2 rfl ?_
    refine g_cI rfl (jc_v rfl rfl (jv_o pl0 rfl) rfl) (c148 l0 l2 pl0) (by decide) (fun v1 qv1 => ?_)
    refine g_if_eq (tgt := 47) rfl rfl (fun q2 => ?_) (fun q2 => ?_)
    · refine g_pure (c' := (48, [(0, .ref l0), (1, .int l1), (2, .int l2)], [.int (0 : Int32)], (jE0, M))) 1 rfl ?_
      exact g_ret rfl rfl (fun _ h => h)
    · refine g_pure (c' := (9, [(0, .ref l0), (1, .int l1), (2, .int l2)], [.ref l0], (jE0, M))) 1 rfl ?_
      refine g_gp rfl rfl rfl pl0 (jp_ok (kd := 8) pl0 (by decide) (by decide) rfl rfl).1 ?_
      refine g_pure (c' := (13, [(0, .ref l0), (1, .int l1), (2, .int l2)], [.int l2, .ref (jpt l0 14)], (jE0, M))) 1 rfl ?_
      refine g_ia rfl (jk_ok (kd := 8) pl0 (by decide) (by decide) rfl rfl) (fun v3 => ?_)
      refine g_pure (c' := (15, [(0, .ref l0), (1, .int l1), (2, .int l2)], [.ref l0, .int v3], (jE0, M))) 1 rfl ?_
      refine g_gp rfl rfl rfl pl0 (jp_ok (kd := 8) pl0 (by decide) (by decide) rfl rfl).1 ?_
      refine g_pure (c' := (19, [(0, .ref l0), (1, .int l1), (2, .int l2)], [.int l1, .ref (jpt l0 8), .int v3], (jE0, M))) 1 rfl ?_
      refine g_ia rfl (jk_ok (kd := 8) pl0 (by decide) (by decide) rfl rfl) (fun v4 => ?_)
      refine g_pure (c' := (21, [(0, .ref l0), (1, .int l1), (2, .int l2)], [.int (1 : Int32), .int v4, .int v3], (jE0, M))) 1 rfl ?_
      refine g_ic_ne (tgt := 28) rfl rfl (fun q5 => ?_) (fun q5 => ?_)
      · refine g_pure (c' := (29, [(0, .ref l0), (1, .int l1), (2, .int l2)], [.int (1 : Int32), .int v3], (jE0, M))) 2 rfl ?_
        refine g_weakk (lv := [(0, .ref l0), (2, .int l2)]) ⟨rfl, rfl, trivial⟩ [0, 2] rfl (by decide) [0, 1, 2] rfl (by decide) ?_
        exact (c152_29 l0 l2 (1 : Int32) v3 pl0)
      · refine g_pure (c' := (29, [(0, .ref l0), (1, .int l1), (2, .int l2)], [.int (0 : Int32), .int v3], (jE0, M))) 1 rfl ?_
        refine g_weakk (lv := [(0, .ref l0), (2, .int l2)]) ⟨rfl, rfl, trivial⟩ [0, 2] rfl (by decide) [0, 1, 2] rfl (by decide) ?_
        exact (c152_29 l0 l2 (0 : Int32) v3 pl0)
def f164_44 (M : JM) (h16 : Nat → Int32 → Int32 → Int32 → Int32 → Option Int32) (l0 : Nat) (l1 : Int32) (l2 : Int32) (l4 : Int32) (s0 : Int32) (s1 : Int32) : Option Int32 := (h16 l0 l1 l2 (s1 ||| s0) (l4 + (1 : Int32)))
set_option maxRecDepth 100000 in
theorem c164_44 {xs : Option (List Int32)} {M : JM} (h16 : Nat → Int32 → Int32 → Int32 → Int32 → Option Int32) (H16 : ∀ (l0 : Nat) (l1 : Int32) (l2 : Int32) (l3 : Int32) (l4 : Int32) (pl0 : jok jE0 l0 7 = true), JG xs 4 164 (h16 l0 l1 l2 l3 l4) (fun x r => r = (some (.int x), (jE0, M))) (16, [(0, .ref l0), (1, .int l1), (2, .int l2), (3, .int l3), (4, .int l4)], [], (jE0, M))) : ∀ (l0 : Nat) (l1 : Int32) (l2 : Int32) (l4 : Int32) (s0 : Int32) (s1 : Int32) (pl0 : jok jE0 l0 7 = true), JG xs 4 164 (f164_44 M h16 l0 l1 l2 l4 s0 s1) (fun x r => r = (some (.int x), (jE0, M))) (44, [(0, .ref l0), (1, .int l1), (2, .int l2), (4, .int l4)], [.int s0, .int s1], (jE0, M)) := by
    intro l0 l1 l2 l4 s0 s1 pl0
    unfold f164_44
    refine g_pure (c' := (16, [(4, .int (l4 + (1 : Int32))), (3, .int (s1 ||| s0)), (0, .ref l0), (1, .int l1), (2, .int l2)], [], (jE0, M))) 4 rfl ?_
    refine g_weakk (lv := [(0, .ref l0), (1, .int l1), (2, .int l2), (3, .int (s1 ||| s0)), (4, .int (l4 + (1 : Int32)))]) ⟨rfl, rfl, rfl, rfl, rfl, trivial⟩ [0, 1, 2, 3, 4] rfl (by decide) [4, 3, 0, 1, 2] rfl (by decide) ?_
    exact (H16 l0 l1 l2 (s1 ||| s0) (l4 + (1 : Int32)) pl0)
def f164_16 (M : JM) : Nat → Nat → Int32 → Int32 → Int32 → Int32 → Option Int32
  | 0, _, _, _, _, _ => none
  | n + 1, l0, l1, l2, l3, l4 => (if l4 < (M l0 7) then ((f152 M l0 l4 l1).bind fun v4 => (if v4 = (0 : Int32) then (f164_44 M (f164_16 M n) l0 l1 l2 l4 (0 : Int32) l3) else (f164_44 M (f164_16 M n) l0 l1 l2 l4 ((1 : Int32) <<< (l4 &&& (31 : Int32))) l3))) else (if l2 = (0 : Int32) then ((jla (jpt l0 14) l1 M).bind fun v7 => (some v7)) else (if l2 = (1 : Int32) then ((jla (jpt l0 15) l1 M).bind fun v9 => (some v9)) else (if l2 = (2 : Int32) then ((f150 M l0 l1).bind fun v11 => (if v11 = (0 : Int32) then (some (0 : Int32)) else (some (1 : Int32)))) else (if l2 = (3 : Int32) then (some l3) else (some (-3 : Int32)))))))
set_option maxRecDepth 100000 in
theorem c164_16 {xs : Option (List Int32)} {M : JM} : ∀ (n : Nat) (l0 : Nat) (l1 : Int32) (l2 : Int32) (l3 : Int32) (l4 : Int32) (pl0 : jok jE0 l0 7 = true), JG xs 4 164 (f164_16 M n l0 l1 l2 l3 l4) (fun x r => r = (some (.int x), (jE0, M))) (16, [(0, .ref l0), (1, .int l1), (2, .int l2), (3, .int l3), (4, .int l4)], [], (jE0, M))
  | 0, _, _, _, _, _, _ => by rw [f164_16]; exact g_none
  | n + 1, l0, l1, l2, l3, l4, pl0 => by
    rw [f164_16]
    refine g_pure (c' := (19, [(0, .ref l0), (1, .int l1), (2, .int l2), (3, .int l3), (4, .int l4)], [.ref l0, .int l4], (jE0, M))) 2 rfl ?_
    refine g_gf (ci := 7) (k := 7) rfl rfl rfl pl0 ?_
    refine g_ic_ge (tgt := 52) rfl rfl (fun q3 => ?_) (fun q3 => ?_)
    · refine g_pure (c' := (30, [(0, .ref l0), (1, .int l1), (2, .int l2), (3, .int l3), (4, .int l4)], [.int l1, .int l4, .ref l0, .int l3], (jE0, M))) 4 rfl ?_
      refine g_cI rfl (jc_v rfl rfl (jv_o pl0 rfl) rfl) (c152 l0 l4 l1 pl0) (by decide) (fun v4 qv4 => ?_)
      refine g_if_eq (tgt := 43) rfl rfl (fun q5 => ?_) (fun q5 => ?_)
      · refine g_pure (c' := (44, [(0, .ref l0), (1, .int l1), (2, .int l2), (3, .int l3), (4, .int l4)], [.int (0 : Int32), .int l3], (jE0, M))) 1 rfl ?_
        refine g_weakk (lv := [(0, .ref l0), (1, .int l1), (2, .int l2), (4, .int l4)]) ⟨rfl, rfl, rfl, rfl, trivial⟩ [0, 1, 2, 4] rfl (by decide) [0, 1, 2, 3, 4] rfl (by decide) ?_
        exact (c164_44 (f164_16 M n) (c164_16 n) l0 l1 l2 l4 (0 : Int32) l3 pl0)
      · refine g_pure (c' := (44, [(0, .ref l0), (1, .int l1), (2, .int l2), (3, .int l3), (4, .int l4)], [.int ((1 : Int32) <<< (l4 &&& (31 : Int32))), .int l3], (jE0, M))) 4 rfl ?_
        refine g_weakk (lv := [(0, .ref l0), (1, .int l1), (2, .int l2), (4, .int l4)]) ⟨rfl, rfl, rfl, rfl, trivial⟩ [0, 1, 2, 4] rfl (by decide) [0, 1, 2, 3, 4] rfl (by decide) ?_
        exact (c164_44 (f164_16 M n) (c164_16 n) l0 l1 l2 l4 ((1 : Int32) <<< (l4 &&& (31 : Int32))) l3 pl0)
    · refine g_pure (c' := (53, [(0, .ref l0), (1, .int l1), (2, .int l2), (3, .int l3), (4, .int l4)], [.int l2], (jE0, M))) 1 rfl ?_
      refine g_if_ne (tgt := 65) rfl rfl (fun q6 => ?_) (fun q6 => ?_)
      · refine g_pure (c' := (57, [(0, .ref l0), (1, .int l1), (2, .int l2), (3, .int l3), (4, .int l4)], [.ref l0], (jE0, M))) 1 rfl ?_
        refine g_gp rfl rfl rfl pl0 (jp_ok (kd := 8) pl0 (by decide) (by decide) rfl rfl).1 ?_
        refine g_pure (c' := (61, [(0, .ref l0), (1, .int l1), (2, .int l2), (3, .int l3), (4, .int l4)], [.int l1, .ref (jpt l0 14)], (jE0, M))) 1 rfl ?_
        refine g_ia rfl (jk_ok (kd := 8) pl0 (by decide) (by decide) rfl rfl) (fun v7 => ?_)
        refine g_pure (c' := (111, [(0, .ref l0), (1, .int l1), (2, .int l2), (3, .int l3), (4, .int l4)], [.int v7], (jE0, M))) 1 rfl ?_
        exact g_ret rfl rfl (fun _ h => h)
      · refine g_pure (c' := (67, [(0, .ref l0), (1, .int l1), (2, .int l2), (3, .int l3), (4, .int l4)], [.int (1 : Int32), .int l2], (jE0, M))) 2 rfl ?_
        refine g_ic_ne (tgt := 79) rfl rfl (fun q8 => ?_) (fun q8 => ?_)
        · refine g_pure (c' := (71, [(0, .ref l0), (1, .int l1), (2, .int l2), (3, .int l3), (4, .int l4)], [.ref l0], (jE0, M))) 1 rfl ?_
          refine g_gp rfl rfl rfl pl0 (jp_ok (kd := 8) pl0 (by decide) (by decide) rfl rfl).1 ?_
          refine g_pure (c' := (75, [(0, .ref l0), (1, .int l1), (2, .int l2), (3, .int l3), (4, .int l4)], [.int l1, .ref (jpt l0 15)], (jE0, M))) 1 rfl ?_
          refine g_ia rfl (jk_ok (kd := 8) pl0 (by decide) (by decide) rfl rfl) (fun v9 => ?_)
          refine g_pure (c' := (111, [(0, .ref l0), (1, .int l1), (2, .int l2), (3, .int l3), (4, .int l4)], [.int v9], (jE0, M))) 1 rfl ?_
          exact g_ret rfl rfl (fun _ h => h)
        · refine g_pure (c' := (81, [(0, .ref l0), (1, .int l1), (2, .int l2), (3, .int l3), (4, .int l4)], [.int (2 : Int32), .int l2], (jE0, M))) 2 rfl ?_
          refine g_ic_ne (tgt := 100) rfl rfl (fun q10 => ?_) (fun q10 => ?_)
          · refine g_pure (c' := (86, [(0, .ref l0), (1, .int l1), (2, .int l2), (3, .int l3), (4, .int l4)], [.int l1, .ref l0], (jE0, M))) 2 rfl ?_
            refine g_cI rfl (jc_v rfl rfl (jv_o pl0 rfl) rfl) (c150 l0 l1 pl0) (by decide) (fun v11 qv11 => ?_)
            refine g_if_eq (tgt := 96) rfl rfl (fun q12 => ?_) (fun q12 => ?_)
            · refine g_pure (c' := (111, [(0, .ref l0), (1, .int l1), (2, .int l2), (3, .int l3), (4, .int l4)], [.int (0 : Int32)], (jE0, M))) 2 rfl ?_
              exact g_ret rfl rfl (fun _ h => h)
            · refine g_pure (c' := (111, [(0, .ref l0), (1, .int l1), (2, .int l2), (3, .int l3), (4, .int l4)], [.int (1 : Int32)], (jE0, M))) 2 rfl ?_
              exact g_ret rfl rfl (fun _ h => h)
          · refine g_pure (c' := (102, [(0, .ref l0), (1, .int l1), (2, .int l2), (3, .int l3), (4, .int l4)], [.int (3 : Int32), .int l2], (jE0, M))) 2 rfl ?_
            refine g_ic_ne (tgt := 109) rfl rfl (fun q13 => ?_) (fun q13 => ?_)
            · refine g_pure (c' := (111, [(0, .ref l0), (1, .int l1), (2, .int l2), (3, .int l3), (4, .int l4)], [.int l3], (jE0, M))) 2 rfl ?_
              exact g_ret rfl rfl (fun _ h => h)
            · refine g_pure (c' := (111, [(0, .ref l0), (1, .int l1), (2, .int l2), (3, .int l3), (4, .int l4)], [.int (-3 : Int32)], (jE0, M))) 1 rfl ?_
              exact g_ret rfl rfl (fun _ h => h)
/-- CometKinModel.comet -/
def f164 (M : JM) (l0 : Nat) (l1 : Int32) (l2 : Int32) : Option Int32 := ((f161 M l0 l1).bind fun v1 => (if v1 = (0 : Int32) then (some (-2 : Int32)) else (f164_16 M 1000 l0 l1 l2 (0 : Int32) (0 : Int32))))
set_option maxRecDepth 100000 in
theorem c164 {xs : Option (List Int32)} {M : JM} (l0 : Nat) (l1 : Int32) (l2 : Int32) (pl0 : jok jE0 l0 7 = true) : JG xs 4 164 (f164 M l0 l1 l2) (fun x r => r = (some (.int x), (jE0, M))) (0, [(0, .ref l0), (1, .int l1), (2, .int l2)], [], (jE0, M)) := by
    unfold f164
    refine g_pure (c' := (2, [(0, .ref l0), (1, .int l1), (2, .int l2)], [.int l1, .ref l0], (jE0, M))) 2 rfl ?_
    refine g_cI rfl (jc_v rfl rfl (jv_o pl0 rfl) rfl) (c161 l0 l1 pl0) (by decide) (fun v1 qv1 => ?_)
    refine g_if_ne (tgt := 11) rfl rfl (fun q2 => ?_) (fun q2 => ?_)
    · refine g_pure (c' := (10, [(0, .ref l0), (1, .int l1), (2, .int l2)], [.int (-2 : Int32)], (jE0, M))) 1 rfl ?_
      exact g_ret rfl rfl (fun _ h => h)
    · refine g_pure (c' := (16, [(4, .int (0 : Int32)), (3, .int (0 : Int32)), (0, .ref l0), (1, .int l1), (2, .int l2)], [], (jE0, M))) 4 rfl ?_
      refine g_weakk (lv := [(0, .ref l0), (1, .int l1), (2, .int l2), (3, .int (0 : Int32)), (4, .int (0 : Int32))]) ⟨rfl, rfl, rfl, rfl, rfl, trivial⟩ [0, 1, 2, 3, 4] rfl (by decide) [4, 3, 0, 1, 2] rfl (by decide) ?_
      exact (c164_16 1000 l0 l1 l2 (0 : Int32) (0 : Int32) pl0)
def f103_5 (xs : Option (List Int32)) (M : JM) : Nat → Int32 → Nat → Int32 → Int32 → Option Int32
  | 0, _, _, _, _ => none
  | n + 1, l1, l2, l3, l4 => ((jal xs l2).bind fun v1 => (if l4 < v1 then (if l3 < (0 : Int32) then (some (0 : Int32)) else ((jal xs l2).bind fun v4 => (if l3 < v4 then (if l3 = l1 then (some (1 : Int32)) else ((jlx xs l2 l3 M).bind fun v7 => ((f103_5 xs M n) l1 l2 v7 (l4 + (1 : Int32))))) else (some (0 : Int32))))) else (some (0 : Int32))))
set_option maxRecDepth 100000 in
theorem c103_5 {xs : Option (List Int32)} {M : JM} : ∀ (n : Nat) (l1 : Int32) (l2 : Nat) (l3 : Int32) (l4 : Int32), JG xs 0 103 (f103_5 xs M n l1 l2 l3 l4) (fun x r => r = (some (.int x), (jE0, M))) (5, [(1, .int l1), (2, .ref l2), (3, .int l3), (4, .int l4)], [], (jE0, M))
  | 0, _, _, _, _ => by rw [f103_5]; exact g_none
  | n + 1, l1, l2, l3, l4 => by
    rw [f103_5]
    refine g_pure (c' := (8, [(1, .int l1), (2, .ref l2), (3, .int l3), (4, .int l4)], [.ref l2, .int l4], (jE0, M))) 2 rfl ?_
    refine g_ax rfl (fun v1 => ?_)
    refine g_ic_ge (tgt := 39) rfl rfl (fun q2 => ?_) (fun q2 => ?_)
    · refine g_pure (c' := (13, [(1, .int l1), (2, .ref l2), (3, .int l3), (4, .int l4)], [.int l3], (jE0, M))) 1 rfl ?_
      refine g_if_lt (tgt := 39) rfl rfl (fun q3 => ?_) (fun q3 => ?_)
      · refine g_pure (c' := (40, [(1, .int l1), (2, .ref l2), (3, .int l3), (4, .int l4)], [.int (0 : Int32)], (jE0, M))) 1 rfl ?_
        exact g_ret rfl rfl (fun _ h => h)
      · refine g_pure (c' := (18, [(1, .int l1), (2, .ref l2), (3, .int l3), (4, .int l4)], [.ref l2, .int l3], (jE0, M))) 2 rfl ?_
        refine g_ax rfl (fun v4 => ?_)
        refine g_ic_ge (tgt := 39) rfl rfl (fun q5 => ?_) (fun q5 => ?_)
        · refine g_pure (c' := (24, [(1, .int l1), (2, .ref l2), (3, .int l3), (4, .int l4)], [.int l1, .int l3], (jE0, M))) 2 rfl ?_
          refine g_ic_ne (tgt := 29) rfl rfl (fun q6 => ?_) (fun q6 => ?_)
          · refine g_pure (c' := (28, [(1, .int l1), (2, .ref l2), (3, .int l3), (4, .int l4)], [.int (1 : Int32)], (jE0, M))) 1 rfl ?_
            exact g_ret rfl rfl (fun _ h => h)
          · refine g_pure (c' := (31, [(1, .int l1), (2, .ref l2), (3, .int l3), (4, .int l4)], [.int l3, .ref l2], (jE0, M))) 2 rfl ?_
            refine g_ix rfl (fun v7 => ?_)
            refine g_pure (c' := (5, [(4, .int (l4 + (1 : Int32))), (3, .int v7), (1, .int l1), (2, .ref l2)], [], (jE0, M))) 3 rfl ?_
            refine g_weakk (lv := [(1, .int l1), (2, .ref l2), (3, .int v7), (4, .int (l4 + (1 : Int32)))]) ⟨rfl, rfl, rfl, rfl, trivial⟩ [1, 2, 3, 4] rfl (by decide) [4, 3, 1, 2] rfl (by decide) ?_
            exact ((c103_5 n) l1 l2 v7 (l4 + (1 : Int32)))
        · refine g_pure (c' := (40, [(1, .int l1), (2, .ref l2), (3, .int l3), (4, .int l4)], [.int (0 : Int32)], (jE0, M))) 1 rfl ?_
          exact g_ret rfl rfl (fun _ h => h)
    · refine g_pure (c' := (40, [(1, .int l1), (2, .ref l2), (3, .int l3), (4, .int l4)], [.int (0 : Int32)], (jE0, M))) 1 rfl ?_
      exact g_ret rfl rfl (fun _ h => h)
/-- CometKin.isSuch -/
def f103 (xs : Option (List Int32)) (M : JM) (l0 : Int32) (l1 : Int32) (l2 : Nat) : Option Int32 := (f103_5 xs M 1000 l1 l2 l0 (0 : Int32))
set_option maxRecDepth 100000 in
theorem c103 {xs : Option (List Int32)} {M : JM} (l0 : Int32) (l1 : Int32) (l2 : Nat) : JG xs 0 103 (f103 xs M l0 l1 l2) (fun x r => r = (some (.int x), (jE0, M))) (0, [(0, .int l0), (1, .int l1), (2, .ref l2)], [], (jE0, M)) := by
    unfold f103
    refine g_pure (c' := (5, [(4, .int (0 : Int32)), (3, .int l0), (0, .int l0), (1, .int l1), (2, .ref l2)], [], (jE0, M))) 4 rfl ?_
    refine g_weakk (lv := [(1, .int l1), (2, .ref l2), (3, .int l0), (4, .int (0 : Int32))]) ⟨rfl, rfl, rfl, rfl, trivial⟩ [1, 2, 3, 4] rfl (by decide) [4, 3, 0, 1, 2] rfl (by decide) ?_
    exact (c103_5 1000 l1 l2 l0 (0 : Int32))
