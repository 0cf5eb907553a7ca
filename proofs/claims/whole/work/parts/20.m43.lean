/-- CometKin$Row.set -/
def f43  (l0 : Nat) (l1 : Int32) (l2 : Int32) (M : JM) : Option JM := (if l1 < (0 : Int32) then (some M) else (if l1 < (Int32.ofNat (jlen jE0 (jpt l0 0))) then ((jsa (jpt l0 0) l1 l2 M).bind fun M3 => (some M3)) else (some M)))
set_option maxRecDepth 100000 in
theorem c43 {xs : Option (List Int32)} (l0 : Nat) (l1 : Int32) (l2 : Int32) (M : JM) (pl0 : jok jE0 l0 3 = true) : JG xs 0 43 (f43 l0 l1 l2 M) (fun x r => r = (none, (jE0, x))) (0, [(0, .ref l0), (1, .int l1), (2, .int l2)], [], (jE0, M)) := by
    unfold f43
    refine g_pure (c' := (1, [(0, .ref l0), (1, .int l1), (2, .int l2)], [.int l1], (jE0, M))) 1 rfl ?_
    refine g_if_lt (tgt := 20) rfl rfl (fun q1 => ?_) (fun q1 => ?_)
    · exact g_ret rfl rfl (fun _ h => h)
    · refine g_pure (c' := (6, [(0, .ref l0), (1, .int l1), (2, .int l2)], [.ref l0, .int l1], (jE0, M))) 2 rfl ?_
      refine g_gp rfl rfl rfl pl0 (jp_ok (kd := 8) pl0 (by decide) (by decide) rfl rfl).1 ?_
      refine g_al rfl (by rw [(jk_ok (kd := 8) pl0 (by decide) (by decide) rfl rfl)]; simp) ?_
      refine g_ic_ge (tgt := 20) rfl rfl (fun q2 => ?_) (fun q2 => ?_)
      · refine g_pure (c' := (14, [(0, .ref l0), (1, .int l1), (2, .int l2)], [.ref l0], (jE0, M))) 1 rfl ?_
        refine g_gp rfl rfl rfl pl0 (jp_ok (kd := 8) pl0 (by decide) (by decide) rfl rfl).1 ?_
        refine g_pure (c' := (19, [(0, .ref l0), (1, .int l1), (2, .int l2)], [.int l2, .int l1, .ref (jpt l0 0)], (jE0, M))) 2 rfl ?_
        refine g_is rfl (jk_ok (kd := 8) pl0 (by decide) (by decide) rfl rfl) (fun M3 => ?_)
        exact g_ret rfl rfl (fun _ h => h)
      · exact g_ret rfl rfl (fun _ h => h)
/-- CometKin$Text.append -/
def f52  (l0 : Nat) (l1 : Int32) (M : JM) : Option (Int32 × JM) := (if (M l0 1) < (160 : Int32) then ((f43 (jpt l0 0) (M l0 1) l1 M).bind fun M2 => ((some (jup M2 l0 1 ((M2 l0 1) + (1 : Int32)))).bind fun M3 => (some ((1 : Int32), M3)))) else (some ((0 : Int32), M)))
set_option maxRecDepth 100000 in
theorem c52 {xs : Option (List Int32)} (l0 : Nat) (l1 : Int32) (M : JM) (pl0 : jok jE0 l0 5 = true) : JG xs 1 52 (f52 l0 l1 M) (fun x r => r = (some (.int x.1), (jE0, x.2))) (0, [(0, .ref l0), (1, .int l1)], [], (jE0, M)) := by
    unfold f52
    refine g_pure (c' := (1, [(0, .ref l0), (1, .int l1)], [.ref l0], (jE0, M))) 1 rfl ?_
    refine g_gf (ci := 5) (k := 1) rfl rfl rfl pl0 ?_
    refine g_pure (c' := (7, [(0, .ref l0), (1, .int l1)], [.int (160 : Int32), .int (M l0 1)], (jE0, M))) 1 rfl ?_
    refine g_ic_lt (tgt := 12) rfl rfl (fun q1 => ?_) (fun q1 => ?_)
    · refine g_pure (c' := (13, [(0, .ref l0), (1, .int l1)], [.ref l0], (jE0, M))) 1 rfl ?_
      refine g_gp rfl rfl rfl pl0 (jp_ok (kd := 3) pl0 (by decide) (by decide) rfl rfl).1 ?_
      refine g_pure (c' := (17, [(0, .ref l0), (1, .int l1)], [.ref l0, .ref (jpt l0 0)], (jE0, M))) 1 rfl ?_
      refine g_gf (ci := 5) (k := 1) rfl rfl rfl pl0 ?_
      refine g_pure (c' := (21, [(0, .ref l0), (1, .int l1)], [.int l1, .int (M l0 1), .ref (jpt l0 0)], (jE0, M))) 1 rfl ?_
      refine g_wV rfl (jc_v rfl rfl (jv_o (jk_ok (kd := 3) pl0 (by decide) (by decide) rfl rfl) rfl) rfl) (c43 (jpt l0 0) (M l0 1) l1 M (jk_ok (kd := 3) pl0 (by decide) (by decide) rfl rfl)) (by decide) (fun M2 => ?_)
      refine g_pure (c' := (26, [(0, .ref l0), (1, .int l1)], [.ref l0, .ref l0], (jE0, M2))) 2 rfl ?_
      refine g_gf (ci := 5) (k := 1) rfl rfl rfl pl0 ?_
      refine g_pure (c' := (31, [(0, .ref l0), (1, .int l1)], [.int ((M2 l0 1) + (1 : Int32)), .ref l0], (jE0, M2))) 2 rfl ?_
      refine g_pf (ci := 5) (k := 1) rfl rfl rfl rfl pl0 (fun M3 => ?_)
      refine g_pure (c' := (35, [(0, .ref l0), (1, .int l1)], [.int (1 : Int32)], (jE0, M3))) 1 rfl ?_
      exact g_ret rfl rfl (fun _ h => h)
    · refine g_pure (c' := (11, [(0, .ref l0), (1, .int l1)], [.int (0 : Int32)], (jE0, M))) 1 rfl ?_
      exact g_ret rfl rfl (fun _ h => h)
/-- CometKin.write -/
def f68  (l0 : Nat) (l1 : Int32) (M : JM) : Option (Int32 × JM) := (if l1 < (0 : Int32) then (some ((-3 : Int32), M)) else (if (255 : Int32) < l1 then (some ((-3 : Int32), M)) else ((f52 (jpt l0 0) l1 M).bind fun z6 => (if z6.1 = (0 : Int32) then (some ((-5 : Int32), z6.2)) else (some ((z6.2 (jpt l0 0) 1), z6.2))))))
set_option maxRecDepth 100000 in
theorem c68 {xs : Option (List Int32)} (l0 : Nat) (l1 : Int32) (M : JM) (pl0 : jok jE0 l0 6 = true) : JG xs 2 68 (f68 l0 l1 M) (fun x r => r = (some (.int x.1), (jE0, x.2))) (0, [(0, .ref l0), (1, .int l1)], [], (jE0, M)) := by
    unfold f68
    refine g_pure (c' := (1, [(0, .ref l0), (1, .int l1)], [.int l1], (jE0, M))) 1 rfl ?_
    refine g_if_lt (tgt := 11) rfl rfl (fun q1 => ?_) (fun q1 => ?_)
    · refine g_pure (c' := (13, [(0, .ref l0), (1, .int l1)], [.int (-3 : Int32)], (jE0, M))) 1 rfl ?_
      exact g_ret rfl rfl (fun _ h => h)
    · refine g_pure (c' := (8, [(0, .ref l0), (1, .int l1)], [.int (255 : Int32), .int l1], (jE0, M))) 2 rfl ?_
      refine g_ic_le (tgt := 14) rfl rfl (fun q2 => ?_) (fun q2 => ?_)
      · refine g_pure (c' := (13, [(0, .ref l0), (1, .int l1)], [.int (-3 : Int32)], (jE0, M))) 1 rfl ?_
        exact g_ret rfl rfl (fun _ h => h)
      · refine g_pure (c' := (15, [(0, .ref l0), (1, .int l1)], [.ref l0], (jE0, M))) 1 rfl ?_
        refine g_gp rfl rfl rfl pl0 (jp_ok (kd := 5) pl0 (by decide) (by decide) rfl rfl).1 ?_
        refine g_pure (c' := (19, [(0, .ref l0), (1, .int l1)], [.int l1, .ref (jpt l0 0)], (jE0, M))) 1 rfl ?_
        refine g_wI rfl (jc_v rfl rfl (jv_o (jk_ok (kd := 5) pl0 (by decide) (by decide) rfl rfl) rfl) rfl) (c52 (jpt l0 0) l1 M (jk_ok (kd := 5) pl0 (by decide) (by decide) rfl rfl)) (by decide) (fun v4 M3 qv4 => ?_)
        refine g_if_eq (tgt := 35) rfl rfl (fun q5 => ?_) (fun q5 => ?_)
        · refine g_pure (c' := (37, [(0, .ref l0), (1, .int l1)], [.int (-5 : Int32)], (jE0, M3))) 1 rfl ?_
          exact g_ret rfl rfl (fun _ h => h)
        · refine g_pure (c' := (26, [(0, .ref l0), (1, .int l1)], [.ref l0], (jE0, M3))) 1 rfl ?_
          refine g_gp rfl rfl rfl pl0 (jp_ok (kd := 5) pl0 (by decide) (by decide) rfl rfl).1 ?_
          refine g_gf (ci := 5) (k := 1) rfl rfl rfl (jk_ok (kd := 5) pl0 (by decide) (by decide) rfl rfl) ?_
          refine g_pure (c' := (37, [(0, .ref l0), (1, .int l1)], [.int (M3 (jpt l0 0) 1)], (jE0, M3))) 1 rfl ?_
          exact g_ret rfl rfl (fun _ h => h)
/-- CometKinModel.in -/
def f125  (l0 : Int64) (l2 : Int64) (l4 : Int64) : Option Int32 := (if (lg_cmp l0 l2) < (0 : Int32) then (some (0 : Int32)) else (if (0 : Int32) < (lg_cmp l0 l4) then (some (0 : Int32)) else (some (1 : Int32))))
set_option maxRecDepth 100000 in
theorem c125 {xs : Option (List Int32)} {M : JM} (l0 : Int64) (l2 : Int64) (l4 : Int64) : JG xs 0 125 (f125 l0 l2 l4) (fun x r => r = (some (.int x), (jE0, M))) (0, [(0, .long l0), (2, .long l2), (4, .long l4)], [], (jE0, M)) := by
    unfold f125
    refine g_pure (c' := (3, [(0, .long l0), (2, .long l2), (4, .long l4)], [.int (lg_cmp l0 l2)], (jE0, M))) 3 rfl ?_
    refine g_if_lt (tgt := 17) rfl rfl (fun q1 => ?_) (fun q1 => ?_)
    · refine g_pure (c' := (18, [(0, .long l0), (2, .long l2), (4, .long l4)], [.int (0 : Int32)], (jE0, M))) 1 rfl ?_
      exact g_ret rfl rfl (fun _ h => h)
    · refine g_pure (c' := (10, [(0, .long l0), (2, .long l2), (4, .long l4)], [.int (lg_cmp l0 l4)], (jE0, M))) 3 rfl ?_
      refine g_if_gt (tgt := 17) rfl rfl (fun q2 => ?_) (fun q2 => ?_)
      · refine g_pure (c' := (18, [(0, .long l0), (2, .long l2), (4, .long l4)], [.int (0 : Int32)], (jE0, M))) 1 rfl ?_
        exact g_ret rfl rfl (fun _ h => h)
      · refine g_pure (c' := (18, [(0, .long l0), (2, .long l2), (4, .long l4)], [.int (1 : Int32)], (jE0, M))) 2 rfl ?_
        exact g_ret rfl rfl (fun _ h => h)
/-- CometKinModel.write -/
def f128  (l0 : Nat) (l1 : Int32) (M : JM) : Option (Int32 × JM) := ((f125 ((l1).toInt64) (0 : Int64) (255 : Int64)).bind fun v1 => (if v1 = (0 : Int32) then (some ((-3 : Int32), M)) else (if (M l0 4) = (160 : Int32) then (some ((-5 : Int32), M)) else ((jsa (jpt l0 3) (M l0 4) l1 M).bind fun M4 => ((some (jup M4 l0 4 ((M4 l0 4) + (1 : Int32)))).bind fun M5 => (some ((M5 l0 4), M5)))))))
set_option maxRecDepth 100000 in
theorem c128 {xs : Option (List Int32)} (l0 : Nat) (l1 : Int32) (M : JM) (pl0 : jok jE0 l0 7 = true) : JG xs 1 128 (f128 l0 l1 M) (fun x r => r = (some (.int x.1), (jE0, x.2))) (0, [(0, .ref l0), (1, .int l1)], [], (jE0, M)) := by
    unfold f128
    refine g_pure (c' := (6, [(0, .ref l0), (1, .int l1)], [.long (255 : Int64), .long (0 : Int64), .long ((l1).toInt64)], (jE0, M))) 4 rfl ?_
    refine g_cI rfl (jc_s rfl rfl) (c125 ((l1).toInt64) (0 : Int64) (255 : Int64)) (by decide) (fun v1 qv1 => ?_)
    refine g_if_ne (tgt := 15) rfl rfl (fun q2 => ?_) (fun q2 => ?_)
    · refine g_pure (c' := (14, [(0, .ref l0), (1, .int l1)], [.int (-3 : Int32)], (jE0, M))) 1 rfl ?_
      exact g_ret rfl rfl (fun _ h => h)
    · refine g_pure (c' := (16, [(0, .ref l0), (1, .int l1)], [.ref l0], (jE0, M))) 1 rfl ?_
      refine g_gf (ci := 7) (k := 4) rfl rfl rfl pl0 ?_
      refine g_pure (c' := (22, [(0, .ref l0), (1, .int l1)], [.int (160 : Int32), .int (M l0 4)], (jE0, M))) 1 rfl ?_
      refine g_ic_ne (tgt := 28) rfl rfl (fun q3 => ?_) (fun q3 => ?_)
      · refine g_pure (c' := (27, [(0, .ref l0), (1, .int l1)], [.int (-5 : Int32)], (jE0, M))) 1 rfl ?_
        exact g_ret rfl rfl (fun _ h => h)
      · refine g_pure (c' := (29, [(0, .ref l0), (1, .int l1)], [.ref l0], (jE0, M))) 1 rfl ?_
        refine g_gp rfl rfl rfl pl0 (jp_ok (kd := 8) pl0 (by decide) (by decide) rfl rfl).1 ?_
        refine g_pure (c' := (33, [(0, .ref l0), (1, .int l1)], [.ref l0, .ref (jpt l0 3)], (jE0, M))) 1 rfl ?_
        refine g_gf (ci := 7) (k := 4) rfl rfl rfl pl0 ?_
        refine g_pure (c' := (37, [(0, .ref l0), (1, .int l1)], [.int l1, .int (M l0 4), .ref (jpt l0 3)], (jE0, M))) 1 rfl ?_
        refine g_is rfl (jk_ok (kd := 8) pl0 (by decide) (by decide) rfl rfl) (fun M4 => ?_)
        refine g_pure (c' := (40, [(0, .ref l0), (1, .int l1)], [.ref l0, .ref l0], (jE0, M4))) 2 rfl ?_
        refine g_gf (ci := 7) (k := 4) rfl rfl rfl pl0 ?_
        refine g_pure (c' := (45, [(0, .ref l0), (1, .int l1)], [.int ((M4 l0 4) + (1 : Int32)), .ref l0], (jE0, M4))) 2 rfl ?_
        refine g_pf (ci := 7) (k := 4) rfl rfl rfl rfl pl0 (fun M5 => ?_)
        refine g_pure (c' := (49, [(0, .ref l0), (1, .int l1)], [.ref l0], (jE0, M5))) 1 rfl ?_
        refine g_gf (ci := 7) (k := 4) rfl rfl rfl pl0 ?_
        exact g_ret rfl rfl (fun _ h => h)
/-- CometKin$Text.clear -/
def f53  (l0 : Nat) (M : JM) : Option (Int32 × JM) := ((some (jup M l0 1 (0 : Int32))).bind fun M1 => (some ((M l0 1), M1)))
set_option maxRecDepth 100000 in
theorem c53 {xs : Option (List Int32)} (l0 : Nat) (M : JM) (pl0 : jok jE0 l0 5 = true) : JG xs 0 53 (f53 l0 M) (fun x r => r = (some (.int x.1), (jE0, x.2))) (0, [(0, .ref l0)], [], (jE0, M)) := by
    unfold f53
    refine g_pure (c' := (1, [(0, .ref l0)], [.ref l0], (jE0, M))) 1 rfl ?_
    refine g_gf (ci := 5) (k := 1) rfl rfl rfl pl0 ?_
    refine g_pure (c' := (7, [(1, .int (M l0 1)), (0, .ref l0)], [.int (0 : Int32), .ref l0], (jE0, M))) 3 rfl ?_
    refine g_pf (ci := 5) (k := 1) rfl rfl rfl rfl pl0 (fun M1 => ?_)
    refine g_pure (c' := (11, [(1, .int (M l0 1)), (0, .ref l0)], [.int (M l0 1)], (jE0, M1))) 1 rfl ?_
    exact g_ret rfl rfl (fun _ h => h)
/-- CometKin.erase -/
def f69  (l0 : Nat) (M : JM) : Option (Int32 × JM) := ((f53 (jpt l0 0) M).bind fun z3 => (some (z3.1, z3.2)))
set_option maxRecDepth 100000 in
theorem c69 {xs : Option (List Int32)} (l0 : Nat) (M : JM) (pl0 : jok jE0 l0 6 = true) : JG xs 1 69 (f69 l0 M) (fun x r => r = (some (.int x.1), (jE0, x.2))) (0, [(0, .ref l0)], [], (jE0, M)) := by
    unfold f69
    refine g_pure (c' := (1, [(0, .ref l0)], [.ref l0], (jE0, M))) 1 rfl ?_
    refine g_gp rfl rfl rfl pl0 (jp_ok (kd := 5) pl0 (by decide) (by decide) rfl rfl).1 ?_
    refine g_wI rfl (jc_v rfl rfl (jv_o (jk_ok (kd := 5) pl0 (by decide) (by decide) rfl rfl) rfl) rfl) (c53 (jpt l0 0) M (jk_ok (kd := 5) pl0 (by decide) (by decide) rfl rfl)) (by decide) (fun v2 M1 qv2 => ?_)
    exact g_ret rfl rfl (fun _ h => h)
/-- CometKinModel.erase -/
def f129  (l0 : Nat) (M : JM) : Option (Int32 × JM) := ((some (jup M l0 4 (0 : Int32))).bind fun M1 => (some ((M l0 4), M1)))
set_option maxRecDepth 100000 in
theorem c129 {xs : Option (List Int32)} (l0 : Nat) (M : JM) (pl0 : jok jE0 l0 7 = true) : JG xs 0 129 (f129 l0 M) (fun x r => r = (some (.int x.1), (jE0, x.2))) (0, [(0, .ref l0)], [], (jE0, M)) := by
    unfold f129
    refine g_pure (c' := (1, [(0, .ref l0)], [.ref l0], (jE0, M))) 1 rfl ?_
    refine g_gf (ci := 7) (k := 4) rfl rfl rfl pl0 ?_
    refine g_pure (c' := (7, [(1, .int (M l0 4)), (0, .ref l0)], [.int (0 : Int32), .ref l0], (jE0, M))) 3 rfl ?_
    refine g_pf (ci := 7) (k := 4) rfl rfl rfl rfl pl0 (fun M1 => ?_)
    refine g_pure (c' := (11, [(1, .int (M l0 4)), (0, .ref l0)], [.int (M l0 4)], (jE0, M1))) 1 rfl ?_
    exact g_ret rfl rfl (fun _ h => h)
/-- CometKin$Row.get -/
def f42 (M : JM) (l0 : Nat) (l1 : Int32) : Option Int32 := (if l1 < (0 : Int32) then (some (-1 : Int32)) else (if l1 < (Int32.ofNat (jlen jE0 (jpt l0 0))) then ((jla (jpt l0 0) l1 M).bind fun v3 => (some v3)) else (some (-1 : Int32))))
set_option maxRecDepth 100000 in
theorem c42 {xs : Option (List Int32)} {M : JM} (l0 : Nat) (l1 : Int32) (pl0 : jok jE0 l0 3 = true) : JG xs 0 42 (f42 M l0 l1) (fun x r => r = (some (.int x), (jE0, M))) (0, [(0, .ref l0), (1, .int l1)], [], (jE0, M)) := by
    unfold f42
    refine g_pure (c' := (1, [(0, .ref l0), (1, .int l1)], [.int l1], (jE0, M))) 1 rfl ?_
    refine g_if_lt (tgt := 22) rfl rfl (fun q1 => ?_) (fun q1 => ?_)
    · refine g_pure (c' := (23, [(0, .ref l0), (1, .int l1)], [.int (-1 : Int32)], (jE0, M))) 1 rfl ?_
      exact g_ret rfl rfl (fun _ h => h)
    · refine g_pure (c' := (6, [(0, .ref l0), (1, .int l1)], [.ref l0, .int l1], (jE0, M))) 2 rfl ?_
      refine g_gp rfl rfl rfl pl0 (jp_ok (kd := 8) pl0 (by decide) (by decide) rfl rfl).1 ?_
      refine g_al rfl (by rw [(jk_ok (kd := 8) pl0 (by decide) (by decide) rfl rfl)]; simp) ?_
      refine g_ic_ge (tgt := 22) rfl rfl (fun q2 => ?_) (fun q2 => ?_)
      · refine g_pure (c' := (14, [(0, .ref l0), (1, .int l1)], [.ref l0], (jE0, M))) 1 rfl ?_
        refine g_gp rfl rfl rfl pl0 (jp_ok (kd := 8) pl0 (by decide) (by decide) rfl rfl).1 ?_
        refine g_pure (c' := (18, [(0, .ref l0), (1, .int l1)], [.int l1, .ref (jpt l0 0)], (jE0, M))) 1 rfl ?_
        refine g_ia rfl (jk_ok (kd := 8) pl0 (by decide) (by decide) rfl rfl) (fun v3 => ?_)
        refine g_pure (c' := (23, [(0, .ref l0), (1, .int l1)], [.int v3], (jE0, M))) 1 rfl ?_
        exact g_ret rfl rfl (fun _ h => h)
      · refine g_pure (c' := (23, [(0, .ref l0), (1, .int l1)], [.int (-1 : Int32)], (jE0, M))) 1 rfl ?_
        exact g_ret rfl rfl (fun _ h => h)
def f46_2  : Nat → Nat → Nat → Int32 → JM → Option JM
  | 0, _, _, _, _ => none
  | n + 1, l0, l1, l2, M => (if l2 < (Int32.ofNat (jlen jE0 (jpt l0 0))) then ((f42 M l1 l2).bind fun v2 => ((jsa (jpt l0 0) l2 v2 M).bind fun M3 => ((f46_2 n) l0 l1 (l2 + (1 : Int32)) M3))) else (some M))
set_option maxRecDepth 100000 in
theorem c46_2 {xs : Option (List Int32)} : ∀ (n : Nat) (l0 : Nat) (l1 : Nat) (l2 : Int32) (M : JM) (pl0 : jok jE0 l0 3 = true) (pl1 : jok jE0 l1 3 = true), JG xs 1 46 (f46_2 n l0 l1 l2 M) (fun x r => r = (none, (jE0, x))) (2, [(0, .ref l0), (1, .ref l1), (2, .int l2)], [], (jE0, M))
  | 0, _, _, _, _, _, _ => by rw [f46_2]; exact g_none
  | n + 1, l0, l1, l2, M, pl0, pl1 => by
    rw [f46_2]
    refine g_pure (c' := (4, [(0, .ref l0), (1, .ref l1), (2, .int l2)], [.ref l0, .int l2], (jE0, M))) 2 rfl ?_
    refine g_gp rfl rfl rfl pl0 (jp_ok (kd := 8) pl0 (by decide) (by decide) rfl rfl).1 ?_
    refine g_al rfl (by rw [(jk_ok (kd := 8) pl0 (by decide) (by decide) rfl rfl)]; simp) ?_
    refine g_ic_ge (tgt := 28) rfl rfl (fun q1 => ?_) (fun q1 => ?_)
    · refine g_pure (c' := (12, [(0, .ref l0), (1, .ref l1), (2, .int l2)], [.ref l0], (jE0, M))) 1 rfl ?_
      refine g_gp rfl rfl rfl pl0 (jp_ok (kd := 8) pl0 (by decide) (by decide) rfl rfl).1 ?_
      refine g_pure (c' := (18, [(0, .ref l0), (1, .ref l1), (2, .int l2)], [.int l2, .ref l1, .int l2, .ref (jpt l0 0)], (jE0, M))) 3 rfl ?_
      refine g_cI rfl (jc_v rfl rfl (jv_o pl1 rfl) rfl) (c42 l1 l2 pl1) (by decide) (fun v2 qv2 => ?_)
      refine g_is rfl (jk_ok (kd := 8) pl0 (by decide) (by decide) rfl rfl) (fun M3 => ?_)
      refine g_pure (c' := (2, [(2, .int (l2 + (1 : Int32))), (0, .ref l0), (1, .ref l1)], [], (jE0, M3))) 2 rfl ?_
      refine g_weakk (lv := [(0, .ref l0), (1, .ref l1), (2, .int (l2 + (1 : Int32)))]) ⟨rfl, rfl, rfl, trivial⟩ [0, 1, 2] rfl (by decide) [2, 0, 1] rfl (by decide) ?_
      exact ((c46_2 n) l0 l1 (l2 + (1 : Int32)) M3 pl0 pl1)
    · exact g_ret rfl rfl (fun _ h => h)
/-- CometKin$Row.copyFrom -/
def f46  (l0 : Nat) (l1 : Nat) (M : JM) : Option JM := (f46_2 1000 l0 l1 (0 : Int32) M)
set_option maxRecDepth 100000 in
theorem c46 {xs : Option (List Int32)} (l0 : Nat) (l1 : Nat) (M : JM) (pl0 : jok jE0 l0 3 = true) (pl1 : jok jE0 l1 3 = true) : JG xs 1 46 (f46 l0 l1 M) (fun x r => r = (none, (jE0, x))) (0, [(0, .ref l0), (1, .ref l1)], [], (jE0, M)) := by
    unfold f46
    refine g_pure (c' := (2, [(2, .int (0 : Int32)), (0, .ref l0), (1, .ref l1)], [], (jE0, M))) 2 rfl ?_
    refine g_weakk (lv := [(0, .ref l0), (1, .ref l1), (2, .int (0 : Int32))]) ⟨rfl, rfl, rfl, trivial⟩ [0, 1, 2] rfl (by decide) [2, 0, 1] rfl (by decide) ?_
    exact (c46_2 1000 l0 l1 (0 : Int32) M pl0 pl1)
/-- CometKin$Country.copyFrom -/
def f1  (l0 : Nat) (l1 : Nat) (M : JM) : Option JM := ((some (jup M l0 0 (M l1 0))).bind fun M1 => ((some (jup M1 l0 1 (M1 l1 1))).bind fun M2 => ((some (jup M2 l0 2 (M2 l1 2))).bind fun M3 => ((f46 (jpt l0 3) (jpt l1 3) M3).bind fun M4 => ((f46 (jpt l0 4) (jpt l1 4) M4).bind fun M5 => ((f46 (jpt l0 5) (jpt l1 5) M5).bind fun M6 => ((f46 (jpt l0 6) (jpt l1 6) M6).bind fun M7 => ((f46 (jpt l0 7) (jpt l1 7) M7).bind fun M8 => ((f46 (jpt l0 8) (jpt l1 8) M8).bind fun M9 => ((f46 (jpt l0 9) (jpt l1 9) M9).bind fun M10 => ((some (jup M10 l0 10 (M10 l1 10))).bind fun M11 => ((some (jup M11 l0 11 (M11 l1 11))).bind fun M12 => ((some (jup M12 l0 12 (M12 l1 12))).bind fun M13 => ((some (jup M13 l0 13 (M13 l1 13))).bind fun M14 => (some M14)))))))))))))))
set_option maxRecDepth 100000 in
theorem c1 {xs : Option (List Int32)} (l0 : Nat) (l1 : Nat) (M : JM) (pl0 : jok jE0 l0 0 = true) (pl1 : jok jE0 l1 0 = true) : JG xs 2 1 (f1 l0 l1 M) (fun x r => r = (none, (jE0, x))) (0, [(0, .ref l0), (1, .ref l1)], [], (jE0, M)) := by
    unfold f1
    refine g_pure (c' := (2, [(0, .ref l0), (1, .ref l1)], [.ref l1, .ref l0], (jE0, M))) 2 rfl ?_
    refine g_gf (ci := 0) (k := 0) rfl rfl rfl pl1 ?_
    refine g_pf (ci := 0) (k := 0) rfl rfl rfl rfl pl0 (fun M1 => ?_)
    refine g_pure (c' := (10, [(0, .ref l0), (1, .ref l1)], [.ref l1, .ref l0], (jE0, M1))) 2 rfl ?_
    refine g_gf (ci := 0) (k := 1) rfl rfl rfl pl1 ?_
    refine g_pf (ci := 0) (k := 1) rfl rfl rfl rfl pl0 (fun M2 => ?_)
    refine g_pure (c' := (18, [(0, .ref l0), (1, .ref l1)], [.ref l1, .ref l0], (jE0, M2))) 2 rfl ?_
    refine g_gf (ci := 0) (k := 2) rfl rfl rfl pl1 ?_
    refine g_pf (ci := 0) (k := 2) rfl rfl rfl rfl pl0 (fun M3 => ?_)
    refine g_pure (c' := (25, [(0, .ref l0), (1, .ref l1)], [.ref l0], (jE0, M3))) 1 rfl ?_
    refine g_gp rfl rfl rfl pl0 (jp_ok (kd := 3) pl0 (by decide) (by decide) rfl rfl).1 ?_
    refine g_pure (c' := (29, [(0, .ref l0), (1, .ref l1)], [.ref l1, .ref (jpt l0 3)], (jE0, M3))) 1 rfl ?_
    refine g_gp rfl rfl rfl pl1 (jp_ok (kd := 3) pl1 (by decide) (by decide) rfl rfl).1 ?_
    refine g_wV rfl (jc_v rfl rfl (jv_o (jk_ok (kd := 3) pl0 (by decide) (by decide) rfl rfl) rfl) rfl) (c46 (jpt l0 3) (jpt l1 3) M3 (jk_ok (kd := 3) pl0 (by decide) (by decide) rfl rfl) (jk_ok (kd := 3) pl1 (by decide) (by decide) rfl rfl)) (by decide) (fun M4 => ?_)
    refine g_pure (c' := (36, [(0, .ref l0), (1, .ref l1)], [.ref l0], (jE0, M4))) 1 rfl ?_
    refine g_gp rfl rfl rfl pl0 (jp_ok (kd := 3) pl0 (by decide) (by decide) rfl rfl).1 ?_
    refine g_pure (c' := (40, [(0, .ref l0), (1, .ref l1)], [.ref l1, .ref (jpt l0 4)], (jE0, M4))) 1 rfl ?_
    refine g_gp rfl rfl rfl pl1 (jp_ok (kd := 3) pl1 (by decide) (by decide) rfl rfl).1 ?_
    refine g_wV rfl (jc_v rfl rfl (jv_o (jk_ok (kd := 3) pl0 (by decide) (by decide) rfl rfl) rfl) rfl) (c46 (jpt l0 4) (jpt l1 4) M4 (jk_ok (kd := 3) pl0 (by decide) (by decide) rfl rfl) (jk_ok (kd := 3) pl1 (by decide) (by decide) rfl rfl)) (by decide) (fun M5 => ?_)
    refine g_pure (c' := (47, [(0, .ref l0), (1, .ref l1)], [.ref l0], (jE0, M5))) 1 rfl ?_
    refine g_gp rfl rfl rfl pl0 (jp_ok (kd := 3) pl0 (by decide) (by decide) rfl rfl).1 ?_
    refine g_pure (c' := (51, [(0, .ref l0), (1, .ref l1)], [.ref l1, .ref (jpt l0 5)], (jE0, M5))) 1 rfl ?_
    refine g_gp rfl rfl rfl pl1 (jp_ok (kd := 3) pl1 (by decide) (by decide) rfl rfl).1 ?_
    refine g_wV rfl (jc_v rfl rfl (jv_o (jk_ok (kd := 3) pl0 (by decide) (by decide) rfl rfl) rfl) rfl) (c46 (jpt l0 5) (jpt l1 5) M5 (jk_ok (kd := 3) pl0 (by decide) (by decide) rfl rfl) (jk_ok (kd := 3) pl1 (by decide) (by decide) rfl rfl)) (by decide) (fun M6 => ?_)
    refine g_pure (c' := (58, [(0, .ref l0), (1, .ref l1)], [.ref l0], (jE0, M6))) 1 rfl ?_
    refine g_gp rfl rfl rfl pl0 (jp_ok (kd := 3) pl0 (by decide) (by decide) rfl rfl).1 ?_
    refine g_pure (c' := (62, [(0, .ref l0), (1, .ref l1)], [.ref l1, .ref (jpt l0 6)], (jE0, M6))) 1 rfl ?_
    refine g_gp rfl rfl rfl pl1 (jp_ok (kd := 3) pl1 (by decide) (by decide) rfl rfl).1 ?_
    refine g_wV rfl (jc_v rfl rfl (jv_o (jk_ok (kd := 3) pl0 (by decide) (by decide) rfl rfl) rfl) rfl) (c46 (jpt l0 6) (jpt l1 6) M6 (jk_ok (kd := 3) pl0 (by decide) (by decide) rfl rfl) (jk_ok (kd := 3) pl1 (by decide) (by decide) rfl rfl)) (by decide) (fun M7 => ?_)
    refine g_pure (c' := (69, [(0, .ref l0), (1, .ref l1)], [.ref l0], (jE0, M7))) 1 rfl ?_
    refine g_gp rfl rfl rfl pl0 (jp_ok (kd := 3) pl0 (by decide) (by decide) rfl rfl).1 ?_
    refine g_pure (c' := (73, [(0, .ref l0), (1, .ref l1)], [.ref l1, .ref (jpt l0 7)], (jE0, M7))) 1 rfl ?_
    refine g_gp rfl rfl rfl pl1 (jp_ok (kd := 3) pl1 (by decide) (by decide) rfl rfl).1 ?_
    refine g_wV rfl (jc_v rfl rfl (jv_o (jk_ok (kd := 3) pl0 (by decide) (by decide) rfl rfl) rfl) rfl) (c46 (jpt l0 7) (jpt l1 7) M7 (jk_ok (kd := 3) pl0 (by decide) (by decide) rfl rfl) (jk_ok (kd := 3) pl1 (by decide) (by decide) rfl rfl)) (by decide) (fun M8 => ?_)
    refine g_pure (c' := (80, [(0, .ref l0), (1, .ref l1)], [.ref l0], (jE0, M8))) 1 rfl ?_
    refine g_gp rfl rfl rfl pl0 (jp_ok (kd := 3) pl0 (by decide) (by decide) rfl rfl).1 ?_
    refine g_pure (c' := (84, [(0, .ref l0), (1, .ref l1)], [.ref l1, .ref (jpt l0 8)], (jE0, M8))) 1 rfl ?_
    refine g_gp rfl rfl rfl pl1 (jp_ok (kd := 3) pl1 (by decide) (by decide) rfl rfl).1 ?_
    refine g_wV rfl (jc_v rfl rfl (jv_o (jk_ok (kd := 3) pl0 (by decide) (by decide) rfl rfl) rfl) rfl) (c46 (jpt l0 8) (jpt l1 8) M8 (jk_ok (kd := 3) pl0 (by decide) (by decide) rfl rfl) (jk_ok (kd := 3) pl1 (by decide) (by decide) rfl rfl)) (by decide) (fun M9 => ?_)
    refine g_pure (c' := (91, [(0, .ref l0), (1, .ref l1)], [.ref l0], (jE0, M9))) 1 rfl ?_
    refine g_gp rfl rfl rfl pl0 (jp_ok (kd := 3) pl0 (by decide) (by decide) rfl rfl).1 ?_
    refine g_pure (c' := (95, [(0, .ref l0), (1, .ref l1)], [.ref l1, .ref (jpt l0 9)], (jE0, M9))) 1 rfl ?_
    refine g_gp rfl rfl rfl pl1 (jp_ok (kd := 3) pl1 (by decide) (by decide) rfl rfl).1 ?_
    refine g_wV rfl (jc_v rfl rfl (jv_o (jk_ok (kd := 3) pl0 (by decide) (by decide) rfl rfl) rfl) rfl) (c46 (jpt l0 9) (jpt l1 9) M9 (jk_ok (kd := 3) pl0 (by decide) (by decide) rfl rfl) (jk_ok (kd := 3) pl1 (by decide) (by decide) rfl rfl)) (by decide) (fun M10 => ?_)
    refine g_pure (c' := (103, [(0, .ref l0), (1, .ref l1)], [.ref l1, .ref l0], (jE0, M10))) 2 rfl ?_
    refine g_gf (ci := 0) (k := 10) rfl rfl rfl pl1 ?_
    refine g_pf (ci := 0) (k := 10) rfl rfl rfl rfl pl0 (fun M11 => ?_)
    refine g_pure (c' := (111, [(0, .ref l0), (1, .ref l1)], [.ref l1, .ref l0], (jE0, M11))) 2 rfl ?_
    refine g_gf (ci := 0) (k := 11) rfl rfl rfl pl1 ?_
    refine g_pf (ci := 0) (k := 11) rfl rfl rfl rfl pl0 (fun M12 => ?_)
    refine g_pure (c' := (119, [(0, .ref l0), (1, .ref l1)], [.ref l1, .ref l0], (jE0, M12))) 2 rfl ?_
    refine g_gf (ci := 0) (k := 12) rfl rfl rfl pl1 ?_
    refine g_pf (ci := 0) (k := 12) rfl rfl rfl rfl pl0 (fun M13 => ?_)
    refine g_pure (c' := (127, [(0, .ref l0), (1, .ref l1)], [.ref l1, .ref l0], (jE0, M13))) 2 rfl ?_
    refine g_gf (ci := 0) (k := 13) rfl rfl rfl pl1 ?_
    refine g_pf (ci := 0) (k := 13) rfl rfl rfl rfl pl0 (fun M14 => ?_)
    exact g_ret rfl rfl (fun _ h => h)
def f65_0  : Nat → Nat → JM → Option JM
  | 0, _, _ => none
  | n + 1, l0, M => (if (M l0 2) < (M l0 1) then ((f42 M (jpt l0 0) (M l0 2)).bind fun v2 => (if v2 = (32 : Int32) then ((some (jup M l0 2 ((M l0 2) + (1 : Int32)))).bind fun M4 => ((f65_0 n) l0 M4)) else (some M))) else (some M))
set_option maxRecDepth 100000 in
theorem c65_0 {xs : Option (List Int32)} : ∀ (n : Nat) (l0 : Nat) (M : JM) (pl0 : jok jE0 l0 5 = true), JG xs 1 65 (f65_0 n l0 M) (fun x r => r = (none, (jE0, x))) (0, [(0, .ref l0)], [], (jE0, M))
  | 0, _, _, _ => by rw [f65_0]; exact g_none
  | n + 1, l0, M, pl0 => by
    rw [f65_0]
    refine g_pure (c' := (1, [(0, .ref l0)], [.ref l0], (jE0, M))) 1 rfl ?_
    refine g_gf (ci := 5) (k := 2) rfl rfl rfl pl0 ?_
    refine g_pure (c' := (5, [(0, .ref l0)], [.ref l0, .int (M l0 2)], (jE0, M))) 1 rfl ?_
    refine g_gf (ci := 5) (k := 1) rfl rfl rfl pl0 ?_
    refine g_ic_ge (tgt := 40) rfl rfl (fun q1 => ?_) (fun q1 => ?_)
    · refine g_pure (c' := (12, [(0, .ref l0)], [.ref l0], (jE0, M))) 1 rfl ?_
      refine g_gp rfl rfl rfl pl0 (jp_ok (kd := 3) pl0 (by decide) (by decide) rfl rfl).1 ?_
      refine g_pure (c' := (16, [(0, .ref l0)], [.ref l0, .ref (jpt l0 0)], (jE0, M))) 1 rfl ?_
      refine g_gf (ci := 5) (k := 2) rfl rfl rfl pl0 ?_
      refine g_cI rfl (jc_v rfl rfl (jv_o (jk_ok (kd := 3) pl0 (by decide) (by decide) rfl rfl) rfl) rfl) (c42 (jpt l0 0) (M l0 2) (jk_ok (kd := 3) pl0 (by decide) (by decide) rfl rfl)) (by decide) (fun v2 qv2 => ?_)
      refine g_pure (c' := (24, [(0, .ref l0)], [.int (32 : Int32), .int v2], (jE0, M))) 1 rfl ?_
      refine g_ic_ne (tgt := 40) rfl rfl (fun q3 => ?_) (fun q3 => ?_)
      · refine g_pure (c' := (29, [(0, .ref l0)], [.ref l0, .ref l0], (jE0, M))) 2 rfl ?_
        refine g_gf (ci := 5) (k := 2) rfl rfl rfl pl0 ?_
        refine g_pure (c' := (34, [(0, .ref l0)], [.int ((M l0 2) + (1 : Int32)), .ref l0], (jE0, M))) 2 rfl ?_
        refine g_pf (ci := 5) (k := 2) rfl rfl rfl rfl pl0 (fun M4 => ?_)
        refine g_pure (c' := (0, [(0, .ref l0)], [], (jE0, M4))) 1 rfl ?_
        exact ((c65_0 n) l0 M4 pl0)
      · exact g_ret rfl rfl (fun _ h => h)
    · exact g_ret rfl rfl (fun _ h => h)
/-- CometKin$Text.skipBlanks -/
def f65  (l0 : Nat) (M : JM) : Option JM := (f65_0 1000 l0 M)
set_option maxRecDepth 100000 in
theorem c65 {xs : Option (List Int32)} (l0 : Nat) (M : JM) (pl0 : jok jE0 l0 5 = true) : JG xs 1 65 (f65 l0 M) (fun x r => r = (none, (jE0, x))) (0, [(0, .ref l0)], [], (jE0, M)) := by
    unfold f65
    exact (c65_0 1000 l0 M pl0)
/-- CometKin$Text.isWithin -/
def f66  (l0 : Int32) (l1 : Int32) (l2 : Int32) : Option Int32 := (if l0 < l1 then (some (0 : Int32)) else (if l2 < l0 then (some (0 : Int32)) else (some (1 : Int32))))
set_option maxRecDepth 100000 in
theorem c66 {xs : Option (List Int32)} {M : JM} (l0 : Int32) (l1 : Int32) (l2 : Int32) : JG xs 0 66 (f66 l0 l1 l2) (fun x r => r = (some (.int x), (jE0, M))) (0, [(0, .int l0), (1, .int l1), (2, .int l2)], [], (jE0, M)) := by
    unfold f66
    refine g_pure (c' := (2, [(0, .int l0), (1, .int l1), (2, .int l2)], [.int l1, .int l0], (jE0, M))) 2 rfl ?_
    refine g_ic_lt (tgt := 14) rfl rfl (fun q1 => ?_) (fun q1 => ?_)
    · refine g_pure (c' := (15, [(0, .int l0), (1, .int l1), (2, .int l2)], [.int (0 : Int32)], (jE0, M))) 1 rfl ?_
      exact g_ret rfl rfl (fun _ h => h)
    · refine g_pure (c' := (7, [(0, .int l0), (1, .int l1), (2, .int l2)], [.int l2, .int l0], (jE0, M))) 2 rfl ?_
      refine g_ic_gt (tgt := 14) rfl rfl (fun q2 => ?_) (fun q2 => ?_)
      · refine g_pure (c' := (15, [(0, .int l0), (1, .int l1), (2, .int l2)], [.int (0 : Int32)], (jE0, M))) 1 rfl ?_
        exact g_ret rfl rfl (fun _ h => h)
      · refine g_pure (c' := (15, [(0, .int l0), (1, .int l1), (2, .int l2)], [.int (1 : Int32)], (jE0, M))) 2 rfl ?_
        exact g_ret rfl rfl (fun _ h => h)
/-- CometKin$Text.spelling -/
def f62  (l0 : Int32) : Option Nat := (if l0 = (0 : Int32) then (some 1000010) else (if l0 = (1 : Int32) then (some 1000011) else (if l0 = (2 : Int32) then (some 1000012) else (if l0 = (3 : Int32) then (some 1000013) else (if l0 = (4 : Int32) then (some 1000014) else (if l0 = (5 : Int32) then (some 1000015) else (if l0 = (6 : Int32) then (some 1000016) else (if l0 = (7 : Int32) then (some 1000017) else (if l0 = (8 : Int32) then (some 1000018) else (if l0 = (9 : Int32) then (some 1000019) else (if l0 = (10 : Int32) then (some 1000020) else (if l0 = (11 : Int32) then (some 1000021) else (some 1000022)))))))))))))
set_option maxRecDepth 100000 in
theorem c62 {xs : Option (List Int32)} {M : JM} (l0 : Int32) : JG xs 0 62 (f62 l0) (fun x r => r = (some (.ref x), (jE0, M))) (0, [(0, .int l0)], [], (jE0, M)) := by
    unfold f62
    refine g_pure (c' := (1, [(0, .int l0)], [.int l0], (jE0, M))) 1 rfl ?_
    refine g_eq (fun q1 => ?_) (fun q1 => ?_)
    · refine g_t1 q1 rfl rfl ?_
      refine g_pure (c' := (66, [(0, .int l0)], [.ref 1000010], (jE0, M))) 1 rfl ?_
      exact g_ret rfl rfl (fun _ h => h)
    refine g_eq (fun q2 => ?_) (fun q2 => ?_)
    · refine g_t1 q2 rfl rfl ?_
      refine g_pure (c' := (69, [(0, .int l0)], [.ref 1000011], (jE0, M))) 1 rfl ?_
      exact g_ret rfl rfl (fun _ h => h)
    refine g_eq (fun q3 => ?_) (fun q3 => ?_)
    · refine g_t1 q3 rfl rfl ?_
      refine g_pure (c' := (72, [(0, .int l0)], [.ref 1000012], (jE0, M))) 1 rfl ?_
      exact g_ret rfl rfl (fun _ h => h)
    refine g_eq (fun q4 => ?_) (fun q4 => ?_)
    · refine g_t1 q4 rfl rfl ?_
      refine g_pure (c' := (75, [(0, .int l0)], [.ref 1000013], (jE0, M))) 1 rfl ?_
      exact g_ret rfl rfl (fun _ h => h)
    refine g_eq (fun q5 => ?_) (fun q5 => ?_)
    · refine g_t1 q5 rfl rfl ?_
      refine g_pure (c' := (78, [(0, .int l0)], [.ref 1000014], (jE0, M))) 1 rfl ?_
      exact g_ret rfl rfl (fun _ h => h)
    refine g_eq (fun q6 => ?_) (fun q6 => ?_)
    · refine g_t1 q6 rfl rfl ?_
      refine g_pure (c' := (81, [(0, .int l0)], [.ref 1000015], (jE0, M))) 1 rfl ?_
      exact g_ret rfl rfl (fun _ h => h)
    refine g_eq (fun q7 => ?_) (fun q7 => ?_)
    · refine g_t1 q7 rfl rfl ?_
      refine g_pure (c' := (84, [(0, .int l0)], [.ref 1000016], (jE0, M))) 1 rfl ?_
      exact g_ret rfl rfl (fun _ h => h)
    refine g_eq (fun q8 => ?_) (fun q8 => ?_)
    · refine g_t1 q8 rfl rfl ?_
      refine g_pure (c' := (87, [(0, .int l0)], [.ref 1000017], (jE0, M))) 1 rfl ?_
      exact g_ret rfl rfl (fun _ h => h)
    refine g_eq (fun q9 => ?_) (fun q9 => ?_)
    · refine g_t1 q9 rfl rfl ?_
      refine g_pure (c' := (90, [(0, .int l0)], [.ref 1000018], (jE0, M))) 1 rfl ?_
      exact g_ret rfl rfl (fun _ h => h)
    refine g_eq (fun q10 => ?_) (fun q10 => ?_)
    · refine g_t1 q10 rfl rfl ?_
      refine g_pure (c' := (93, [(0, .int l0)], [.ref 1000019], (jE0, M))) 1 rfl ?_
      exact g_ret rfl rfl (fun _ h => h)
    refine g_eq (fun q11 => ?_) (fun q11 => ?_)
    · refine g_t1 q11 rfl rfl ?_
      refine g_pure (c' := (96, [(0, .int l0)], [.ref 1000020], (jE0, M))) 1 rfl ?_
      exact g_ret rfl rfl (fun _ h => h)
    refine g_eq (fun q12 => ?_) (fun q12 => ?_)
    · refine g_t1 q12 rfl rfl ?_
      refine g_pure (c' := (99, [(0, .int l0)], [.ref 1000021], (jE0, M))) 1 rfl ?_
      exact g_ret rfl rfl (fun _ h => h)
    refine g_t0 (tgt := 100) rfl (fun v h1 h2 => ?_) rfl ?_
    · rcases (show v = 0 ∨ v = 1 ∨ v = 2 ∨ v = 3 ∨ v = 4 ∨ v = 5 ∨ v = 6 ∨ v = 7 ∨ v = 8 ∨ v = 9 ∨ v = 10 ∨ v = 11 by omega) with rfl | rfl | rfl | rfl | rfl | rfl | rfl | rfl | rfl | rfl | rfl | rfl
      · exact q1
      · exact q2
      · exact q3
      · exact q4
      · exact q5
      · exact q6
      · exact q7
      · exact q8
      · exact q9
      · exact q10
      · exact q11
      · exact q12
    refine g_pure (c' := (102, [(0, .int l0)], [.ref 1000022], (jE0, M))) 1 rfl ?_
    exact g_ret rfl rfl (fun _ h => h)
theorem t62 {w : Int32} {p : Nat} (q : f62 w = some p) : jisS p = true := by
  unfold f62 at q
  split at q
  · cases q; rfl
  repeat (split at q; · cases q; rfl)
  cases q; rfl
/-- String.coder -/
def f212  (l0 : Nat) : Option Int32 := (if (1 : Int32) = (0 : Int32) then (some (1 : Int32)) else (some (0 : Int32)))
set_option maxRecDepth 100000 in
theorem c212 {xs : Option (List Int32)} {M : JM} (l0 : Nat) (pl0 : jisS l0 = true) : JG xs 0 212 (f212 l0) (fun x r => r = (some (.int x), (jE0, M))) (0, [(0, .ref l0)], [], (jE0, M)) := by
    unfold f212
    refine g_st (u := .int (1 : Int32)) rfl rfl rfl ?_
    refine g_if_eq (tgt := 13) rfl rfl (fun q1 => ?_) (fun q1 => ?_)
    · refine g_pure (c' := (14, [(0, .ref l0)], [.int (1 : Int32)], (jE0, M))) 1 rfl ?_
      exact g_ret rfl rfl (fun _ h => h)
    · refine g_pure (c' := (7, [(0, .ref l0)], [.ref l0], (jE0, M))) 1 rfl ?_
      refine g_sc rfl rfl rfl pl0 ?_
      refine g_pure (c' := (14, [(0, .ref l0)], [.int (0 : Int32)], (jE0, M))) 1 rfl ?_
      exact g_ret rfl rfl (fun _ h => h)
/-- String.length -/
def f210 (xs : Option (List Int32)) (l0 : Nat) : Option Int32 := ((jal xs (l0 + 30)).bind fun v1 => ((f212 l0).bind fun v2 => (some (v1 >>> (v2 &&& (31 : Int32))))))
set_option maxRecDepth 100000 in
theorem c210 {xs : Option (List Int32)} {M : JM} (l0 : Nat) (pl0 : jisS l0 = true) : JG xs 1 210 (f210 xs l0) (fun x r => r = (some (.int x), (jE0, M))) (0, [(0, .ref l0)], [], (jE0, M)) := by
    unfold f210
    refine g_pure (c' := (1, [(0, .ref l0)], [.ref l0], (jE0, M))) 1 rfl ?_
    refine g_sv rfl rfl rfl pl0 ?_
    refine g_ax rfl (fun v1 => ?_)
    refine g_pure (c' := (6, [(0, .ref l0)], [.ref l0, .int v1], (jE0, M))) 1 rfl ?_
    refine g_cI rfl (jc_v rfl rfl (jv_s pl0 rfl rfl) rfl) (c212 l0 pl0) (by decide) (fun v2 qv2 => ?_)
    refine g_pure (c' := (10, [(0, .ref l0)], [.int (v1 >>> (v2 &&& (31 : Int32)))], (jE0, M))) 1 rfl ?_
    exact g_ret rfl rfl (fun _ h => h)
/-- String.isLatin1 -/
def f213  (l0 : Nat) : Option Int32 := (if (1 : Int32) = (0 : Int32) then (some (0 : Int32)) else (if (0 : Int32) = (0 : Int32) then (some (1 : Int32)) else (some (0 : Int32))))
set_option maxRecDepth 100000 in
theorem c213 {xs : Option (List Int32)} {M : JM} (l0 : Nat) (pl0 : jisS l0 = true) : JG xs 0 213 (f213 l0) (fun x r => r = (some (.int x), (jE0, M))) (0, [(0, .ref l0)], [], (jE0, M)) := by
    unfold f213
    refine g_st (u := .int (1 : Int32)) rfl rfl rfl ?_
    refine g_if_eq (tgt := 17) rfl rfl (fun q1 => ?_) (fun q1 => ?_)
    · refine g_pure (c' := (18, [(0, .ref l0)], [.int (0 : Int32)], (jE0, M))) 1 rfl ?_
      exact g_ret rfl rfl (fun _ h => h)
    · refine g_pure (c' := (7, [(0, .ref l0)], [.ref l0], (jE0, M))) 1 rfl ?_
      refine g_sc rfl rfl rfl pl0 ?_
      refine g_if_ne (tgt := 17) rfl rfl (fun q2 => ?_) (fun q2 => ?_)
      · refine g_pure (c' := (18, [(0, .ref l0)], [.int (1 : Int32)], (jE0, M))) 2 rfl ?_
        exact g_ret rfl rfl (fun _ h => h)
      · refine g_pure (c' := (18, [(0, .ref l0)], [.int (0 : Int32)], (jE0, M))) 1 rfl ?_
        exact g_ret rfl rfl (fun _ h => h)
/-- Preconditions.checkIndex, with the formatter as its third -/
def f216  (l0 : Int32) (l1 : Int32) : Option Int32 := (if l0 < (0 : Int32) then none else (if l0 < l1 then (some l0) else none))
set_option maxRecDepth 100000 in
theorem c216 {xs : Option (List Int32)} {M : JM} (l0 : Int32) (l1 : Int32) : JG xs 0 216 (f216 l0 l1) (fun x r => r = (some (.int x), (jE0, M))) (0, [(0, .int l0), (1, .int l1), (2, .float 0)], [], (jE0, M)) := by
    unfold f216
    refine g_pure (c' := (1, [(0, .int l0), (1, .int l1), (2, .float 0)], [.int l0], (jE0, M))) 1 rfl ?_
    refine g_if_lt (tgt := 9) rfl rfl (fun q1 => ?_) (fun q1 => ?_)
    · exact g_none
    · refine g_pure (c' := (6, [(0, .int l0), (1, .int l1), (2, .float 0)], [.int l1, .int l0], (jE0, M))) 2 rfl ?_
      refine g_ic_lt (tgt := 16) rfl rfl (fun q2 => ?_) (fun q2 => ?_)
      · refine g_pure (c' := (17, [(0, .int l0), (1, .int l1), (2, .float 0)], [.int l0], (jE0, M))) 1 rfl ?_
        exact g_ret rfl rfl (fun _ h => h)
      · exact g_none
/-- String.checkIndex -/
def f214  (l0 : Int32) (l1 : Int32) : Option Unit := ((f216 l0 l1).bind fun _ => (some ()))
set_option maxRecDepth 100000 in
theorem c214 {xs : Option (List Int32)} {M : JM} (l0 : Int32) (l1 : Int32) : JG xs 1 214 (f214 l0 l1) (fun _ r => r = (none, (jE0, M))) (0, [(0, .int l0), (1, .int l1)], [], (jE0, M)) := by
    unfold f214
    refine g_pure (c' := (2, [(0, .int l0), (1, .int l1)], [.int l1, .int l0], (jE0, M))) 2 rfl ?_
    refine g_st (u := .float 0) rfl rfl rfl ?_
    refine g_cI rfl (jc_s rfl rfl) (c216 l0 l1) (by decide) (fun v3 qv3 => ?_)
    refine g_pure (c' := (9, [(0, .int l0), (1, .int l1)], [], (jE0, M))) 1 rfl ?_
    exact g_ret rfl rfl (fun _ h => h)
/-- StringLatin1.charAt -/
def f215 (xs : Option (List Int32)) (M : JM) (l0 : Nat) (l1 : Int32) : Option Int32 := ((jal xs l0).bind fun v1 => ((f214 l1 v1).bind fun _ => ((jly l0 l1 M).bind fun v2 => (jbo 215 ((((v2 &&& (255 : Int32))).toUInt32 % 65536).toInt32)))))
set_option maxRecDepth 100000 in
theorem c215 {xs : Option (List Int32)} {M : JM} (l0 : Nat) (l1 : Int32) : JG xs 2 215 (f215 xs M l0 l1) (fun x r => r = (some (.int x), (jE0, M))) (0, [(0, .ref l0), (1, .int l1)], [], (jE0, M)) := by
    unfold f215
    refine g_pure (c' := (2, [(0, .ref l0), (1, .int l1)], [.ref l0, .int l1], (jE0, M))) 2 rfl ?_
    refine g_ax rfl (fun v1 => ?_)
    refine g_cV rfl (jc_s rfl rfl) (c214 l1 v1) (by decide) ?_
    refine g_pure (c' := (8, [(0, .ref l0), (1, .int l1)], [.int l1, .ref l0], (jE0, M))) 2 rfl ?_
    refine g_by rfl (fun v2 => ?_)
    refine g_pure (c' := (14, [(0, .ref l0), (1, .int l1)], [.int ((((v2 &&& (255 : Int32))).toUInt32 % 65536).toInt32)], (jE0, M))) 3 rfl ?_
    exact g_rn rfl (fun _ _ h => h)
/-- String.charAt -/
def f211 (xs : Option (List Int32)) (M : JM) (l0 : Nat) (l1 : Int32) : Option Int32 := ((f213 l0).bind fun v1 => (if v1 = (0 : Int32) then (none) else ((f215 xs M (l0 + 30) l1).bind fun v3 => (jbo 211 v3))))
set_option maxRecDepth 100000 in
theorem c211 {xs : Option (List Int32)} {M : JM} (l0 : Nat) (l1 : Int32) (pl0 : jisS l0 = true) : JG xs 3 211 (f211 xs M l0 l1) (fun x r => r = (some (.int x), (jE0, M))) (0, [(0, .ref l0), (1, .int l1)], [], (jE0, M)) := by
    unfold f211
    refine g_pure (c' := (1, [(0, .ref l0), (1, .int l1)], [.ref l0], (jE0, M))) 1 rfl ?_
    refine g_cI rfl (jc_v rfl rfl (jv_s pl0 rfl rfl) rfl) (c213 l0 pl0) (by decide) (fun v1 qv1 => ?_)
    refine g_if_eq (tgt := 16) rfl rfl (fun q2 => ?_) (fun q2 => ?_)
    · refine g_pure (c' := (17, [(0, .ref l0), (1, .int l1)], [.ref l0], (jE0, M))) 1 rfl ?_
      refine g_sv rfl rfl rfl pl0 ?_
      exact g_none
    · refine g_pure (c' := (8, [(0, .ref l0), (1, .int l1)], [.ref l0], (jE0, M))) 1 rfl ?_
      refine g_sv rfl rfl rfl pl0 ?_
      refine g_pure (c' := (12, [(0, .ref l0), (1, .int l1)], [.int l1, .ref (l0 + 30)], (jE0, M))) 1 rfl ?_
      refine g_cI rfl (jc_s rfl rfl) (c215 (l0 + 30) l1) (by decide) (fun v3 qv3 => ?_)
      exact g_rn rfl (fun _ _ h => h)
def f63_17 (xs : Option (List Int32)) (M : JM) : Nat → Nat → Nat → Int32 → Int32 → Option Int32
  | 0, _, _, _, _ => none
  | n + 1, l0, l1, l2, l3 => ((f210 xs l1).bind fun v3 => (if l3 < v3 then ((f211 xs M l1 l3).bind fun v5 => ((f42 M (jpt l0 0) (l2 + l3)).bind fun v6 => (if v5 = v6 then ((f63_17 xs M n) l0 l1 l2 (l3 + (1 : Int32))) else (some (0 : Int32))))) else (some (1 : Int32))))
set_option maxRecDepth 100000 in
theorem c63_17 {xs : Option (List Int32)} {M : JM} : ∀ (n : Nat) (l0 : Nat) (l1 : Nat) (l2 : Int32) (l3 : Int32) (pl0 : jok jE0 l0 5 = true) (pl1 : jisS l1 = true), JG xs 4 63 (f63_17 xs M n l0 l1 l2 l3) (fun x r => r = (some (.int x), (jE0, M))) (17, [(0, .ref l0), (1, .ref l1), (2, .int l2), (3, .int l3)], [], (jE0, M))
  | 0, _, _, _, _, _, _ => by rw [f63_17]; exact g_none
  | n + 1, l0, l1, l2, l3, pl0, pl1 => by
    rw [f63_17]
    refine g_pure (c' := (19, [(0, .ref l0), (1, .ref l1), (2, .int l2), (3, .int l3)], [.ref l1, .int l3], (jE0, M))) 2 rfl ?_
    refine g_cI rfl (jc_v rfl rfl (jv_s pl1 rfl rfl) rfl) (c210 l1 pl1) (by decide) (fun v3 qv3 => ?_)
    refine g_ic_ge (tgt := 51) rfl rfl (fun q4 => ?_) (fun q4 => ?_)
    · refine g_pure (c' := (27, [(0, .ref l0), (1, .ref l1), (2, .int l2), (3, .int l3)], [.int l3, .ref l1], (jE0, M))) 2 rfl ?_
      refine g_cI rfl (jc_v rfl rfl (jv_s pl1 rfl rfl) rfl) (c211 l1 l3 pl1) (by decide) (fun v5 qv5 => ?_)
      refine g_pure (c' := (31, [(0, .ref l0), (1, .ref l1), (2, .int l2), (3, .int l3)], [.ref l0, .int v5], (jE0, M))) 1 rfl ?_
      refine g_gp rfl rfl rfl pl0 (jp_ok (kd := 3) pl0 (by decide) (by decide) rfl rfl).1 ?_
      refine g_pure (c' := (37, [(0, .ref l0), (1, .ref l1), (2, .int l2), (3, .int l3)], [.int (l2 + l3), .ref (jpt l0 0), .int v5], (jE0, M))) 3 rfl ?_
      refine g_cI rfl (jc_v rfl rfl (jv_o (jk_ok (kd := 3) pl0 (by decide) (by decide) rfl rfl) rfl) rfl) (c42 (jpt l0 0) (l2 + l3) (jk_ok (kd := 3) pl0 (by decide) (by decide) rfl rfl)) (by decide) (fun v6 qv6 => ?_)
      refine g_ic_eq (tgt := 45) rfl rfl (fun q7 => ?_) (fun q7 => ?_)
      · refine g_pure (c' := (17, [(3, .int (l3 + (1 : Int32))), (0, .ref l0), (1, .ref l1), (2, .int l2)], [], (jE0, M))) 2 rfl ?_
        refine g_weakk (lv := [(0, .ref l0), (1, .ref l1), (2, .int l2), (3, .int (l3 + (1 : Int32)))]) ⟨rfl, rfl, rfl, rfl, trivial⟩ [0, 1, 2, 3] rfl (by decide) [3, 0, 1, 2] rfl (by decide) ?_
        exact ((c63_17 n) l0 l1 l2 (l3 + (1 : Int32)) pl0 pl1)
      · refine g_pure (c' := (44, [(0, .ref l0), (1, .ref l1), (2, .int l2), (3, .int l3)], [.int (0 : Int32)], (jE0, M))) 1 rfl ?_
        exact g_ret rfl rfl (fun _ h => h)
    · refine g_pure (c' := (52, [(0, .ref l0), (1, .ref l1), (2, .int l2), (3, .int l3)], [.int (1 : Int32)], (jE0, M))) 1 rfl ?_
      exact g_ret rfl rfl (fun _ h => h)
/-- CometKin$Text.isSpelled -/
def f63 (xs : Option (List Int32)) (M : JM) (l0 : Nat) (l1 : Nat) (l2 : Int32) : Option Int32 := ((f210 xs l1).bind fun v1 => (if v1 = ((M l0 2) - l2) then (f63_17 xs M 1000 l0 l1 l2 (0 : Int32)) else (some (0 : Int32))))
set_option maxRecDepth 100000 in
theorem c63 {xs : Option (List Int32)} {M : JM} (l0 : Nat) (l1 : Nat) (l2 : Int32) (pl0 : jok jE0 l0 5 = true) (pl1 : jisS l1 = true) : JG xs 4 63 (f63 xs M l0 l1 l2) (fun x r => r = (some (.int x), (jE0, M))) (0, [(0, .ref l0), (1, .ref l1), (2, .int l2)], [], (jE0, M)) := by
    unfold f63
    refine g_pure (c' := (1, [(0, .ref l0), (1, .ref l1), (2, .int l2)], [.ref l1], (jE0, M))) 1 rfl ?_
    refine g_cI rfl (jc_v rfl rfl (jv_s pl1 rfl rfl) rfl) (c210 l1 pl1) (by decide) (fun v1 qv1 => ?_)
    refine g_pure (c' := (5, [(0, .ref l0), (1, .ref l1), (2, .int l2)], [.ref l0, .int v1], (jE0, M))) 1 rfl ?_
    refine g_gf (ci := 5) (k := 2) rfl rfl rfl pl0 ?_
    refine g_pure (c' := (10, [(0, .ref l0), (1, .ref l1), (2, .int l2)], [.int ((M l0 2) - l2), .int v1], (jE0, M))) 2 rfl ?_
    refine g_ic_eq (tgt := 15) rfl rfl (fun q2 => ?_) (fun q2 => ?_)
    · refine g_pure (c' := (17, [(3, .int (0 : Int32)), (0, .ref l0), (1, .ref l1), (2, .int l2)], [], (jE0, M))) 2 rfl ?_
      refine g_weakk (lv := [(0, .ref l0), (1, .ref l1), (2, .int l2), (3, .int (0 : Int32))]) ⟨rfl, rfl, rfl, rfl, trivial⟩ [0, 1, 2, 3] rfl (by decide) [3, 0, 1, 2] rfl (by decide) ?_
      exact (c63_17 1000 l0 l1 l2 (0 : Int32) pl0 pl1)
    · refine g_pure (c' := (14, [(0, .ref l0), (1, .ref l1), (2, .int l2)], [.int (0 : Int32)], (jE0, M))) 1 rfl ?_
      exact g_ret rfl rfl (fun _ h => h)
def f61_44 (M : JM) (l1 : Nat) : Option Int32 := (if (M l1 1) < (6 : Int32) then (some (1 : Int32)) else (some (0 : Int32)))
set_option maxRecDepth 100000 in
theorem c61_44 {xs : Option (List Int32)} {M : JM} : ∀ (l1 : Nat) (pl1 : jok jE0 l1 0 = true), JG xs 0 61 (f61_44 M l1) (fun x r => r = (some (.int x), (jE0, M))) (44, [(1, .ref l1)], [], (jE0, M)) := by
    intro l1 pl1
    unfold f61_44
    refine g_pure (c' := (45, [(1, .ref l1)], [.ref l1], (jE0, M))) 1 rfl ?_
    refine g_gf (ci := 0) (k := 1) rfl rfl rfl pl1 ?_
    refine g_pure (c' := (50, [(1, .ref l1)], [.int (6 : Int32), .int (M l1 1)], (jE0, M))) 1 rfl ?_
    refine g_ic_ge (tgt := 57) rfl rfl (fun q2 => ?_) (fun q2 => ?_)
    · refine g_pure (c' := (58, [(1, .ref l1)], [.int (1 : Int32)], (jE0, M))) 2 rfl ?_
      exact g_ret rfl rfl (fun _ h => h)
    · refine g_pure (c' := (58, [(1, .ref l1)], [.int (0 : Int32)], (jE0, M))) 1 rfl ?_
      exact g_ret rfl rfl (fun _ h => h)
def f61_59 (M : JM) (l1 : Nat) : Option Int32 := (if (M l1 0) < (9 : Int32) then (some (1 : Int32)) else (some (0 : Int32)))
set_option maxRecDepth 100000 in
theorem c61_59 {xs : Option (List Int32)} {M : JM} : ∀ (l1 : Nat) (pl1 : jok jE0 l1 0 = true), JG xs 0 61 (f61_59 M l1) (fun x r => r = (some (.int x), (jE0, M))) (59, [(1, .ref l1)], [], (jE0, M)) := by
    intro l1 pl1
    unfold f61_59
    refine g_pure (c' := (60, [(1, .ref l1)], [.ref l1], (jE0, M))) 1 rfl ?_
    refine g_gf (ci := 0) (k := 0) rfl rfl rfl pl1 ?_
    refine g_pure (c' := (65, [(1, .ref l1)], [.int (9 : Int32), .int (M l1 0)], (jE0, M))) 1 rfl ?_
    refine g_ic_ge (tgt := 72) rfl rfl (fun q7 => ?_) (fun q7 => ?_)
    · refine g_pure (c' := (73, [(1, .ref l1)], [.int (1 : Int32)], (jE0, M))) 2 rfl ?_
      exact g_ret rfl rfl (fun _ h => h)
    · refine g_pure (c' := (73, [(1, .ref l1)], [.int (0 : Int32)], (jE0, M))) 1 rfl ?_
      exact g_ret rfl rfl (fun _ h => h)
/-- CometKin$Text.canStand -/
def f61 (M : JM) (l0 : Int32) (l1 : Nat) : Option Int32 := (if l0 = (0 : Int32) then (f61_44 M l1) else (if l0 = (1 : Int32) then (f61_44 M l1) else (if l0 = (2 : Int32) then (f61_44 M l1) else (if l0 = (3 : Int32) then (f61_44 M l1) else (if l0 = (4 : Int32) then (f61_59 M l1) else (if l0 = (5 : Int32) then (f61_59 M l1) else (if l0 = (6 : Int32) then (f61_59 M l1) else (some (1 : Int32)))))))))
set_option maxRecDepth 100000 in
theorem c61 {xs : Option (List Int32)} {M : JM} (l0 : Int32) (l1 : Nat) (pl1 : jok jE0 l1 0 = true) : JG xs 0 61 (f61 M l0 l1) (fun x r => r = (some (.int x), (jE0, M))) (0, [(0, .int l0), (1, .ref l1)], [], (jE0, M)) := by
    unfold f61
    refine g_pure (c' := (1, [(0, .int l0), (1, .ref l1)], [.int l0], (jE0, M))) 1 rfl ?_
    refine g_eq (fun q1 => ?_) (fun q1 => ?_)
    · refine g_t1 q1 rfl rfl ?_
      refine g_weakk (lv := [(1, .ref l1)]) ⟨rfl, trivial⟩ [1] rfl (by decide) [0, 1] rfl (by decide) ?_
      exact (c61_44 l1 pl1)
    refine g_eq (fun q3 => ?_) (fun q3 => ?_)
    · refine g_t1 q3 rfl rfl ?_
      refine g_weakk (lv := [(1, .ref l1)]) ⟨rfl, trivial⟩ [1] rfl (by decide) [0, 1] rfl (by decide) ?_
      exact (c61_44 l1 pl1)
    refine g_eq (fun q4 => ?_) (fun q4 => ?_)
    · refine g_t1 q4 rfl rfl ?_
      refine g_weakk (lv := [(1, .ref l1)]) ⟨rfl, trivial⟩ [1] rfl (by decide) [0, 1] rfl (by decide) ?_
      exact (c61_44 l1 pl1)
    refine g_eq (fun q5 => ?_) (fun q5 => ?_)
    · refine g_t1 q5 rfl rfl ?_
      refine g_weakk (lv := [(1, .ref l1)]) ⟨rfl, trivial⟩ [1] rfl (by decide) [0, 1] rfl (by decide) ?_
      exact (c61_44 l1 pl1)
    refine g_eq (fun q6 => ?_) (fun q6 => ?_)
    · refine g_t1 q6 rfl rfl ?_
      refine g_weakk (lv := [(1, .ref l1)]) ⟨rfl, trivial⟩ [1] rfl (by decide) [0, 1] rfl (by decide) ?_
      exact (c61_59 l1 pl1)
    refine g_eq (fun q8 => ?_) (fun q8 => ?_)
    · refine g_t1 q8 rfl rfl ?_
      refine g_weakk (lv := [(1, .ref l1)]) ⟨rfl, trivial⟩ [1] rfl (by decide) [0, 1] rfl (by decide) ?_
      exact (c61_59 l1 pl1)
    refine g_eq (fun q9 => ?_) (fun q9 => ?_)
    · refine g_t1 q9 rfl rfl ?_
      refine g_weakk (lv := [(1, .ref l1)]) ⟨rfl, trivial⟩ [1] rfl (by decide) [0, 1] rfl (by decide) ?_
      exact (c61_59 l1 pl1)
    refine g_t0 (tgt := 74) rfl (fun v h1 h2 => ?_) rfl ?_
    · rcases (show v = 0 ∨ v = 1 ∨ v = 2 ∨ v = 3 ∨ v = 4 ∨ v = 5 ∨ v = 6 by omega) with rfl | rfl | rfl | rfl | rfl | rfl | rfl
      · exact q1
      · exact q3
      · exact q4
      · exact q5
      · exact q6
      · exact q8
      · exact q9
    refine g_pure (c' := (75, [(0, .int l0), (1, .ref l1)], [.int (1 : Int32)], (jE0, M))) 1 rfl ?_
    exact g_ret rfl rfl (fun _ h => h)
def f60_84 (xs : Option (List Int32)) (h56 : Nat → Nat → Int32 → Int32 → JM → Option (Int32 × JM)) (l0 : Nat) (l1 : Nat) (l2 : Int32) (l3 : Int32) (M : JM) : Option (Int32 × JM) := (h56 l0 l1 l2 (l3 + (1 : Int32)) M)
set_option maxRecDepth 100000 in
theorem c60_84 {xs : Option (List Int32)} (h56 : Nat → Nat → Int32 → Int32 → JM → Option (Int32 × JM)) (H56 : ∀ (l0 : Nat) (l1 : Nat) (l2 : Int32) (l3 : Int32) (M : JM) (pl0 : jok jE0 l0 5 = true) (pl1 : jok jE0 l1 0 = true), JG xs 5 60 (h56 l0 l1 l2 l3 M) (fun x r => r = (some (.int x.1), (jE0, x.2))) (56, [(0, .ref l0), (1, .ref l1), (2, .int l2), (3, .int l3)], [], (jE0, M))) : ∀ (l0 : Nat) (l1 : Nat) (l2 : Int32) (l3 : Int32) (M : JM) (pl0 : jok jE0 l0 5 = true) (pl1 : jok jE0 l1 0 = true), JG xs 5 60 (f60_84 xs h56 l0 l1 l2 l3 M) (fun x r => r = (some (.int x.1), (jE0, x.2))) (84, [(0, .ref l0), (1, .ref l1), (2, .int l2), (3, .int l3)], [], (jE0, M)) := by
    intro l0 l1 l2 l3 M pl0 pl1
    unfold f60_84
    refine g_pure (c' := (56, [(3, .int (l3 + (1 : Int32))), (0, .ref l0), (1, .ref l1), (2, .int l2)], [], (jE0, M))) 2 rfl ?_
    refine g_weakk (lv := [(0, .ref l0), (1, .ref l1), (2, .int l2), (3, .int (l3 + (1 : Int32)))]) ⟨rfl, rfl, rfl, rfl, trivial⟩ [0, 1, 2, 3] rfl (by decide) [3, 0, 1, 2] rfl (by decide) ?_
    exact (H56 l0 l1 l2 (l3 + (1 : Int32)) M pl0 pl1)
def f60_56 (xs : Option (List Int32)) : Nat → Nat → Nat → Int32 → Int32 → JM → Option (Int32 × JM)
  | 0, _, _, _, _, _ => none
  | n + 1, l0, l1, l2, l3, M => (if l3 < (13 : Int32) then ((f62 l3).bind fun v7 => ((f63 xs M l0 v7 l2).bind fun v8 => (if v8 = (0 : Int32) then (f60_84 xs (f60_56 xs n) l0 l1 l2 l3 M) else ((f61 M l3 l1).bind fun v10 => (if v10 = (0 : Int32) then (f60_84 xs (f60_56 xs n) l0 l1 l2 l3 M) else (some (l3, M))))))) else ((some (jup M l0 3 l2)).bind fun M12 => (some ((-1 : Int32), M12))))
set_option maxRecDepth 100000 in
theorem c60_56 {xs : Option (List Int32)} : ∀ (n : Nat) (l0 : Nat) (l1 : Nat) (l2 : Int32) (l3 : Int32) (M : JM) (pl0 : jok jE0 l0 5 = true) (pl1 : jok jE0 l1 0 = true), JG xs 5 60 (f60_56 xs n l0 l1 l2 l3 M) (fun x r => r = (some (.int x.1), (jE0, x.2))) (56, [(0, .ref l0), (1, .ref l1), (2, .int l2), (3, .int l3)], [], (jE0, M))
  | 0, _, _, _, _, _, _, _ => by rw [f60_56]; exact g_none
  | n + 1, l0, l1, l2, l3, M, pl0, pl1 => by
    rw [f60_56]
    refine g_pure (c' := (59, [(0, .ref l0), (1, .ref l1), (2, .int l2), (3, .int l3)], [.int (13 : Int32), .int l3], (jE0, M))) 2 rfl ?_
    refine g_ic_ge (tgt := 90) rfl rfl (fun q6 => ?_) (fun q6 => ?_)
    · refine g_pure (c' := (64, [(0, .ref l0), (1, .ref l1), (2, .int l2), (3, .int l3)], [.int l3, .ref l0], (jE0, M))) 2 rfl ?_
      refine g_cR rfl (jc_s rfl rfl) (c62 l3) (by decide) (fun v7 qv7 => ?_)
      refine g_pure (c' := (68, [(0, .ref l0), (1, .ref l1), (2, .int l2), (3, .int l3)], [.int l2, .ref v7, .ref l0], (jE0, M))) 1 rfl ?_
      refine g_cI rfl (jc_v rfl rfl (jv_o pl0 rfl) rfl) (c63 l0 v7 l2 pl0 (t62 qv7)) (by decide) (fun v8 qv8 => ?_)
      refine g_if_eq (tgt := 84) rfl rfl (fun q9 => ?_) (fun q9 => ?_)
      · exact (c60_84 (f60_56 xs n) (c60_56 n) l0 l1 l2 l3 M pl0 pl1)
      · refine g_pure (c' := (76, [(0, .ref l0), (1, .ref l1), (2, .int l2), (3, .int l3)], [.ref l1, .int l3], (jE0, M))) 2 rfl ?_
        refine g_cI rfl (jc_s rfl rfl) (c61 l3 l1 pl1) (by decide) (fun v10 qv10 => ?_)
        refine g_if_eq (tgt := 84) rfl rfl (fun q11 => ?_) (fun q11 => ?_)
        · exact (c60_84 (f60_56 xs n) (c60_56 n) l0 l1 l2 l3 M pl0 pl1)
        · refine g_pure (c' := (83, [(0, .ref l0), (1, .ref l1), (2, .int l2), (3, .int l3)], [.int l3], (jE0, M))) 1 rfl ?_
          exact g_ret rfl rfl (fun _ h => h)
    · refine g_pure (c' := (92, [(0, .ref l0), (1, .ref l1), (2, .int l2), (3, .int l3)], [.int l2, .ref l0], (jE0, M))) 2 rfl ?_
      refine g_pf (ci := 5) (k := 3) rfl rfl rfl rfl pl0 (fun M12 => ?_)
      refine g_pure (c' := (96, [(0, .ref l0), (1, .ref l1), (2, .int l2), (3, .int l3)], [.int (-1 : Int32)], (jE0, M12))) 1 rfl ?_
      exact g_ret rfl rfl (fun _ h => h)
def f60_54 (xs : Option (List Int32)) (l0 : Nat) (l1 : Nat) (l2 : Int32) (M : JM) : Option (Int32 × JM) := (f60_56 xs 1000 l0 l1 l2 (0 : Int32) M)
set_option maxRecDepth 100000 in
theorem c60_54 {xs : Option (List Int32)} : ∀ (l0 : Nat) (l1 : Nat) (l2 : Int32) (M : JM) (pl0 : jok jE0 l0 5 = true) (pl1 : jok jE0 l1 0 = true), JG xs 5 60 (f60_54 xs l0 l1 l2 M) (fun x r => r = (some (.int x.1), (jE0, x.2))) (54, [(0, .ref l0), (1, .ref l1), (2, .int l2)], [], (jE0, M)) := by
    intro l0 l1 l2 M pl0 pl1
    unfold f60_54
    refine g_pure (c' := (56, [(3, .int (0 : Int32)), (0, .ref l0), (1, .ref l1), (2, .int l2)], [], (jE0, M))) 2 rfl ?_
    refine g_weakk (lv := [(0, .ref l0), (1, .ref l1), (2, .int l2), (3, .int (0 : Int32))]) ⟨rfl, rfl, rfl, rfl, trivial⟩ [0, 1, 2, 3] rfl (by decide) [3, 0, 1, 2] rfl (by decide) ?_
    exact (c60_56 1000 l0 l1 l2 (0 : Int32) M pl0 pl1)
def f60_9 (xs : Option (List Int32)) : Nat → Nat → Nat → Int32 → JM → Option (Int32 × JM)
  | 0, _, _, _, _ => none
  | n + 1, l0, l1, l2, M => (if (M l0 2) < (M l0 1) then ((f42 M (jpt l0 0) (M l0 2)).bind fun v3 => ((f66 v3 (97 : Int32) (122 : Int32)).bind fun v4 => (if v4 = (0 : Int32) then (f60_54 xs l0 l1 l2 M) else ((some (jup M l0 2 ((M l0 2) + (1 : Int32)))).bind fun M13 => ((f60_9 xs n) l0 l1 l2 M13))))) else (f60_54 xs l0 l1 l2 M))
set_option maxRecDepth 100000 in
theorem c60_9 {xs : Option (List Int32)} : ∀ (n : Nat) (l0 : Nat) (l1 : Nat) (l2 : Int32) (M : JM) (pl0 : jok jE0 l0 5 = true) (pl1 : jok jE0 l1 0 = true), JG xs 5 60 (f60_9 xs n l0 l1 l2 M) (fun x r => r = (some (.int x.1), (jE0, x.2))) (9, [(0, .ref l0), (1, .ref l1), (2, .int l2)], [], (jE0, M))
  | 0, _, _, _, _, _, _ => by rw [f60_9]; exact g_none
  | n + 1, l0, l1, l2, M, pl0, pl1 => by
    rw [f60_9]
    refine g_pure (c' := (10, [(0, .ref l0), (1, .ref l1), (2, .int l2)], [.ref l0], (jE0, M))) 1 rfl ?_
    refine g_gf (ci := 5) (k := 2) rfl rfl rfl pl0 ?_
    refine g_pure (c' := (14, [(0, .ref l0), (1, .ref l1), (2, .int l2)], [.ref l0, .int (M l0 2)], (jE0, M))) 1 rfl ?_
    refine g_gf (ci := 5) (k := 1) rfl rfl rfl pl0 ?_
    refine g_ic_ge (tgt := 54) rfl rfl (fun q2 => ?_) (fun q2 => ?_)
    · refine g_pure (c' := (21, [(0, .ref l0), (1, .ref l1), (2, .int l2)], [.ref l0], (jE0, M))) 1 rfl ?_
      refine g_gp rfl rfl rfl pl0 (jp_ok (kd := 3) pl0 (by decide) (by decide) rfl rfl).1 ?_
      refine g_pure (c' := (25, [(0, .ref l0), (1, .ref l1), (2, .int l2)], [.ref l0, .ref (jpt l0 0)], (jE0, M))) 1 rfl ?_
      refine g_gf (ci := 5) (k := 2) rfl rfl rfl pl0 ?_
      refine g_cI rfl (jc_v rfl rfl (jv_o (jk_ok (kd := 3) pl0 (by decide) (by decide) rfl rfl) rfl) rfl) (c42 (jpt l0 0) (M l0 2) (jk_ok (kd := 3) pl0 (by decide) (by decide) rfl rfl)) (by decide) (fun v3 qv3 => ?_)
      refine g_pure (c' := (35, [(0, .ref l0), (1, .ref l1), (2, .int l2)], [.int (122 : Int32), .int (97 : Int32), .int v3], (jE0, M))) 2 rfl ?_
      refine g_cI rfl (jc_s rfl rfl) (c66 v3 (97 : Int32) (122 : Int32)) (by decide) (fun v4 qv4 => ?_)
      refine g_if_eq (tgt := 54) rfl rfl (fun q5 => ?_) (fun q5 => ?_)
      · exact (c60_54 l0 l1 l2 M pl0 pl1)
      · refine g_pure (c' := (43, [(0, .ref l0), (1, .ref l1), (2, .int l2)], [.ref l0, .ref l0], (jE0, M))) 2 rfl ?_
        refine g_gf (ci := 5) (k := 2) rfl rfl rfl pl0 ?_
        refine g_pure (c' := (48, [(0, .ref l0), (1, .ref l1), (2, .int l2)], [.int ((M l0 2) + (1 : Int32)), .ref l0], (jE0, M))) 2 rfl ?_
        refine g_pf (ci := 5) (k := 2) rfl rfl rfl rfl pl0 (fun M13 => ?_)
        refine g_pure (c' := (9, [(0, .ref l0), (1, .ref l1), (2, .int l2)], [], (jE0, M13))) 1 rfl ?_
        exact ((c60_9 n) l0 l1 l2 M13 pl0 pl1)
    · exact (c60_54 l0 l1 l2 M pl0 pl1)
/-- CometKin$Text.readWord -/
def f60 (xs : Option (List Int32)) (l0 : Nat) (l1 : Nat) (M : JM) : Option (Int32 × JM) := ((f65 l0 M).bind fun M1 => (f60_9 xs 1000 l0 l1 (M1 l0 2) M1))
set_option maxRecDepth 100000 in
theorem c60 {xs : Option (List Int32)} (l0 : Nat) (l1 : Nat) (M : JM) (pl0 : jok jE0 l0 5 = true) (pl1 : jok jE0 l1 0 = true) : JG xs 5 60 (f60 xs l0 l1 M) (fun x r => r = (some (.int x.1), (jE0, x.2))) (0, [(0, .ref l0), (1, .ref l1)], [], (jE0, M)) := by
    unfold f60
    refine g_pure (c' := (1, [(0, .ref l0), (1, .ref l1)], [.ref l0], (jE0, M))) 1 rfl ?_
    refine g_wV rfl (jc_v rfl rfl (jv_o pl0 rfl) rfl) (c65 l0 M pl0) (by decide) (fun M1 => ?_)
    refine g_pure (c' := (5, [(0, .ref l0), (1, .ref l1)], [.ref l0], (jE0, M1))) 1 rfl ?_
    refine g_gf (ci := 5) (k := 2) rfl rfl rfl pl0 ?_
    refine g_pure (c' := (9, [(2, .int (M1 l0 2)), (0, .ref l0), (1, .ref l1)], [], (jE0, M1))) 1 rfl ?_
    refine g_weakk (lv := [(0, .ref l0), (1, .ref l1), (2, .int (M1 l0 2))]) ⟨rfl, rfl, rfl, trivial⟩ [0, 1, 2] rfl (by decide) [2, 0, 1] rfl (by decide) ?_
    exact (c60_9 1000 l0 l1 (M1 l0 2) M1 pl0 pl1)
/-- CometKin$Text.cometKindOf -/
def f57  (l0 : Int32) : Option Int32 := (if l0 = (1 : Int32) then (some (1 : Int32)) else (if l0 = (2 : Int32) then (some (2 : Int32)) else (if l0 = (3 : Int32) then (some (3 : Int32)) else (some (0 : Int32)))))
set_option maxRecDepth 100000 in
theorem c57 {xs : Option (List Int32)} {M : JM} (l0 : Int32) : JG xs 0 57 (f57 l0) (fun x r => r = (some (.int x), (jE0, M))) (0, [(0, .int l0)], [], (jE0, M)) := by
    unfold f57
    refine g_pure (c' := (1, [(0, .int l0)], [.int l0], (jE0, M))) 1 rfl ?_
    refine g_eq (fun q1 => ?_) (fun q1 => ?_)
    · refine g_t1 q1 rfl rfl ?_
      refine g_pure (c' := (29, [(0, .int l0)], [.int (1 : Int32)], (jE0, M))) 1 rfl ?_
      exact g_ret rfl rfl (fun _ h => h)
    refine g_eq (fun q2 => ?_) (fun q2 => ?_)
    · refine g_t1 q2 rfl rfl ?_
      refine g_pure (c' := (31, [(0, .int l0)], [.int (2 : Int32)], (jE0, M))) 1 rfl ?_
      exact g_ret rfl rfl (fun _ h => h)
    refine g_eq (fun q3 => ?_) (fun q3 => ?_)
    · refine g_t1 q3 rfl rfl ?_
      refine g_pure (c' := (33, [(0, .int l0)], [.int (3 : Int32)], (jE0, M))) 1 rfl ?_
      exact g_ret rfl rfl (fun _ h => h)
    refine g_t0 (tgt := 34) rfl (fun v h1 h2 => ?_) rfl ?_
    · rcases (show v = 1 ∨ v = 2 ∨ v = 3 by omega) with rfl | rfl | rfl
      · exact q1
      · exact q2
      · exact q3
    refine g_pure (c' := (35, [(0, .int l0)], [.int (0 : Int32)], (jE0, M))) 1 rfl ?_
    exact g_ret rfl rfl (fun _ h => h)
def f64_121  (l0 : Nat) (l3 : Int32) (M : JM) : Option (Int32 × JM) := ((some (jup M l0 3 l3)).bind fun M8 => (some ((-1 : Int32), M8)))
set_option maxRecDepth 100000 in
theorem c64_121 {xs : Option (List Int32)} : ∀ (l0 : Nat) (l3 : Int32) (M : JM) (pl0 : jok jE0 l0 5 = true), JG xs 2 64 (f64_121 l0 l3 M) (fun x r => r = (some (.int x.1), (jE0, x.2))) (121, [(0, .ref l0), (3, .int l3)], [], (jE0, M)) := by
    intro l0 l3 M pl0
    unfold f64_121
    refine g_pure (c' := (123, [(0, .ref l0), (3, .int l3)], [.int l3, .ref l0], (jE0, M))) 2 rfl ?_
    refine g_pf (ci := 5) (k := 3) rfl rfl rfl rfl pl0 (fun M8 => ?_)
    refine g_pure (c' := (127, [(0, .ref l0), (3, .int l3)], [.int (-1 : Int32)], (jE0, M8))) 1 rfl ?_
    exact g_ret rfl rfl (fun _ h => h)
def f64_89  (l0 : Nat) (l1 : Int32) (l2 : Int32) (l3 : Int32) (l4 : Int32) (M : JM) : Option (Int32 × JM) := (if ((M l0 2) - l3) < (1 : Int32) then (f64_121 l0 l3 M) else (if (2 : Int32) < ((M l0 2) - l3) then (f64_121 l0 l3 M) else (if l1 < l4 then (f64_121 l0 l3 M) else (if l4 = l2 then (f64_121 l0 l3 M) else (some (l4, M))))))
set_option maxRecDepth 100000 in
theorem c64_89 {xs : Option (List Int32)} : ∀ (l0 : Nat) (l1 : Int32) (l2 : Int32) (l3 : Int32) (l4 : Int32) (M : JM) (pl0 : jok jE0 l0 5 = true), JG xs 2 64 (f64_89 l0 l1 l2 l3 l4 M) (fun x r => r = (some (.int x.1), (jE0, x.2))) (89, [(0, .ref l0), (1, .int l1), (2, .int l2), (3, .int l3), (4, .int l4)], [], (jE0, M)) := by
    intro l0 l1 l2 l3 l4 M pl0
    unfold f64_89
    refine g_pure (c' := (90, [(0, .ref l0), (1, .int l1), (2, .int l2), (3, .int l3), (4, .int l4)], [.ref l0], (jE0, M))) 1 rfl ?_
    refine g_gf (ci := 5) (k := 2) rfl rfl rfl pl0 ?_
    refine g_pure (c' := (100, [(5, .int ((M l0 2) - l3)), (0, .ref l0), (1, .int l1), (2, .int l2), (3, .int l3), (4, .int l4)], [.int (1 : Int32), .int ((M l0 2) - l3)], (jE0, M))) 5 rfl ?_
    refine g_ic_lt (tgt := 121) rfl rfl (fun q7 => ?_) (fun q7 => ?_)
    · refine g_weakk (lv := [(0, .ref l0), (3, .int l3)]) ⟨rfl, rfl, trivial⟩ [0, 3] rfl (by decide) [5, 0, 1, 2, 3, 4] rfl (by decide) ?_
      exact (c64_121 l0 l3 M pl0)
    · refine g_pure (c' := (106, [(5, .int ((M l0 2) - l3)), (0, .ref l0), (1, .int l1), (2, .int l2), (3, .int l3), (4, .int l4)], [.int (2 : Int32), .int ((M l0 2) - l3)], (jE0, M))) 2 rfl ?_
      refine g_ic_gt (tgt := 121) rfl rfl (fun q9 => ?_) (fun q9 => ?_)
      · refine g_weakk (lv := [(0, .ref l0), (3, .int l3)]) ⟨rfl, rfl, trivial⟩ [0, 3] rfl (by decide) [5, 0, 1, 2, 3, 4] rfl (by decide) ?_
        exact (c64_121 l0 l3 M pl0)
      · refine g_pure (c' := (112, [(5, .int ((M l0 2) - l3)), (0, .ref l0), (1, .int l1), (2, .int l2), (3, .int l3), (4, .int l4)], [.int l1, .int l4], (jE0, M))) 2 rfl ?_
        refine g_ic_gt (tgt := 121) rfl rfl (fun q10 => ?_) (fun q10 => ?_)
        · refine g_weakk (lv := [(0, .ref l0), (3, .int l3)]) ⟨rfl, rfl, trivial⟩ [0, 3] rfl (by decide) [5, 0, 1, 2, 3, 4] rfl (by decide) ?_
          exact (c64_121 l0 l3 M pl0)
        · refine g_pure (c' := (118, [(5, .int ((M l0 2) - l3)), (0, .ref l0), (1, .int l1), (2, .int l2), (3, .int l3), (4, .int l4)], [.int l2, .int l4], (jE0, M))) 2 rfl ?_
          refine g_ic_ne (tgt := 128) rfl rfl (fun q11 => ?_) (fun q11 => ?_)
          · refine g_weakk (lv := [(0, .ref l0), (3, .int l3)]) ⟨rfl, rfl, trivial⟩ [0, 3] rfl (by decide) [5, 0, 1, 2, 3, 4] rfl (by decide) ?_
            exact (c64_121 l0 l3 M pl0)
          · refine g_pure (c' := (130, [(5, .int ((M l0 2) - l3)), (0, .ref l0), (1, .int l1), (2, .int l2), (3, .int l3), (4, .int l4)], [.int l4], (jE0, M))) 1 rfl ?_
            exact g_ret rfl rfl (fun _ h => h)
def f64_22  : Nat → Nat → Int32 → Int32 → Int32 → Int32 → JM → Option (Int32 × JM)
  | 0, _, _, _, _, _, _ => none
  | n + 1, l0, l1, l2, l3, l4, M => (if (M l0 2) < (M l0 1) then ((f42 M (jpt l0 0) (M l0 2)).bind fun v4 => ((f66 v4 (48 : Int32) (57 : Int32)).bind fun v5 => (if v5 = (0 : Int32) then (f64_89 l0 l1 l2 l3 l4 M) else ((f42 M (jpt l0 0) (M l0 2)).bind fun v12 => ((some (jup M l0 2 ((M l0 2) + (1 : Int32)))).bind fun M13 => ((f64_22 n) l0 l1 l2 l3 (((l4 * (10 : Int32)) + v12) - (48 : Int32)) M13)))))) else (f64_89 l0 l1 l2 l3 l4 M))
set_option maxRecDepth 100000 in
theorem c64_22 {xs : Option (List Int32)} : ∀ (n : Nat) (l0 : Nat) (l1 : Int32) (l2 : Int32) (l3 : Int32) (l4 : Int32) (M : JM) (pl0 : jok jE0 l0 5 = true), JG xs 2 64 (f64_22 n l0 l1 l2 l3 l4 M) (fun x r => r = (some (.int x.1), (jE0, x.2))) (22, [(0, .ref l0), (1, .int l1), (2, .int l2), (3, .int l3), (4, .int l4)], [], (jE0, M))
  | 0, _, _, _, _, _, _, _ => by rw [f64_22]; exact g_none
  | n + 1, l0, l1, l2, l3, l4, M, pl0 => by
    rw [f64_22]
    refine g_pure (c' := (23, [(0, .ref l0), (1, .int l1), (2, .int l2), (3, .int l3), (4, .int l4)], [.ref l0], (jE0, M))) 1 rfl ?_
    refine g_gf (ci := 5) (k := 2) rfl rfl rfl pl0 ?_
    refine g_pure (c' := (27, [(0, .ref l0), (1, .int l1), (2, .int l2), (3, .int l3), (4, .int l4)], [.ref l0, .int (M l0 2)], (jE0, M))) 1 rfl ?_
    refine g_gf (ci := 5) (k := 1) rfl rfl rfl pl0 ?_
    refine g_ic_ge (tgt := 89) rfl rfl (fun q3 => ?_) (fun q3 => ?_)
    · refine g_pure (c' := (34, [(0, .ref l0), (1, .int l1), (2, .int l2), (3, .int l3), (4, .int l4)], [.ref l0], (jE0, M))) 1 rfl ?_
      refine g_gp rfl rfl rfl pl0 (jp_ok (kd := 3) pl0 (by decide) (by decide) rfl rfl).1 ?_
      refine g_pure (c' := (38, [(0, .ref l0), (1, .int l1), (2, .int l2), (3, .int l3), (4, .int l4)], [.ref l0, .ref (jpt l0 0)], (jE0, M))) 1 rfl ?_
      refine g_gf (ci := 5) (k := 2) rfl rfl rfl pl0 ?_
      refine g_cI rfl (jc_v rfl rfl (jv_o (jk_ok (kd := 3) pl0 (by decide) (by decide) rfl rfl) rfl) rfl) (c42 (jpt l0 0) (M l0 2) (jk_ok (kd := 3) pl0 (by decide) (by decide) rfl rfl)) (by decide) (fun v4 qv4 => ?_)
      refine g_pure (c' := (48, [(0, .ref l0), (1, .int l1), (2, .int l2), (3, .int l3), (4, .int l4)], [.int (57 : Int32), .int (48 : Int32), .int v4], (jE0, M))) 2 rfl ?_
      refine g_cI rfl (jc_s rfl rfl) (c66 v4 (48 : Int32) (57 : Int32)) (by decide) (fun v5 qv5 => ?_)
      refine g_if_eq (tgt := 89) rfl rfl (fun q6 => ?_) (fun q6 => ?_)
      · exact (c64_89 l0 l1 l2 l3 l4 M pl0)
      · refine g_pure (c' := (60, [(0, .ref l0), (1, .int l1), (2, .int l2), (3, .int l3), (4, .int l4)], [.ref l0, .int (l4 * (10 : Int32))], (jE0, M))) 4 rfl ?_
        refine g_gp rfl rfl rfl pl0 (jp_ok (kd := 3) pl0 (by decide) (by decide) rfl rfl).1 ?_
        refine g_pure (c' := (64, [(0, .ref l0), (1, .int l1), (2, .int l2), (3, .int l3), (4, .int l4)], [.ref l0, .ref (jpt l0 0), .int (l4 * (10 : Int32))], (jE0, M))) 1 rfl ?_
        refine g_gf (ci := 5) (k := 2) rfl rfl rfl pl0 ?_
        refine g_cI rfl (jc_v rfl rfl (jv_o (jk_ok (kd := 3) pl0 (by decide) (by decide) rfl rfl) rfl) rfl) (c42 (jpt l0 0) (M l0 2) (jk_ok (kd := 3) pl0 (by decide) (by decide) rfl rfl)) (by decide) (fun v12 qv12 => ?_)
        refine g_pure (c' := (78, [(4, .int (((l4 * (10 : Int32)) + v12) - (48 : Int32))), (0, .ref l0), (1, .int l1), (2, .int l2), (3, .int l3)], [.ref l0, .ref l0], (jE0, M))) 6 rfl ?_
        refine g_gf (ci := 5) (k := 2) rfl rfl rfl pl0 ?_
        refine g_pure (c' := (83, [(4, .int (((l4 * (10 : Int32)) + v12) - (48 : Int32))), (0, .ref l0), (1, .int l1), (2, .int l2), (3, .int l3)], [.int ((M l0 2) + (1 : Int32)), .ref l0], (jE0, M))) 2 rfl ?_
        refine g_pf (ci := 5) (k := 2) rfl rfl rfl rfl pl0 (fun M13 => ?_)
        refine g_pure (c' := (22, [(4, .int (((l4 * (10 : Int32)) + v12) - (48 : Int32))), (0, .ref l0), (1, .int l1), (2, .int l2), (3, .int l3)], [], (jE0, M13))) 1 rfl ?_
        refine g_weakk (lv := [(0, .ref l0), (1, .int l1), (2, .int l2), (3, .int l3), (4, .int (((l4 * (10 : Int32)) + v12) - (48 : Int32)))]) ⟨rfl, rfl, rfl, rfl, rfl, trivial⟩ [0, 1, 2, 3, 4] rfl (by decide) [4, 0, 1, 2, 3] rfl (by decide) ?_
        exact ((c64_22 n) l0 l1 l2 l3 (((l4 * (10 : Int32)) + v12) - (48 : Int32)) M13 pl0)
    · exact (c64_89 l0 l1 l2 l3 l4 M pl0)
/-- CometKin$Text.readNumber -/
def f64  (l0 : Nat) (l1 : Int32) (l2 : Int32) (M : JM) : Option (Int32 × JM) := (if (M l0 3) = (-1 : Int32) then ((f65 l0 M).bind fun M2 => (f64_22 1000 l0 l1 l2 (M2 l0 2) (0 : Int32) M2)) else (some ((-1 : Int32), M)))
set_option maxRecDepth 100000 in
theorem c64 {xs : Option (List Int32)} (l0 : Nat) (l1 : Int32) (l2 : Int32) (M : JM) (pl0 : jok jE0 l0 5 = true) : JG xs 2 64 (f64 l0 l1 l2 M) (fun x r => r = (some (.int x.1), (jE0, x.2))) (0, [(0, .ref l0), (1, .int l1), (2, .int l2)], [], (jE0, M)) := by
    unfold f64
    refine g_pure (c' := (1, [(0, .ref l0), (1, .int l1), (2, .int l2)], [.ref l0], (jE0, M))) 1 rfl ?_
    refine g_gf (ci := 5) (k := 3) rfl rfl rfl pl0 ?_
    refine g_pure (c' := (5, [(0, .ref l0), (1, .int l1), (2, .int l2)], [.int (-1 : Int32), .int (M l0 3)], (jE0, M))) 1 rfl ?_
    refine g_ic_eq (tgt := 10) rfl rfl (fun q1 => ?_) (fun q1 => ?_)
    · refine g_pure (c' := (11, [(0, .ref l0), (1, .int l1), (2, .int l2)], [.ref l0], (jE0, M))) 1 rfl ?_
      refine g_wV rfl (jc_v rfl rfl (jv_o pl0 rfl) rfl) (c65 l0 M pl0) (by decide) (fun M2 => ?_)
      refine g_pure (c' := (15, [(0, .ref l0), (1, .int l1), (2, .int l2)], [.ref l0], (jE0, M2))) 1 rfl ?_
      refine g_gf (ci := 5) (k := 2) rfl rfl rfl pl0 ?_
      refine g_pure (c' := (22, [(4, .int (0 : Int32)), (3, .int (M2 l0 2)), (0, .ref l0), (1, .int l1), (2, .int l2)], [], (jE0, M2))) 3 rfl ?_
      refine g_weakk (lv := [(0, .ref l0), (1, .int l1), (2, .int l2), (3, .int (M2 l0 2)), (4, .int (0 : Int32))]) ⟨rfl, rfl, rfl, rfl, rfl, trivial⟩ [0, 1, 2, 3, 4] rfl (by decide) [4, 3, 0, 1, 2] rfl (by decide) ?_
      exact (c64_22 1000 l0 l1 l2 (M2 l0 2) (0 : Int32) M2 pl0)
    · refine g_pure (c' := (9, [(0, .ref l0), (1, .int l1), (2, .int l2)], [.int (-1 : Int32)], (jE0, M))) 1 rfl ?_
      exact g_ret rfl rfl (fun _ h => h)
