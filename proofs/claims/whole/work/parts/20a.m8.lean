/-- CometKin$Country.addComet -/
def f8  (l0 : Nat) (l1 : Int32) (l2 : Int32) (M : JM) : Option JM := ((f43 (jpt l0 8) (M l0 1) l1 M).bind fun M1 => ((f43 (jpt l0 9) (M1 l0 1) l2 M1).bind fun M2 => ((some (jup M2 l0 1 ((M2 l0 1) + (1 : Int32)))).bind fun M3 => (some M3))))
set_option maxRecDepth 100000 in
theorem c8 {xs : Option (List Int32)} (l0 : Nat) (l1 : Int32) (l2 : Int32) (M : JM) (pl0 : jok jE0 l0 0 = true) : JG xs 1 8 (f8 l0 l1 l2 M) (fun x r => r = (none, (jE0, x))) (0, [(0, .ref l0), (1, .int l1), (2, .int l2)], [], (jE0, M)) := by
    unfold f8
    refine g_pure (c' := (1, [(0, .ref l0), (1, .int l1), (2, .int l2)], [.ref l0], (jE0, M))) 1 rfl ?_
    refine g_gp rfl rfl rfl pl0 (jp_ok (kd := 3) pl0 (by decide) (by decide) rfl rfl).1 ?_
    refine g_pure (c' := (5, [(0, .ref l0), (1, .int l1), (2, .int l2)], [.ref l0, .ref (jpt l0 8)], (jE0, M))) 1 rfl ?_
    refine g_gf (ci := 0) (k := 1) rfl rfl rfl pl0 ?_
    refine g_pure (c' := (9, [(0, .ref l0), (1, .int l1), (2, .int l2)], [.int l1, .int (M l0 1), .ref (jpt l0 8)], (jE0, M))) 1 rfl ?_
    refine g_wV rfl (jc_v rfl rfl (jv_o (jk_ok (kd := 3) pl0 (by decide) (by decide) rfl rfl) rfl) rfl) (c43 (jpt l0 8) (M l0 1) l1 M (jk_ok (kd := 3) pl0 (by decide) (by decide) rfl rfl)) (by decide) (fun M1 => ?_)
    refine g_pure (c' := (13, [(0, .ref l0), (1, .int l1), (2, .int l2)], [.ref l0], (jE0, M1))) 1 rfl ?_
    refine g_gp rfl rfl rfl pl0 (jp_ok (kd := 3) pl0 (by decide) (by decide) rfl rfl).1 ?_
    refine g_pure (c' := (17, [(0, .ref l0), (1, .int l1), (2, .int l2)], [.ref l0, .ref (jpt l0 9)], (jE0, M1))) 1 rfl ?_
    refine g_gf (ci := 0) (k := 1) rfl rfl rfl pl0 ?_
    refine g_pure (c' := (21, [(0, .ref l0), (1, .int l1), (2, .int l2)], [.int l2, .int (M1 l0 1), .ref (jpt l0 9)], (jE0, M1))) 1 rfl ?_
    refine g_wV rfl (jc_v rfl rfl (jv_o (jk_ok (kd := 3) pl0 (by decide) (by decide) rfl rfl) rfl) rfl) (c43 (jpt l0 9) (M1 l0 1) l2 M1 (jk_ok (kd := 3) pl0 (by decide) (by decide) rfl rfl)) (by decide) (fun M2 => ?_)
    refine g_pure (c' := (26, [(0, .ref l0), (1, .int l1), (2, .int l2)], [.ref l0, .ref l0], (jE0, M2))) 2 rfl ?_
    refine g_gf (ci := 0) (k := 1) rfl rfl rfl pl0 ?_
    refine g_pure (c' := (31, [(0, .ref l0), (1, .int l1), (2, .int l2)], [.int ((M2 l0 1) + (1 : Int32)), .ref l0], (jE0, M2))) 2 rfl ?_
    refine g_pf (ci := 0) (k := 1) rfl rfl rfl rfl pl0 (fun M3 => ?_)
    exact g_ret rfl rfl (fun _ h => h)
/-- CometKin$Text.kindOf -/
def f58  (l0 : Int32) : Option Int32 := (if l0 = (5 : Int32) then (some (1 : Int32)) else (if l0 = (6 : Int32) then (some (2 : Int32)) else (some (0 : Int32))))
set_option maxRecDepth 100000 in
theorem c58 {xs : Option (List Int32)} {M : JM} (l0 : Int32) : JG xs 0 58 (f58 l0) (fun x r => r = (some (.int x), (jE0, M))) (0, [(0, .int l0)], [], (jE0, M)) := by
    unfold f58
    refine g_pure (c' := (1, [(0, .int l0)], [.int l0], (jE0, M))) 1 rfl ?_
    refine g_eq (fun q1 => ?_) (fun q1 => ?_)
    · refine g_t1 q1 rfl rfl ?_
      refine g_pure (c' := (29, [(0, .int l0)], [.int (1 : Int32)], (jE0, M))) 1 rfl ?_
      exact g_ret rfl rfl (fun _ h => h)
    refine g_eq (fun q2 => ?_) (fun q2 => ?_)
    · refine g_t1 q2 rfl rfl ?_
      refine g_pure (c' := (31, [(0, .int l0)], [.int (2 : Int32)], (jE0, M))) 1 rfl ?_
      exact g_ret rfl rfl (fun _ h => h)
    refine g_l0 (tgt := 32) rfl rfl ?_ rfl ?_
    · have e5 : ¬ (l0).toInt = 5 := fun e => q1 ((Int32.ofInt_toInt _).symm.trans (by rw [e]; rfl))
      have e6 : ¬ (l0).toInt = 6 := fun e => q2 ((Int32.ofInt_toInt _).symm.trans (by rw [e]; rfl))
      simp [Op.lookupswitch.offset, e5, Ne.symm e5, e6, Ne.symm e6]
    refine g_pure (c' := (33, [(0, .int l0)], [.int (0 : Int32)], (jE0, M))) 1 rfl ?_
    exact g_ret rfl rfl (fun _ h => h)
/-- CometKin$Country.setParents -/
def f7  (l0 : Nat) (l1 : Int32) (l2 : Int32) (l3 : Int32) (M : JM) : Option JM := ((f43 (jpt l0 5) l1 l2 M).bind fun M1 => ((f43 (jpt l0 6) l1 l3 M1).bind fun M2 => (some M2)))
set_option maxRecDepth 100000 in
theorem c7 {xs : Option (List Int32)} (l0 : Nat) (l1 : Int32) (l2 : Int32) (l3 : Int32) (M : JM) (pl0 : jok jE0 l0 0 = true) : JG xs 1 7 (f7 l0 l1 l2 l3 M) (fun x r => r = (none, (jE0, x))) (0, [(0, .ref l0), (1, .int l1), (2, .int l2), (3, .int l3)], [], (jE0, M)) := by
    unfold f7
    refine g_pure (c' := (1, [(0, .ref l0), (1, .int l1), (2, .int l2), (3, .int l3)], [.ref l0], (jE0, M))) 1 rfl ?_
    refine g_gp rfl rfl rfl pl0 (jp_ok (kd := 3) pl0 (by decide) (by decide) rfl rfl).1 ?_
    refine g_pure (c' := (6, [(0, .ref l0), (1, .int l1), (2, .int l2), (3, .int l3)], [.int l2, .int l1, .ref (jpt l0 5)], (jE0, M))) 2 rfl ?_
    refine g_wV rfl (jc_v rfl rfl (jv_o (jk_ok (kd := 3) pl0 (by decide) (by decide) rfl rfl) rfl) rfl) (c43 (jpt l0 5) l1 l2 M (jk_ok (kd := 3) pl0 (by decide) (by decide) rfl rfl)) (by decide) (fun M1 => ?_)
    refine g_pure (c' := (10, [(0, .ref l0), (1, .int l1), (2, .int l2), (3, .int l3)], [.ref l0], (jE0, M1))) 1 rfl ?_
    refine g_gp rfl rfl rfl pl0 (jp_ok (kd := 3) pl0 (by decide) (by decide) rfl rfl).1 ?_
    refine g_pure (c' := (15, [(0, .ref l0), (1, .int l1), (2, .int l2), (3, .int l3)], [.int l3, .int l1, .ref (jpt l0 6)], (jE0, M1))) 2 rfl ?_
    refine g_wV rfl (jc_v rfl rfl (jv_o (jk_ok (kd := 3) pl0 (by decide) (by decide) rfl rfl) rfl) rfl) (c43 (jpt l0 6) l1 l3 M1 (jk_ok (kd := 3) pl0 (by decide) (by decide) rfl rfl)) (by decide) (fun M2 => ?_)
    exact g_ret rfl rfl (fun _ h => h)
/-- CometKin.bit -/
def f100  (l0 : Int32) : Option Int32 := (if l0 < (0 : Int32) then (some (0 : Int32)) else (if l0 < (31 : Int32) then (some ((1 : Int32) <<< (l0 &&& (31 : Int32)))) else (some (0 : Int32))))
set_option maxRecDepth 100000 in
theorem c100 {xs : Option (List Int32)} {M : JM} (l0 : Int32) : JG xs 0 100 (f100 l0) (fun x r => r = (some (.int x), (jE0, M))) (0, [(0, .int l0)], [], (jE0, M)) := by
    unfold f100
    refine g_pure (c' := (1, [(0, .int l0)], [.int l0], (jE0, M))) 1 rfl ?_
    refine g_if_lt (tgt := 16) rfl rfl (fun q1 => ?_) (fun q1 => ?_)
    · refine g_pure (c' := (17, [(0, .int l0)], [.int (0 : Int32)], (jE0, M))) 1 rfl ?_
      exact g_ret rfl rfl (fun _ h => h)
    · refine g_pure (c' := (7, [(0, .int l0)], [.int (31 : Int32), .int l0], (jE0, M))) 2 rfl ?_
      refine g_ic_ge (tgt := 16) rfl rfl (fun q2 => ?_) (fun q2 => ?_)
      · refine g_pure (c' := (17, [(0, .int l0)], [.int ((1 : Int32) <<< (l0 &&& (31 : Int32)))], (jE0, M))) 4 rfl ?_
        exact g_ret rfl rfl (fun _ h => h)
      · refine g_pure (c' := (17, [(0, .int l0)], [.int (0 : Int32)], (jE0, M))) 1 rfl ?_
        exact g_ret rfl rfl (fun _ h => h)
def f6_71  (l3 : Int32) (s0 : Int32) (s1 : Nat) (M : JM) : Option (Int32 × JM) := ((some (jup M s1 10 s0)).bind fun M8 => (some (l3, M8)))
set_option maxRecDepth 100000 in
theorem c6_71 {xs : Option (List Int32)} : ∀ (l3 : Int32) (s0 : Int32) (s1 : Nat) (M : JM) (ps1 : jok jE0 s1 0 = true), JG xs 2 6 (f6_71 l3 s0 s1 M) (fun x r => r = (some (.int x.1), (jE0, x.2))) (71, [(3, .int l3)], [.int s0, .ref s1], (jE0, M)) := by
    intro l3 s0 s1 M ps1
    unfold f6_71
    refine g_pf (ci := 0) (k := 10) rfl rfl rfl rfl ps1 (fun M8 => ?_)
    refine g_pure (c' := (75, [(3, .int l3)], [.int l3], (jE0, M8))) 1 rfl ?_
    exact g_ret rfl rfl (fun _ h => h)
/-- CometKin$Country.addOne -/
def f6  (l0 : Nat) (l1 : Int32) (l2 : Int32) (M : JM) : Option (Int32 × JM) := ((some (jup M l0 0 ((M l0 0) + (1 : Int32)))).bind fun M1 => ((f43 (jpt l0 3) (M l0 0) l1 M1).bind fun M2 => ((f43 (jpt l0 4) (M l0 0) l2 M2).bind fun M3 => ((f43 (jpt l0 7) (M l0 0) (0 : Int32) M3).bind fun M4 => ((f7 l0 (M l0 0) (-1 : Int32) (-1 : Int32) M4).bind fun M5 => (if l1 = (1 : Int32) then ((f100 (M l0 0)).bind fun v7 => (f6_71 (M l0 0) ((M5 l0 10) ||| v7) l0 M5)) else (f6_71 (M l0 0) (M5 l0 10) l0 M5)))))))
set_option maxRecDepth 100000 in
theorem c6 {xs : Option (List Int32)} (l0 : Nat) (l1 : Int32) (l2 : Int32) (M : JM) (pl0 : jok jE0 l0 0 = true) : JG xs 2 6 (f6 l0 l1 l2 M) (fun x r => r = (some (.int x.1), (jE0, x.2))) (0, [(0, .ref l0), (1, .int l1), (2, .int l2)], [], (jE0, M)) := by
    unfold f6
    refine g_pure (c' := (1, [(0, .ref l0), (1, .int l1), (2, .int l2)], [.ref l0], (jE0, M))) 1 rfl ?_
    refine g_gf (ci := 0) (k := 0) rfl rfl rfl pl0 ?_
    refine g_pure (c' := (7, [(3, .int (M l0 0)), (0, .ref l0), (1, .int l1), (2, .int l2)], [.ref l0, .ref l0], (jE0, M))) 3 rfl ?_
    refine g_gf (ci := 0) (k := 0) rfl rfl rfl pl0 ?_
    refine g_pure (c' := (12, [(3, .int (M l0 0)), (0, .ref l0), (1, .int l1), (2, .int l2)], [.int ((M l0 0) + (1 : Int32)), .ref l0], (jE0, M))) 2 rfl ?_
    refine g_pf (ci := 0) (k := 0) rfl rfl rfl rfl pl0 (fun M1 => ?_)
    refine g_pure (c' := (16, [(3, .int (M l0 0)), (0, .ref l0), (1, .int l1), (2, .int l2)], [.ref l0], (jE0, M1))) 1 rfl ?_
    refine g_gp rfl rfl rfl pl0 (jp_ok (kd := 3) pl0 (by decide) (by decide) rfl rfl).1 ?_
    refine g_pure (c' := (21, [(3, .int (M l0 0)), (0, .ref l0), (1, .int l1), (2, .int l2)], [.int l1, .int (M l0 0), .ref (jpt l0 3)], (jE0, M1))) 2 rfl ?_
    refine g_wV rfl (jc_v rfl rfl (jv_o (jk_ok (kd := 3) pl0 (by decide) (by decide) rfl rfl) rfl) rfl) (c43 (jpt l0 3) (M l0 0) l1 M1 (jk_ok (kd := 3) pl0 (by decide) (by decide) rfl rfl)) (by decide) (fun M2 => ?_)
    refine g_pure (c' := (25, [(3, .int (M l0 0)), (0, .ref l0), (1, .int l1), (2, .int l2)], [.ref l0], (jE0, M2))) 1 rfl ?_
    refine g_gp rfl rfl rfl pl0 (jp_ok (kd := 3) pl0 (by decide) (by decide) rfl rfl).1 ?_
    refine g_pure (c' := (30, [(3, .int (M l0 0)), (0, .ref l0), (1, .int l1), (2, .int l2)], [.int l2, .int (M l0 0), .ref (jpt l0 4)], (jE0, M2))) 2 rfl ?_
    refine g_wV rfl (jc_v rfl rfl (jv_o (jk_ok (kd := 3) pl0 (by decide) (by decide) rfl rfl) rfl) rfl) (c43 (jpt l0 4) (M l0 0) l2 M2 (jk_ok (kd := 3) pl0 (by decide) (by decide) rfl rfl)) (by decide) (fun M3 => ?_)
    refine g_pure (c' := (34, [(3, .int (M l0 0)), (0, .ref l0), (1, .int l1), (2, .int l2)], [.ref l0], (jE0, M3))) 1 rfl ?_
    refine g_gp rfl rfl rfl pl0 (jp_ok (kd := 3) pl0 (by decide) (by decide) rfl rfl).1 ?_
    refine g_pure (c' := (39, [(3, .int (M l0 0)), (0, .ref l0), (1, .int l1), (2, .int l2)], [.int (0 : Int32), .int (M l0 0), .ref (jpt l0 7)], (jE0, M3))) 2 rfl ?_
    refine g_wV rfl (jc_v rfl rfl (jv_o (jk_ok (kd := 3) pl0 (by decide) (by decide) rfl rfl) rfl) rfl) (c43 (jpt l0 7) (M l0 0) (0 : Int32) M3 (jk_ok (kd := 3) pl0 (by decide) (by decide) rfl rfl)) (by decide) (fun M4 => ?_)
    refine g_pure (c' := (46, [(3, .int (M l0 0)), (0, .ref l0), (1, .int l1), (2, .int l2)], [.int (-1 : Int32), .int (-1 : Int32), .int (M l0 0), .ref l0], (jE0, M4))) 4 rfl ?_
    refine g_wV rfl (jc_v rfl rfl (jv_o pl0 rfl) rfl) (c7 l0 (M l0 0) (-1 : Int32) (-1 : Int32) M4 pl0) (by decide) (fun M5 => ?_)
    refine g_pure (c' := (52, [(3, .int (M l0 0)), (0, .ref l0), (1, .int l1), (2, .int l2)], [.int (1 : Int32), .int l1, .ref l0], (jE0, M5))) 3 rfl ?_
    refine g_ic_ne (tgt := 67) rfl rfl (fun q6 => ?_) (fun q6 => ?_)
    · refine g_pure (c' := (56, [(3, .int (M l0 0)), (0, .ref l0), (1, .int l1), (2, .int l2)], [.ref l0, .ref l0], (jE0, M5))) 1 rfl ?_
      refine g_gf (ci := 0) (k := 10) rfl rfl rfl pl0 ?_
      refine g_pure (c' := (60, [(3, .int (M l0 0)), (0, .ref l0), (1, .int l1), (2, .int l2)], [.int (M l0 0), .int (M5 l0 10), .ref l0], (jE0, M5))) 1 rfl ?_
      refine g_cI rfl (jc_s rfl rfl) (c100 (M l0 0)) (by decide) (fun v7 qv7 => ?_)
      refine g_pure (c' := (71, [(3, .int (M l0 0)), (0, .ref l0), (1, .int l1), (2, .int l2)], [.int ((M5 l0 10) ||| v7), .ref l0], (jE0, M5))) 2 rfl ?_
      refine g_weakk (lv := [(3, .int (M l0 0))]) ⟨rfl, trivial⟩ [3] rfl (by decide) [3, 0, 1, 2] rfl (by decide) ?_
      exact (c6_71 (M l0 0) ((M5 l0 10) ||| v7) l0 M5 pl0)
    · refine g_pure (c' := (68, [(3, .int (M l0 0)), (0, .ref l0), (1, .int l1), (2, .int l2)], [.ref l0, .ref l0], (jE0, M5))) 1 rfl ?_
      refine g_gf (ci := 0) (k := 10) rfl rfl rfl pl0 ?_
      refine g_weakk (lv := [(3, .int (M l0 0))]) ⟨rfl, trivial⟩ [3] rfl (by decide) [3, 0, 1, 2] rfl (by decide) ?_
      exact (c6_71 (M l0 0) (M5 l0 10) l0 M5 pl0)
def f59_39  (l1 : Nat) (l3 : Int32) (l4 : Int32) (s0 : Int32) (M : JM) : Option JM := ((f7 l1 l3 l4 s0 M).bind fun M6 => (some M6))
set_option maxRecDepth 100000 in
theorem c59_39 {xs : Option (List Int32)} : ∀ (l1 : Nat) (l3 : Int32) (l4 : Int32) (s0 : Int32) (M : JM) (pl1 : jok jE0 l1 0 = true), JG xs 3 59 (f59_39 l1 l3 l4 s0 M) (fun x r => r = (none, (jE0, x))) (39, [(1, .ref l1), (3, .int l3), (4, .int l4)], [.int s0], (jE0, M)) := by
    intro l1 l3 l4 s0 M pl1
    unfold f59_39
    refine g_pure (c' := (47, [(5, .int s0), (1, .ref l1), (3, .int l3), (4, .int l4)], [.int s0, .int l4, .int l3, .ref l1], (jE0, M))) 5 rfl ?_
    refine g_wV rfl (jc_v rfl rfl (jv_o pl1 rfl) rfl) (c7 l1 l3 l4 s0 M pl1) (by decide) (fun M6 => ?_)
    exact g_ret rfl rfl (fun _ h => h)
/-- CometKin$Text.readParents -/
def f59  (l0 : Nat) (l1 : Nat) (l2 : Int32) (M : JM) : Option JM := ((f64 l0 ((M l1 0) - (1 : Int32)) (-1 : Int32) M).bind fun z11 => ((f64 l0 (z11.1 - (1 : Int32)) (-1 : Int32) z11.2).bind fun z10 => (if l2 = (0 : Int32) then (f59_39 l1 z11.1 z10.1 (-1 : Int32) z10.2) else ((f64 l0 (z11.1 - (1 : Int32)) z10.1 z10.2).bind fun z9 => (f59_39 l1 z11.1 z10.1 z9.1 z9.2)))))
set_option maxRecDepth 100000 in
theorem c59 {xs : Option (List Int32)} (l0 : Nat) (l1 : Nat) (l2 : Int32) (M : JM) (pl0 : jok jE0 l0 5 = true) (pl1 : jok jE0 l1 0 = true) : JG xs 3 59 (f59 l0 l1 l2 M) (fun x r => r = (none, (jE0, x))) (0, [(0, .ref l0), (1, .ref l1), (2, .int l2)], [], (jE0, M)) := by
    unfold f59
    refine g_pure (c' := (2, [(0, .ref l0), (1, .ref l1), (2, .int l2)], [.ref l1, .ref l0], (jE0, M))) 2 rfl ?_
    refine g_gf (ci := 0) (k := 0) rfl rfl rfl pl1 ?_
    refine g_pure (c' := (8, [(0, .ref l0), (1, .ref l1), (2, .int l2)], [.int (-1 : Int32), .int ((M l1 0) - (1 : Int32)), .ref l0], (jE0, M))) 3 rfl ?_
    refine g_wI rfl (jc_v rfl rfl (jv_o pl0 rfl) rfl) (c64 l0 ((M l1 0) - (1 : Int32)) (-1 : Int32) M pl0) (by decide) (fun v2 M1 qv2 => ?_)
    refine g_pure (c' := (17, [(3, .int v2), (0, .ref l0), (1, .ref l1), (2, .int l2)], [.int (-1 : Int32), .int (v2 - (1 : Int32)), .ref l0], (jE0, M1))) 6 rfl ?_
    refine g_wI rfl (jc_v rfl rfl (jv_o pl0 rfl) rfl) (c64 l0 (v2 - (1 : Int32)) (-1 : Int32) M1 pl0) (by decide) (fun v4 M3 qv4 => ?_)
    refine g_pure (c' := (23, [(4, .int v4), (3, .int v2), (0, .ref l0), (1, .ref l1), (2, .int l2)], [.int l2], (jE0, M3))) 2 rfl ?_
    refine g_if_eq (tgt := 38) rfl rfl (fun q5 => ?_) (fun q5 => ?_)
    · refine g_pure (c' := (39, [(4, .int v4), (3, .int v2), (0, .ref l0), (1, .ref l1), (2, .int l2)], [.int (-1 : Int32)], (jE0, M3))) 1 rfl ?_
      refine g_weakk (lv := [(1, .ref l1), (3, .int v2), (4, .int v4)]) ⟨rfl, rfl, rfl, trivial⟩ [1, 3, 4] rfl (by decide) [4, 3, 0, 1, 2] rfl (by decide) ?_
      exact (c59_39 l1 v2 v4 (-1 : Int32) M3 pl1)
    · refine g_pure (c' := (32, [(4, .int v4), (3, .int v2), (0, .ref l0), (1, .ref l1), (2, .int l2)], [.int v4, .int (v2 - (1 : Int32)), .ref l0], (jE0, M3))) 5 rfl ?_
      refine g_wI rfl (jc_v rfl rfl (jv_o pl0 rfl) rfl) (c64 l0 (v2 - (1 : Int32)) v4 M3 pl0) (by decide) (fun v8 M7 qv8 => ?_)
      refine g_pure (c' := (39, [(4, .int v4), (3, .int v2), (0, .ref l0), (1, .ref l1), (2, .int l2)], [.int v8], (jE0, M7))) 1 rfl ?_
      refine g_weakk (lv := [(1, .ref l1), (3, .int v2), (4, .int v4)]) ⟨rfl, rfl, rfl, trivial⟩ [1, 3, 4] rfl (by decide) [4, 3, 0, 1, 2] rfl (by decide) ?_
      exact (c59_39 l1 v2 v4 v8 M7 pl1)
/-- CometKin$Country.clear -/
def f2  (l0 : Nat) (M : JM) : Option JM := ((some (jup M l0 0 (0 : Int32))).bind fun M1 => ((some (jup M1 l0 10 (0 : Int32))).bind fun M2 => ((some (jup M2 l0 2 (2 : Int32))).bind fun M3 => ((some (jup M3 l0 1 (0 : Int32))).bind fun M4 => (some M4)))))
set_option maxRecDepth 100000 in
theorem c2 {xs : Option (List Int32)} (l0 : Nat) (M : JM) (pl0 : jok jE0 l0 0 = true) : JG xs 0 2 (f2 l0 M) (fun x r => r = (none, (jE0, x))) (0, [(0, .ref l0)], [], (jE0, M)) := by
    unfold f2
    refine g_pure (c' := (2, [(0, .ref l0)], [.int (0 : Int32), .ref l0], (jE0, M))) 2 rfl ?_
    refine g_pf (ci := 0) (k := 0) rfl rfl rfl rfl pl0 (fun M1 => ?_)
    refine g_pure (c' := (7, [(0, .ref l0)], [.int (0 : Int32), .ref l0], (jE0, M1))) 2 rfl ?_
    refine g_pf (ci := 0) (k := 10) rfl rfl rfl rfl pl0 (fun M2 => ?_)
    refine g_pure (c' := (12, [(0, .ref l0)], [.int (2 : Int32), .ref l0], (jE0, M2))) 2 rfl ?_
    refine g_pf (ci := 0) (k := 2) rfl rfl rfl rfl pl0 (fun M3 => ?_)
    refine g_pure (c' := (17, [(0, .ref l0)], [.int (0 : Int32), .ref l0], (jE0, M3))) 2 rfl ?_
    refine g_pf (ci := 0) (k := 1) rfl rfl rfl rfl pl0 (fun M4 => ?_)
    exact g_ret rfl rfl (fun _ h => h)
def f56_72 (xs : Option (List Int32)) (l0 : Nat) (l1 : Nat) (l2 : Int32) (M : JM) : Option JM := ((f57 l2).bind fun v4 => ((f64 l0 (99 : Int32) (-1 : Int32) M).bind fun z8 => ((f8 l1 v4 z8.1 z8.2).bind fun M7 => (some M7))))
set_option maxRecDepth 100000 in
theorem c56_72 {xs : Option (List Int32)} : ∀ (l0 : Nat) (l1 : Nat) (l2 : Int32) (M : JM) (pl0 : jok jE0 l0 5 = true) (pl1 : jok jE0 l1 0 = true), JG xs 6 56 (f56_72 xs l0 l1 l2 M) (fun x r => r = (none, (jE0, x))) (72, [(0, .ref l0), (1, .ref l1), (2, .int l2)], [], (jE0, M)) := by
    intro l0 l1 l2 M pl0 pl1
    unfold f56_72
    refine g_pure (c' := (74, [(0, .ref l0), (1, .ref l1), (2, .int l2)], [.int l2, .ref l1], (jE0, M))) 2 rfl ?_
    refine g_cI rfl (jc_s rfl rfl) (c57 l2) (by decide) (fun v4 qv4 => ?_)
    refine g_pure (c' := (81, [(0, .ref l0), (1, .ref l1), (2, .int l2)], [.int (-1 : Int32), .int (99 : Int32), .ref l0, .int v4, .ref l1], (jE0, M))) 3 rfl ?_
    refine g_wI rfl (jc_v rfl rfl (jv_o pl0 rfl) rfl) (c64 l0 (99 : Int32) (-1 : Int32) M pl0) (by decide) (fun v6 M5 qv6 => ?_)
    refine g_wV rfl (jc_v rfl rfl (jv_o pl1 rfl) rfl) (c8 l1 v4 v6 M5 pl1) (by decide) (fun M7 => ?_)
    refine g_pure (c' := (187, [(0, .ref l0), (1, .ref l1), (2, .int l2)], [], (jE0, M7))) 1 rfl ?_
    exact g_ret rfl rfl (fun _ h => h)
def f56_90 (xs : Option (List Int32)) (l0 : Nat) (l1 : Nat) (l2 : Int32) (M : JM) : Option JM := ((f58 l2).bind fun v13 => ((f64 l0 (99 : Int32) (-1 : Int32) M).bind fun z19 => ((f6 l1 v13 z19.1 z19.2).bind fun z18 => (some z18.2))))
set_option maxRecDepth 100000 in
theorem c56_90 {xs : Option (List Int32)} : ∀ (l0 : Nat) (l1 : Nat) (l2 : Int32) (M : JM) (pl0 : jok jE0 l0 5 = true) (pl1 : jok jE0 l1 0 = true), JG xs 6 56 (f56_90 xs l0 l1 l2 M) (fun x r => r = (none, (jE0, x))) (90, [(0, .ref l0), (1, .ref l1), (2, .int l2)], [], (jE0, M)) := by
    intro l0 l1 l2 M pl0 pl1
    unfold f56_90
    refine g_pure (c' := (92, [(0, .ref l0), (1, .ref l1), (2, .int l2)], [.int l2, .ref l1], (jE0, M))) 2 rfl ?_
    refine g_cI rfl (jc_s rfl rfl) (c58 l2) (by decide) (fun v13 qv13 => ?_)
    refine g_pure (c' := (99, [(0, .ref l0), (1, .ref l1), (2, .int l2)], [.int (-1 : Int32), .int (99 : Int32), .ref l0, .int v13, .ref l1], (jE0, M))) 3 rfl ?_
    refine g_wI rfl (jc_v rfl rfl (jv_o pl0 rfl) rfl) (c64 l0 (99 : Int32) (-1 : Int32) M pl0) (by decide) (fun v15 M14 qv15 => ?_)
    refine g_wI rfl (jc_v rfl rfl (jv_o pl1 rfl) rfl) (c6 l1 v13 v15 M14 pl1) (by decide) (fun v17 M16 qv17 => ?_)
    refine g_pure (c' := (187, [(0, .ref l0), (1, .ref l1), (2, .int l2)], [], (jE0, M16))) 2 rfl ?_
    exact g_ret rfl rfl (fun _ h => h)
def f56_122 (xs : Option (List Int32)) (s0 : Int32) (s1 : Nat) (s2 : Nat) (M : JM) : Option JM := ((f59 s2 s1 s0 M).bind fun M24 => (some M24))
set_option maxRecDepth 100000 in
theorem c56_122 {xs : Option (List Int32)} : ∀ (s0 : Int32) (s1 : Nat) (s2 : Nat) (M : JM) (ps1 : jok jE0 s1 0 = true) (ps2 : jok jE0 s2 5 = true), JG xs 6 56 (f56_122 xs s0 s1 s2 M) (fun x r => r = (none, (jE0, x))) (122, [], [.int s0, .ref s1, .ref s2], (jE0, M)) := by
    intro s0 s1 s2 M ps1 ps2
    unfold f56_122
    refine g_wV rfl (jc_v rfl rfl (jv_o ps2 rfl) rfl) (c59 s2 s1 s0 M ps2 ps1) (by decide) (fun M24 => ?_)
    refine g_pure (c' := (187, [], [], (jE0, M24))) 1 rfl ?_
    exact g_ret rfl rfl (fun _ h => h)
def f56_109 (xs : Option (List Int32)) (l0 : Nat) (l1 : Nat) (l2 : Int32) (M : JM) : Option JM := (if l2 = (7 : Int32) then (f56_122 xs (1 : Int32) l1 l0 M) else (f56_122 xs (0 : Int32) l1 l0 M))
set_option maxRecDepth 100000 in
theorem c56_109 {xs : Option (List Int32)} : ∀ (l0 : Nat) (l1 : Nat) (l2 : Int32) (M : JM) (pl0 : jok jE0 l0 5 = true) (pl1 : jok jE0 l1 0 = true), JG xs 6 56 (f56_109 xs l0 l1 l2 M) (fun x r => r = (none, (jE0, x))) (109, [(0, .ref l0), (1, .ref l1), (2, .int l2)], [], (jE0, M)) := by
    intro l0 l1 l2 M pl0 pl1
    unfold f56_109
    refine g_pure (c' := (114, [(0, .ref l0), (1, .ref l1), (2, .int l2)], [.int (7 : Int32), .int l2, .ref l1, .ref l0], (jE0, M))) 4 rfl ?_
    refine g_ic_ne (tgt := 121) rfl rfl (fun q23 => ?_) (fun q23 => ?_)
    · refine g_pure (c' := (122, [(0, .ref l0), (1, .ref l1), (2, .int l2)], [.int (1 : Int32), .ref l1, .ref l0], (jE0, M))) 2 rfl ?_
      refine g_weakk (lv := []) trivial [] rfl (by decide) [0, 1, 2] rfl (by decide) ?_
      exact (c56_122 (1 : Int32) l1 l0 M pl1 pl0)
    · refine g_pure (c' := (122, [(0, .ref l0), (1, .ref l1), (2, .int l2)], [.int (0 : Int32), .ref l1, .ref l0], (jE0, M))) 1 rfl ?_
      refine g_weakk (lv := []) trivial [] rfl (by decide) [0, 1, 2] rfl (by decide) ?_
      exact (c56_122 (0 : Int32) l1 l0 M pl1 pl0)
/-- CometKin$Text.readClause -/
def f56 (xs : Option (List Int32)) (l0 : Nat) (l1 : Nat) (M : JM) : Option JM := ((f60 xs l0 l1 M).bind fun z43 => (if z43.1 = (0 : Int32) then (f56_72 xs l0 l1 z43.1 z43.2) else (if z43.1 = (1 : Int32) then (f56_72 xs l0 l1 z43.1 z43.2) else (if z43.1 = (2 : Int32) then (f56_72 xs l0 l1 z43.1 z43.2) else (if z43.1 = (3 : Int32) then (f56_72 xs l0 l1 z43.1 z43.2) else (if z43.1 = (4 : Int32) then (f56_90 xs l0 l1 z43.1 z43.2) else (if z43.1 = (5 : Int32) then (f56_90 xs l0 l1 z43.1 z43.2) else (if z43.1 = (6 : Int32) then (f56_90 xs l0 l1 z43.1 z43.2) else (if z43.1 = (7 : Int32) then (f56_109 xs l0 l1 z43.1 z43.2) else (if z43.1 = (8 : Int32) then (f56_109 xs l0 l1 z43.1 z43.2) else (if z43.1 = (9 : Int32) then ((f64 l0 ((z43.2 l1 0) - (1 : Int32)) (-1 : Int32) z43.2).bind fun z33 => ((f64 l0 (99 : Int32) (-1 : Int32) z33.2).bind fun z32 => ((f43 (jpt l1 7) z33.1 z32.1 z32.2).bind fun M31 => (some M31)))) else (if z43.1 = (10 : Int32) then ((f64 l0 (6 : Int32) (-1 : Int32) z43.2).bind fun z38 => ((some (jup z38.2 l1 2 z38.1)).bind fun M37 => (some M37))) else (if z43.1 = (11 : Int32) then ((f2 l1 z43.2).bind fun M40 => (some M40)) else (if z43.1 = (12 : Int32) then ((some (jup z43.2 l1 1 (0 : Int32))).bind fun M42 => (some M42)) else (some z43.2)))))))))))))))
set_option maxRecDepth 100000 in
theorem c56 {xs : Option (List Int32)} (l0 : Nat) (l1 : Nat) (M : JM) (pl0 : jok jE0 l0 5 = true) (pl1 : jok jE0 l1 0 = true) : JG xs 6 56 (f56 xs l0 l1 M) (fun x r => r = (none, (jE0, x))) (0, [(0, .ref l0), (1, .ref l1)], [], (jE0, M)) := by
    unfold f56
    refine g_pure (c' := (2, [(0, .ref l0), (1, .ref l1)], [.ref l1, .ref l0], (jE0, M))) 2 rfl ?_
    refine g_wI rfl (jc_v rfl rfl (jv_o pl0 rfl) rfl) (c60 l0 l1 M pl0 pl1) (by decide) (fun v2 M1 qv2 => ?_)
    refine g_pure (c' := (7, [(2, .int v2), (0, .ref l0), (1, .ref l1)], [.int v2], (jE0, M1))) 2 rfl ?_
    refine g_eq (fun q3 => ?_) (fun q3 => ?_)
    · refine g_t1 q3 rfl rfl ?_
      refine g_weakk (lv := [(0, .ref l0), (1, .ref l1), (2, .int v2)]) ⟨rfl, rfl, rfl, trivial⟩ [0, 1, 2] rfl (by decide) [2, 0, 1] rfl (by decide) ?_
      exact (c56_72 l0 l1 v2 M1 pl0 pl1)
    refine g_eq (fun q9 => ?_) (fun q9 => ?_)
    · refine g_t1 q9 rfl rfl ?_
      refine g_weakk (lv := [(0, .ref l0), (1, .ref l1), (2, .int v2)]) ⟨rfl, rfl, rfl, trivial⟩ [0, 1, 2] rfl (by decide) [2, 0, 1] rfl (by decide) ?_
      exact (c56_72 l0 l1 v2 M1 pl0 pl1)
    refine g_eq (fun q10 => ?_) (fun q10 => ?_)
    · refine g_t1 q10 rfl rfl ?_
      refine g_weakk (lv := [(0, .ref l0), (1, .ref l1), (2, .int v2)]) ⟨rfl, rfl, rfl, trivial⟩ [0, 1, 2] rfl (by decide) [2, 0, 1] rfl (by decide) ?_
      exact (c56_72 l0 l1 v2 M1 pl0 pl1)
    refine g_eq (fun q11 => ?_) (fun q11 => ?_)
    · refine g_t1 q11 rfl rfl ?_
      refine g_weakk (lv := [(0, .ref l0), (1, .ref l1), (2, .int v2)]) ⟨rfl, rfl, rfl, trivial⟩ [0, 1, 2] rfl (by decide) [2, 0, 1] rfl (by decide) ?_
      exact (c56_72 l0 l1 v2 M1 pl0 pl1)
    refine g_eq (fun q12 => ?_) (fun q12 => ?_)
    · refine g_t1 q12 rfl rfl ?_
      refine g_weakk (lv := [(0, .ref l0), (1, .ref l1), (2, .int v2)]) ⟨rfl, rfl, rfl, trivial⟩ [0, 1, 2] rfl (by decide) [2, 0, 1] rfl (by decide) ?_
      exact (c56_90 l0 l1 v2 M1 pl0 pl1)
    refine g_eq (fun q20 => ?_) (fun q20 => ?_)
    · refine g_t1 q20 rfl rfl ?_
      refine g_weakk (lv := [(0, .ref l0), (1, .ref l1), (2, .int v2)]) ⟨rfl, rfl, rfl, trivial⟩ [0, 1, 2] rfl (by decide) [2, 0, 1] rfl (by decide) ?_
      exact (c56_90 l0 l1 v2 M1 pl0 pl1)
    refine g_eq (fun q21 => ?_) (fun q21 => ?_)
    · refine g_t1 q21 rfl rfl ?_
      refine g_weakk (lv := [(0, .ref l0), (1, .ref l1), (2, .int v2)]) ⟨rfl, rfl, rfl, trivial⟩ [0, 1, 2] rfl (by decide) [2, 0, 1] rfl (by decide) ?_
      exact (c56_90 l0 l1 v2 M1 pl0 pl1)
    refine g_eq (fun q22 => ?_) (fun q22 => ?_)
    · refine g_t1 q22 rfl rfl ?_
      refine g_weakk (lv := [(0, .ref l0), (1, .ref l1), (2, .int v2)]) ⟨rfl, rfl, rfl, trivial⟩ [0, 1, 2] rfl (by decide) [2, 0, 1] rfl (by decide) ?_
      exact (c56_109 l0 l1 v2 M1 pl0 pl1)
    refine g_eq (fun q25 => ?_) (fun q25 => ?_)
    · refine g_t1 q25 rfl rfl ?_
      refine g_weakk (lv := [(0, .ref l0), (1, .ref l1), (2, .int v2)]) ⟨rfl, rfl, rfl, trivial⟩ [0, 1, 2] rfl (by decide) [2, 0, 1] rfl (by decide) ?_
      exact (c56_109 l0 l1 v2 M1 pl0 pl1)
    refine g_eq (fun q26 => ?_) (fun q26 => ?_)
    · refine g_t1 q26 rfl rfl ?_
      refine g_pure (c' := (130, [(2, .int v2), (0, .ref l0), (1, .ref l1)], [.ref l1, .ref l0], (jE0, M1))) 2 rfl ?_
      refine g_gf (ci := 0) (k := 0) rfl rfl rfl pl1 ?_
      refine g_pure (c' := (136, [(2, .int v2), (0, .ref l0), (1, .ref l1)], [.int (-1 : Int32), .int ((M1 l1 0) - (1 : Int32)), .ref l0], (jE0, M1))) 3 rfl ?_
      refine g_wI rfl (jc_v rfl rfl (jv_o pl0 rfl) rfl) (c64 l0 ((M1 l1 0) - (1 : Int32)) (-1 : Int32) M1 pl0) (by decide) (fun v28 M27 qv28 => ?_)
      refine g_pure (c' := (141, [(3, .int v28), (2, .int v2), (0, .ref l0), (1, .ref l1)], [.ref l1], (jE0, M27))) 2 rfl ?_
      refine g_gp rfl rfl rfl pl1 (jp_ok (kd := 3) pl1 (by decide) (by decide) rfl rfl).1 ?_
      refine g_pure (c' := (149, [(3, .int v28), (2, .int v2), (0, .ref l0), (1, .ref l1)], [.int (-1 : Int32), .int (99 : Int32), .ref l0, .int v28, .ref (jpt l1 7)], (jE0, M27))) 4 rfl ?_
      refine g_wI rfl (jc_v rfl rfl (jv_o pl0 rfl) rfl) (c64 l0 (99 : Int32) (-1 : Int32) M27 pl0) (by decide) (fun v30 M29 qv30 => ?_)
      refine g_wV rfl (jc_v rfl rfl (jv_o (jk_ok (kd := 3) pl1 (by decide) (by decide) rfl rfl) rfl) rfl) (c43 (jpt l1 7) v28 v30 M29 (jk_ok (kd := 3) pl1 (by decide) (by decide) rfl rfl)) (by decide) (fun M31 => ?_)
      refine g_pure (c' := (187, [(3, .int v28), (2, .int v2), (0, .ref l0), (1, .ref l1)], [], (jE0, M31))) 1 rfl ?_
      exact g_ret rfl rfl (fun _ h => h)
    refine g_eq (fun q34 => ?_) (fun q34 => ?_)
    · refine g_t1 q34 rfl rfl ?_
      refine g_pure (c' := (163, [(2, .int v2), (0, .ref l0), (1, .ref l1)], [.int (-1 : Int32), .int (6 : Int32), .ref l0, .ref l1], (jE0, M1))) 4 rfl ?_
      refine g_wI rfl (jc_v rfl rfl (jv_o pl0 rfl) rfl) (c64 l0 (6 : Int32) (-1 : Int32) M1 pl0) (by decide) (fun v36 M35 qv36 => ?_)
      refine g_pf (ci := 0) (k := 2) rfl rfl rfl rfl pl1 (fun M37 => ?_)
      refine g_pure (c' := (187, [(2, .int v2), (0, .ref l0), (1, .ref l1)], [], (jE0, M37))) 1 rfl ?_
      exact g_ret rfl rfl (fun _ h => h)
    refine g_eq (fun q39 => ?_) (fun q39 => ?_)
    · refine g_t1 q39 rfl rfl ?_
      refine g_pure (c' := (173, [(2, .int v2), (0, .ref l0), (1, .ref l1)], [.ref l1], (jE0, M1))) 1 rfl ?_
      refine g_wV rfl (jc_v rfl rfl (jv_o pl1 rfl) rfl) (c2 l1 M1 pl1) (by decide) (fun M40 => ?_)
      refine g_pure (c' := (187, [(2, .int v2), (0, .ref l0), (1, .ref l1)], [], (jE0, M40))) 1 rfl ?_
      exact g_ret rfl rfl (fun _ h => h)
    refine g_eq (fun q41 => ?_) (fun q41 => ?_)
    · refine g_t1 q41 rfl rfl ?_
      refine g_pure (c' := (181, [(2, .int v2), (0, .ref l0), (1, .ref l1)], [.int (0 : Int32), .ref l1], (jE0, M1))) 2 rfl ?_
      refine g_pf (ci := 0) (k := 1) rfl rfl rfl rfl pl1 (fun M42 => ?_)
      refine g_pure (c' := (187, [(2, .int v2), (0, .ref l0), (1, .ref l1)], [], (jE0, M42))) 1 rfl ?_
      exact g_ret rfl rfl (fun _ h => h)
    refine g_t0 (tgt := 187) rfl (fun v h1 h2 => ?_) rfl ?_
    · rcases (show v = 0 ∨ v = 1 ∨ v = 2 ∨ v = 3 ∨ v = 4 ∨ v = 5 ∨ v = 6 ∨ v = 7 ∨ v = 8 ∨ v = 9 ∨ v = 10 ∨ v = 11 ∨ v = 12 by omega) with rfl | rfl | rfl | rfl | rfl | rfl | rfl | rfl | rfl | rfl | rfl | rfl | rfl
      · exact q3
      · exact q9
      · exact q10
      · exact q11
      · exact q12
      · exact q20
      · exact q21
      · exact q22
      · exact q25
      · exact q26
      · exact q34
      · exact q39
      · exact q41
    exact g_ret rfl rfl (fun _ h => h)
def f55_50  (l0 : Nat) (M : JM) : Option (Int32 × JM) := ((some (jup M l0 3 (M l0 2))).bind fun M7 => (some ((0 : Int32), M7)))
set_option maxRecDepth 100000 in
theorem c55_50 {xs : Option (List Int32)} : ∀ (l0 : Nat) (M : JM) (pl0 : jok jE0 l0 5 = true), JG xs 2 55 (f55_50 l0 M) (fun x r => r = (some (.int x.1), (jE0, x.2))) (50, [(0, .ref l0)], [], (jE0, M)) := by
    intro l0 M pl0
    unfold f55_50
    refine g_pure (c' := (52, [(0, .ref l0)], [.ref l0, .ref l0], (jE0, M))) 2 rfl ?_
    refine g_gf (ci := 5) (k := 2) rfl rfl rfl pl0 ?_
    refine g_pf (ci := 5) (k := 3) rfl rfl rfl rfl pl0 (fun M7 => ?_)
    refine g_pure (c' := (59, [(0, .ref l0)], [.int (0 : Int32)], (jE0, M7))) 1 rfl ?_
    exact g_ret rfl rfl (fun _ h => h)
/-- CometKin$Text.readSeparator -/
def f55  (l0 : Nat) (M : JM) : Option (Int32 × JM) := ((f65 l0 M).bind fun M1 => (if (M1 l0 3) = (-1 : Int32) then (if (M1 l0 2) < (M1 l0 1) then ((f42 M1 (jpt l0 0) (M1 l0 2)).bind fun v4 => (if v4 = (59 : Int32) then (if (M1 l0 4) = (14 : Int32) then (f55_50 l0 M1) else ((some (jup M1 l0 2 ((M1 l0 2) + (1 : Int32)))).bind fun M8 => (some ((1 : Int32), M8)))) else (f55_50 l0 M1))) else (some ((0 : Int32), M1))) else (some ((0 : Int32), M1))))
set_option maxRecDepth 100000 in
theorem c55 {xs : Option (List Int32)} (l0 : Nat) (M : JM) (pl0 : jok jE0 l0 5 = true) : JG xs 2 55 (f55 l0 M) (fun x r => r = (some (.int x.1), (jE0, x.2))) (0, [(0, .ref l0)], [], (jE0, M)) := by
    unfold f55
    refine g_pure (c' := (1, [(0, .ref l0)], [.ref l0], (jE0, M))) 1 rfl ?_
    refine g_wV rfl (jc_v rfl rfl (jv_o pl0 rfl) rfl) (c65 l0 M pl0) (by decide) (fun M1 => ?_)
    refine g_pure (c' := (5, [(0, .ref l0)], [.ref l0], (jE0, M1))) 1 rfl ?_
    refine g_gf (ci := 5) (k := 3) rfl rfl rfl pl0 ?_
    refine g_pure (c' := (9, [(0, .ref l0)], [.int (-1 : Int32), .int (M1 l0 3)], (jE0, M1))) 1 rfl ?_
    refine g_ic_ne (tgt := 23) rfl rfl (fun q2 => ?_) (fun q2 => ?_)
    · refine g_pure (c' := (13, [(0, .ref l0)], [.ref l0], (jE0, M1))) 1 rfl ?_
      refine g_gf (ci := 5) (k := 2) rfl rfl rfl pl0 ?_
      refine g_pure (c' := (17, [(0, .ref l0)], [.ref l0, .int (M1 l0 2)], (jE0, M1))) 1 rfl ?_
      refine g_gf (ci := 5) (k := 1) rfl rfl rfl pl0 ?_
      refine g_ic_lt (tgt := 25) rfl rfl (fun q3 => ?_) (fun q3 => ?_)
      · refine g_pure (c' := (26, [(0, .ref l0)], [.ref l0], (jE0, M1))) 1 rfl ?_
        refine g_gp rfl rfl rfl pl0 (jp_ok (kd := 3) pl0 (by decide) (by decide) rfl rfl).1 ?_
        refine g_pure (c' := (30, [(0, .ref l0)], [.ref l0, .ref (jpt l0 0)], (jE0, M1))) 1 rfl ?_
        refine g_gf (ci := 5) (k := 2) rfl rfl rfl pl0 ?_
        refine g_cI rfl (jc_v rfl rfl (jv_o (jk_ok (kd := 3) pl0 (by decide) (by decide) rfl rfl) rfl) rfl) (c42 (jpt l0 0) (M1 l0 2) (jk_ok (kd := 3) pl0 (by decide) (by decide) rfl rfl)) (by decide) (fun v4 qv4 => ?_)
        refine g_pure (c' := (38, [(0, .ref l0)], [.int (59 : Int32), .int v4], (jE0, M1))) 1 rfl ?_
        refine g_ic_ne (tgt := 50) rfl rfl (fun q5 => ?_) (fun q5 => ?_)
        · refine g_pure (c' := (42, [(0, .ref l0)], [.ref l0], (jE0, M1))) 1 rfl ?_
          refine g_gf (ci := 5) (k := 4) rfl rfl rfl pl0 ?_
          refine g_pure (c' := (47, [(0, .ref l0)], [.int (14 : Int32), .int (M1 l0 4)], (jE0, M1))) 1 rfl ?_
          refine g_ic_ne (tgt := 60) rfl rfl (fun q6 => ?_) (fun q6 => ?_)
          · exact (c55_50 l0 M1 pl0)
          · refine g_pure (c' := (62, [(0, .ref l0)], [.ref l0, .ref l0], (jE0, M1))) 2 rfl ?_
            refine g_gf (ci := 5) (k := 2) rfl rfl rfl pl0 ?_
            refine g_pure (c' := (67, [(0, .ref l0)], [.int ((M1 l0 2) + (1 : Int32)), .ref l0], (jE0, M1))) 2 rfl ?_
            refine g_pf (ci := 5) (k := 2) rfl rfl rfl rfl pl0 (fun M8 => ?_)
            refine g_pure (c' := (71, [(0, .ref l0)], [.int (1 : Int32)], (jE0, M8))) 1 rfl ?_
            exact g_ret rfl rfl (fun _ h => h)
        · exact (c55_50 l0 M1 pl0)
      · refine g_pure (c' := (24, [(0, .ref l0)], [.int (0 : Int32)], (jE0, M1))) 1 rfl ?_
        exact g_ret rfl rfl (fun _ h => h)
    · refine g_pure (c' := (24, [(0, .ref l0)], [.int (0 : Int32)], (jE0, M1))) 1 rfl ?_
      exact g_ret rfl rfl (fun _ h => h)
/-- Integer.compare -/
def f206  (l0 : Int32) (l1 : Int32) : Option Int32 := (if l0 < l1 then (some (-1 : Int32)) else (if l0 = l1 then (some (0 : Int32)) else (some (1 : Int32))))
set_option maxRecDepth 100000 in
theorem c206 {xs : Option (List Int32)} {M : JM} (l0 : Int32) (l1 : Int32) : JG xs 0 206 (f206 l0 l1) (fun x r => r = (some (.int x), (jE0, M))) (0, [(0, .int l0), (1, .int l1)], [], (jE0, M)) := by
    unfold f206
    refine g_pure (c' := (2, [(0, .int l0), (1, .int l1)], [.int l1, .int l0], (jE0, M))) 2 rfl ?_
    refine g_ic_ge (tgt := 9) rfl rfl (fun q1 => ?_) (fun q1 => ?_)
    · refine g_pure (c' := (19, [(0, .int l0), (1, .int l1)], [.int (-1 : Int32)], (jE0, M))) 2 rfl ?_
      exact g_ret rfl rfl (fun _ h => h)
    · refine g_pure (c' := (11, [(0, .int l0), (1, .int l1)], [.int l1, .int l0], (jE0, M))) 2 rfl ?_
      refine g_ic_ne (tgt := 18) rfl rfl (fun q2 => ?_) (fun q2 => ?_)
      · refine g_pure (c' := (19, [(0, .int l0), (1, .int l1)], [.int (0 : Int32)], (jE0, M))) 2 rfl ?_
        exact g_ret rfl rfl (fun _ h => h)
      · refine g_pure (c' := (19, [(0, .int l0), (1, .int l1)], [.int (1 : Int32)], (jE0, M))) 1 rfl ?_
        exact g_ret rfl rfl (fun _ h => h)
/-- CometKin$Country.isAhead -/
def f12 (M : JM) (l0 : Nat) (l1 : Int32) (l2 : Int32) : Option Int32 := ((f42 M (jpt l0 9) l1).bind fun v1 => ((f42 M (jpt l0 9) l2).bind fun v2 => ((f206 v1 v2).bind fun v3 => (if v3 < (0 : Int32) then (some (1 : Int32)) else (if v3 = (0 : Int32) then (if l1 < l2 then (some (1 : Int32)) else (some (0 : Int32))) else (some (0 : Int32)))))))
set_option maxRecDepth 100000 in
theorem c12 {xs : Option (List Int32)} {M : JM} (l0 : Nat) (l1 : Int32) (l2 : Int32) (pl0 : jok jE0 l0 0 = true) : JG xs 1 12 (f12 M l0 l1 l2) (fun x r => r = (some (.int x), (jE0, M))) (0, [(0, .ref l0), (1, .int l1), (2, .int l2)], [], (jE0, M)) := by
    unfold f12
    refine g_pure (c' := (1, [(0, .ref l0), (1, .int l1), (2, .int l2)], [.ref l0], (jE0, M))) 1 rfl ?_
    refine g_gp rfl rfl rfl pl0 (jp_ok (kd := 3) pl0 (by decide) (by decide) rfl rfl).1 ?_
    refine g_pure (c' := (5, [(0, .ref l0), (1, .int l1), (2, .int l2)], [.int l1, .ref (jpt l0 9)], (jE0, M))) 1 rfl ?_
    refine g_cI rfl (jc_v rfl rfl (jv_o (jk_ok (kd := 3) pl0 (by decide) (by decide) rfl rfl) rfl) rfl) (c42 (jpt l0 9) l1 (jk_ok (kd := 3) pl0 (by decide) (by decide) rfl rfl)) (by decide) (fun v1 qv1 => ?_)
    refine g_pure (c' := (9, [(0, .ref l0), (1, .int l1), (2, .int l2)], [.ref l0, .int v1], (jE0, M))) 1 rfl ?_
    refine g_gp rfl rfl rfl pl0 (jp_ok (kd := 3) pl0 (by decide) (by decide) rfl rfl).1 ?_
    refine g_pure (c' := (13, [(0, .ref l0), (1, .int l1), (2, .int l2)], [.int l2, .ref (jpt l0 9), .int v1], (jE0, M))) 1 rfl ?_
    refine g_cI rfl (jc_v rfl rfl (jv_o (jk_ok (kd := 3) pl0 (by decide) (by decide) rfl rfl) rfl) rfl) (c42 (jpt l0 9) l2 (jk_ok (kd := 3) pl0 (by decide) (by decide) rfl rfl)) (by decide) (fun v2 qv2 => ?_)
    refine g_cI rfl (jc_s rfl rfl) (c206 v1 v2) (by decide) (fun v3 qv3 => ?_)
    refine g_pure (c' := (21, [(3, .int v3), (0, .ref l0), (1, .int l1), (2, .int l2)], [.int v3], (jE0, M))) 2 rfl ?_
    refine g_if_lt (tgt := 33) rfl rfl (fun q4 => ?_) (fun q4 => ?_)
    · refine g_pure (c' := (38, [(3, .int v3), (0, .ref l0), (1, .int l1), (2, .int l2)], [.int (1 : Int32)], (jE0, M))) 2 rfl ?_
      exact g_ret rfl rfl (fun _ h => h)
    · refine g_pure (c' := (25, [(3, .int v3), (0, .ref l0), (1, .int l1), (2, .int l2)], [.int v3], (jE0, M))) 1 rfl ?_
      refine g_if_ne (tgt := 37) rfl rfl (fun q5 => ?_) (fun q5 => ?_)
      · refine g_pure (c' := (30, [(3, .int v3), (0, .ref l0), (1, .int l1), (2, .int l2)], [.int l2, .int l1], (jE0, M))) 2 rfl ?_
        refine g_ic_ge (tgt := 37) rfl rfl (fun q6 => ?_) (fun q6 => ?_)
        · refine g_pure (c' := (38, [(3, .int v3), (0, .ref l0), (1, .int l1), (2, .int l2)], [.int (1 : Int32)], (jE0, M))) 2 rfl ?_
          exact g_ret rfl rfl (fun _ h => h)
        · refine g_pure (c' := (38, [(3, .int v3), (0, .ref l0), (1, .int l1), (2, .int l2)], [.int (0 : Int32)], (jE0, M))) 1 rfl ?_
          exact g_ret rfl rfl (fun _ h => h)
      · refine g_pure (c' := (38, [(3, .int v3), (0, .ref l0), (1, .int l1), (2, .int l2)], [.int (0 : Int32)], (jE0, M))) 1 rfl ?_
        exact g_ret rfl rfl (fun _ h => h)
def f11_49 (M : JM) (h4 : Nat → Int32 → Int32 → Int32 → Option Int32) (l0 : Nat) (l1 : Int32) (l2 : Int32) (l3 : Int32) : Option Int32 := (h4 l0 l1 l2 (l3 + (1 : Int32)))
set_option maxRecDepth 100000 in
theorem c11_49 {xs : Option (List Int32)} {M : JM} (h4 : Nat → Int32 → Int32 → Int32 → Option Int32) (H4 : ∀ (l0 : Nat) (l1 : Int32) (l2 : Int32) (l3 : Int32) (pl0 : jok jE0 l0 0 = true), JG xs 2 11 (h4 l0 l1 l2 l3) (fun x r => r = (some (.int x), (jE0, M))) (4, [(0, .ref l0), (1, .int l1), (2, .int l2), (3, .int l3)], [], (jE0, M))) : ∀ (l0 : Nat) (l1 : Int32) (l2 : Int32) (l3 : Int32) (pl0 : jok jE0 l0 0 = true), JG xs 2 11 (f11_49 M h4 l0 l1 l2 l3) (fun x r => r = (some (.int x), (jE0, M))) (49, [(0, .ref l0), (1, .int l1), (2, .int l2), (3, .int l3)], [], (jE0, M)) := by
    intro l0 l1 l2 l3 pl0
    unfold f11_49
    refine g_pure (c' := (4, [(3, .int (l3 + (1 : Int32))), (0, .ref l0), (1, .int l1), (2, .int l2)], [], (jE0, M))) 2 rfl ?_
    refine g_weakk (lv := [(0, .ref l0), (1, .int l1), (2, .int l2), (3, .int (l3 + (1 : Int32)))]) ⟨rfl, rfl, rfl, rfl, trivial⟩ [0, 1, 2, 3] rfl (by decide) [3, 0, 1, 2] rfl (by decide) ?_
    exact (H4 l0 l1 l2 (l3 + (1 : Int32)) pl0)
def f11_47 (M : JM) (h4 : Nat → Int32 → Int32 → Int32 → Option Int32) (l0 : Nat) (l1 : Int32) (l3 : Int32) : Option Int32 := (f11_49 M h4 l0 l1 l3 l3)
set_option maxRecDepth 100000 in
theorem c11_47 {xs : Option (List Int32)} {M : JM} (h4 : Nat → Int32 → Int32 → Int32 → Option Int32) (H4 : ∀ (l0 : Nat) (l1 : Int32) (l2 : Int32) (l3 : Int32) (pl0 : jok jE0 l0 0 = true), JG xs 2 11 (h4 l0 l1 l2 l3) (fun x r => r = (some (.int x), (jE0, M))) (4, [(0, .ref l0), (1, .int l1), (2, .int l2), (3, .int l3)], [], (jE0, M))) : ∀ (l0 : Nat) (l1 : Int32) (l3 : Int32) (pl0 : jok jE0 l0 0 = true), JG xs 2 11 (f11_47 M h4 l0 l1 l3) (fun x r => r = (some (.int x), (jE0, M))) (47, [(0, .ref l0), (1, .int l1), (3, .int l3)], [], (jE0, M)) := by
    intro l0 l1 l3 pl0
    unfold f11_47
    refine g_pure (c' := (49, [(2, .int l3), (0, .ref l0), (1, .int l1), (3, .int l3)], [], (jE0, M))) 2 rfl ?_
    refine g_weakk (lv := [(0, .ref l0), (1, .int l1), (2, .int l3), (3, .int l3)]) ⟨rfl, rfl, rfl, rfl, trivial⟩ [0, 1, 2, 3] rfl (by decide) [2, 0, 1, 3] rfl (by decide) ?_
    exact (c11_49 h4 H4 l0 l1 l3 l3 pl0)
def f11_4 (M : JM) : Nat → Nat → Int32 → Int32 → Int32 → Option Int32
  | 0, _, _, _, _ => none
  | n + 1, l0, l1, l2, l3 => (if l3 < (M l0 1) then ((f42 M (jpt l0 8) l3).bind fun v2 => (if v2 = (3 : Int32) then (f11_49 M (f11_4 M n) l0 l1 l2 l3) else ((f12 M l0 l3 l1).bind fun v4 => (if v4 = (0 : Int32) then (f11_49 M (f11_4 M n) l0 l1 l2 l3) else (if l2 = (-1 : Int32) then (f11_47 M (f11_4 M n) l0 l1 l3) else ((f12 M l0 l2 l3).bind fun v7 => (if v7 = (0 : Int32) then (f11_49 M (f11_4 M n) l0 l1 l2 l3) else (f11_47 M (f11_4 M n) l0 l1 l3)))))))) else (some l2))
set_option maxRecDepth 100000 in
theorem c11_4 {xs : Option (List Int32)} {M : JM} : ∀ (n : Nat) (l0 : Nat) (l1 : Int32) (l2 : Int32) (l3 : Int32) (pl0 : jok jE0 l0 0 = true), JG xs 2 11 (f11_4 M n l0 l1 l2 l3) (fun x r => r = (some (.int x), (jE0, M))) (4, [(0, .ref l0), (1, .int l1), (2, .int l2), (3, .int l3)], [], (jE0, M))
  | 0, _, _, _, _, _ => by rw [f11_4]; exact g_none
  | n + 1, l0, l1, l2, l3, pl0 => by
    rw [f11_4]
    refine g_pure (c' := (6, [(0, .ref l0), (1, .int l1), (2, .int l2), (3, .int l3)], [.ref l0, .int l3], (jE0, M))) 2 rfl ?_
    refine g_gf (ci := 0) (k := 1) rfl rfl rfl pl0 ?_
    refine g_ic_ge (tgt := 55) rfl rfl (fun q1 => ?_) (fun q1 => ?_)
    · refine g_pure (c' := (13, [(0, .ref l0), (1, .int l1), (2, .int l2), (3, .int l3)], [.ref l0], (jE0, M))) 1 rfl ?_
      refine g_gp rfl rfl rfl pl0 (jp_ok (kd := 3) pl0 (by decide) (by decide) rfl rfl).1 ?_
      refine g_pure (c' := (17, [(0, .ref l0), (1, .int l1), (2, .int l2), (3, .int l3)], [.int l3, .ref (jpt l0 8)], (jE0, M))) 1 rfl ?_
      refine g_cI rfl (jc_v rfl rfl (jv_o (jk_ok (kd := 3) pl0 (by decide) (by decide) rfl rfl) rfl) rfl) (c42 (jpt l0 8) l3 (jk_ok (kd := 3) pl0 (by decide) (by decide) rfl rfl)) (by decide) (fun v2 qv2 => ?_)
      refine g_pure (c' := (21, [(0, .ref l0), (1, .int l1), (2, .int l2), (3, .int l3)], [.int (3 : Int32), .int v2], (jE0, M))) 1 rfl ?_
      refine g_ic_eq (tgt := 49) rfl rfl (fun q3 => ?_) (fun q3 => ?_)
      · exact (c11_49 (f11_4 M n) (c11_4 n) l0 l1 l2 l3 pl0)
      · refine g_pure (c' := (27, [(0, .ref l0), (1, .int l1), (2, .int l2), (3, .int l3)], [.int l1, .int l3, .ref l0], (jE0, M))) 3 rfl ?_
        refine g_cI rfl (jc_v rfl rfl (jv_o pl0 rfl) rfl) (c12 l0 l3 l1 pl0) (by decide) (fun v4 qv4 => ?_)
        refine g_if_eq (tgt := 49) rfl rfl (fun q5 => ?_) (fun q5 => ?_)
        · exact (c11_49 (f11_4 M n) (c11_4 n) l0 l1 l2 l3 pl0)
        · refine g_pure (c' := (35, [(0, .ref l0), (1, .int l1), (2, .int l2), (3, .int l3)], [.int (-1 : Int32), .int l2], (jE0, M))) 2 rfl ?_
          refine g_ic_eq (tgt := 47) rfl rfl (fun q6 => ?_) (fun q6 => ?_)
          · refine g_weakk (lv := [(0, .ref l0), (1, .int l1), (3, .int l3)]) ⟨rfl, rfl, rfl, trivial⟩ [0, 1, 3] rfl (by decide) [0, 1, 2, 3] rfl (by decide) ?_
            exact (c11_47 (f11_4 M n) (c11_4 n) l0 l1 l3 pl0)
          · refine g_pure (c' := (41, [(0, .ref l0), (1, .int l1), (2, .int l2), (3, .int l3)], [.int l3, .int l2, .ref l0], (jE0, M))) 3 rfl ?_
            refine g_cI rfl (jc_v rfl rfl (jv_o pl0 rfl) rfl) (c12 l0 l2 l3 pl0) (by decide) (fun v7 qv7 => ?_)
            refine g_if_eq (tgt := 49) rfl rfl (fun q8 => ?_) (fun q8 => ?_)
            · exact (c11_49 (f11_4 M n) (c11_4 n) l0 l1 l2 l3 pl0)
            · refine g_weakk (lv := [(0, .ref l0), (1, .int l1), (3, .int l3)]) ⟨rfl, rfl, rfl, trivial⟩ [0, 1, 3] rfl (by decide) [0, 1, 2, 3] rfl (by decide) ?_
              exact (c11_47 (f11_4 M n) (c11_4 n) l0 l1 l3 pl0)
    · refine g_pure (c' := (56, [(0, .ref l0), (1, .int l1), (2, .int l2), (3, .int l3)], [.int l2], (jE0, M))) 1 rfl ?_
      exact g_ret rfl rfl (fun _ h => h)
/-- CometKin$Country.latestAheadOf -/
def f11 (M : JM) (l0 : Nat) (l1 : Int32) : Option Int32 := (f11_4 M 1000 l0 l1 (-1 : Int32) (0 : Int32))
set_option maxRecDepth 100000 in
theorem c11 {xs : Option (List Int32)} {M : JM} (l0 : Nat) (l1 : Int32) (pl0 : jok jE0 l0 0 = true) : JG xs 2 11 (f11 M l0 l1) (fun x r => r = (some (.int x), (jE0, M))) (0, [(0, .ref l0), (1, .int l1)], [], (jE0, M)) := by
    unfold f11
    refine g_pure (c' := (4, [(3, .int (0 : Int32)), (2, .int (-1 : Int32)), (0, .ref l0), (1, .int l1)], [], (jE0, M))) 4 rfl ?_
    refine g_weakk (lv := [(0, .ref l0), (1, .int l1), (2, .int (-1 : Int32)), (3, .int (0 : Int32))]) ⟨rfl, rfl, rfl, rfl, trivial⟩ [0, 1, 2, 3] rfl (by decide) [3, 2, 0, 1] rfl (by decide) ?_
    exact (c11_4 1000 l0 l1 (-1 : Int32) (0 : Int32) pl0)
def f10_44 (h7 : Nat → Int32 → JM → Option JM) (l0 : Nat) (l1 : Int32) (M : JM) : Option JM := (h7 l0 (l1 + (1 : Int32)) M)
set_option maxRecDepth 100000 in
theorem c10_44 {xs : Option (List Int32)} (h7 : Nat → Int32 → JM → Option JM) (H7 : ∀ (l0 : Nat) (l1 : Int32) (M : JM) (pl0 : jok jE0 l0 0 = true), JG xs 3 10 (h7 l0 l1 M) (fun x r => r = (none, (jE0, x))) (7, [(0, .ref l0), (1, .int l1)], [], (jE0, M))) : ∀ (l0 : Nat) (l1 : Int32) (M : JM) (pl0 : jok jE0 l0 0 = true), JG xs 3 10 (f10_44 h7 l0 l1 M) (fun x r => r = (none, (jE0, x))) (44, [(0, .ref l0), (1, .int l1)], [], (jE0, M)) := by
    intro l0 l1 M pl0
    unfold f10_44
    refine g_pure (c' := (7, [(1, .int (l1 + (1 : Int32))), (0, .ref l0)], [], (jE0, M))) 2 rfl ?_
    refine g_weakk (lv := [(0, .ref l0), (1, .int (l1 + (1 : Int32)))]) ⟨rfl, rfl, trivial⟩ [0, 1] rfl (by decide) [1, 0] rfl (by decide) ?_
    exact (H7 l0 (l1 + (1 : Int32)) M pl0)
def f10_7  : Nat → Nat → Int32 → JM → Option JM
  | 0, _, _, _ => none
  | n + 1, l0, l1, M => (if l1 < (M l0 1) then ((f42 M (jpt l0 8) l1).bind fun v3 => (if v3 = (3 : Int32) then ((f11 M l0 l1).bind fun v5 => ((f100 v5).bind fun v6 => ((some (jup M l0 11 ((M l0 11) ||| v6))).bind fun M7 => (f10_44 (f10_7 n) l0 l1 M7)))) else (f10_44 (f10_7 n) l0 l1 M))) else (some M))
set_option maxRecDepth 100000 in
theorem c10_7 {xs : Option (List Int32)} : ∀ (n : Nat) (l0 : Nat) (l1 : Int32) (M : JM) (pl0 : jok jE0 l0 0 = true), JG xs 3 10 (f10_7 n l0 l1 M) (fun x r => r = (none, (jE0, x))) (7, [(0, .ref l0), (1, .int l1)], [], (jE0, M))
  | 0, _, _, _, _ => by rw [f10_7]; exact g_none
  | n + 1, l0, l1, M, pl0 => by
    rw [f10_7]
    refine g_pure (c' := (9, [(0, .ref l0), (1, .int l1)], [.ref l0, .int l1], (jE0, M))) 2 rfl ?_
    refine g_gf (ci := 0) (k := 1) rfl rfl rfl pl0 ?_
    refine g_ic_ge (tgt := 50) rfl rfl (fun q2 => ?_) (fun q2 => ?_)
    · refine g_pure (c' := (16, [(0, .ref l0), (1, .int l1)], [.ref l0], (jE0, M))) 1 rfl ?_
      refine g_gp rfl rfl rfl pl0 (jp_ok (kd := 3) pl0 (by decide) (by decide) rfl rfl).1 ?_
      refine g_pure (c' := (20, [(0, .ref l0), (1, .int l1)], [.int l1, .ref (jpt l0 8)], (jE0, M))) 1 rfl ?_
      refine g_cI rfl (jc_v rfl rfl (jv_o (jk_ok (kd := 3) pl0 (by decide) (by decide) rfl rfl) rfl) rfl) (c42 (jpt l0 8) l1 (jk_ok (kd := 3) pl0 (by decide) (by decide) rfl rfl)) (by decide) (fun v3 qv3 => ?_)
      refine g_pure (c' := (24, [(0, .ref l0), (1, .int l1)], [.int (3 : Int32), .int v3], (jE0, M))) 1 rfl ?_
      refine g_ic_ne (tgt := 44) rfl rfl (fun q4 => ?_) (fun q4 => ?_)
      · refine g_pure (c' := (29, [(0, .ref l0), (1, .int l1)], [.ref l0, .ref l0], (jE0, M))) 2 rfl ?_
        refine g_gf (ci := 0) (k := 11) rfl rfl rfl pl0 ?_
        refine g_pure (c' := (34, [(0, .ref l0), (1, .int l1)], [.int l1, .ref l0, .int (M l0 11), .ref l0], (jE0, M))) 2 rfl ?_
        refine g_cI rfl (jc_v rfl rfl (jv_o pl0 rfl) rfl) (c11 l0 l1 pl0) (by decide) (fun v5 qv5 => ?_)
        refine g_cI rfl (jc_s rfl rfl) (c100 v5) (by decide) (fun v6 qv6 => ?_)
        refine g_pure (c' := (41, [(0, .ref l0), (1, .int l1)], [.int ((M l0 11) ||| v6), .ref l0], (jE0, M))) 1 rfl ?_
        refine g_pf (ci := 0) (k := 11) rfl rfl rfl rfl pl0 (fun M7 => ?_)
        exact (c10_44 (f10_7 n) (c10_7 n) l0 l1 M7 pl0)
      · exact (c10_44 (f10_7 n) (c10_7 n) l0 l1 M pl0)
    · exact g_ret rfl rfl (fun _ h => h)
/-- CometKin$Country.findCancelled -/
def f10  (l0 : Nat) (M : JM) : Option JM := ((some (jup M l0 11 (0 : Int32))).bind fun M1 => (f10_7 1000 l0 (0 : Int32) M1))
set_option maxRecDepth 100000 in
theorem c10 {xs : Option (List Int32)} (l0 : Nat) (M : JM) (pl0 : jok jE0 l0 0 = true) : JG xs 3 10 (f10 l0 M) (fun x r => r = (none, (jE0, x))) (0, [(0, .ref l0)], [], (jE0, M)) := by
    unfold f10
    refine g_pure (c' := (2, [(0, .ref l0)], [.int (0 : Int32), .ref l0], (jE0, M))) 2 rfl ?_
    refine g_pf (ci := 0) (k := 11) rfl rfl rfl rfl pl0 (fun M1 => ?_)
    refine g_pure (c' := (7, [(1, .int (0 : Int32)), (0, .ref l0)], [], (jE0, M1))) 2 rfl ?_
    refine g_weakk (lv := [(0, .ref l0), (1, .int (0 : Int32))]) ⟨rfl, rfl, trivial⟩ [0, 1] rfl (by decide) [1, 0] rfl (by decide) ?_
    exact (c10_7 1000 l0 (0 : Int32) M1 pl0)
/-- CometKin.has -/
def f101  (l0 : Int32) (l1 : Int32) : Option Int32 := (if l1 < (0 : Int32) then (some (0 : Int32)) else (if l1 < (31 : Int32) then (if ((l0 >>> (l1 &&& (31 : Int32))) &&& (1 : Int32)) = (0 : Int32) then (some (0 : Int32)) else (some (1 : Int32))) else (some (0 : Int32))))
set_option maxRecDepth 100000 in
theorem c101 {xs : Option (List Int32)} {M : JM} (l0 : Int32) (l1 : Int32) : JG xs 0 101 (f101 l0 l1) (fun x r => r = (some (.int x), (jE0, M))) (0, [(0, .int l0), (1, .int l1)], [], (jE0, M)) := by
    unfold f101
    refine g_pure (c' := (1, [(0, .int l0), (1, .int l1)], [.int l1], (jE0, M))) 1 rfl ?_
    refine g_if_lt (tgt := 22) rfl rfl (fun q1 => ?_) (fun q1 => ?_)
    · refine g_pure (c' := (23, [(0, .int l0), (1, .int l1)], [.int (0 : Int32)], (jE0, M))) 1 rfl ?_
      exact g_ret rfl rfl (fun _ h => h)
    · refine g_pure (c' := (7, [(0, .int l0), (1, .int l1)], [.int (31 : Int32), .int l1], (jE0, M))) 2 rfl ?_
      refine g_ic_ge (tgt := 22) rfl rfl (fun q2 => ?_) (fun q2 => ?_)
      · refine g_pure (c' := (15, [(0, .int l0), (1, .int l1)], [.int ((l0 >>> (l1 &&& (31 : Int32))) &&& (1 : Int32))], (jE0, M))) 5 rfl ?_
        refine g_if_eq (tgt := 22) rfl rfl (fun q3 => ?_) (fun q3 => ?_)
        · refine g_pure (c' := (23, [(0, .int l0), (1, .int l1)], [.int (0 : Int32)], (jE0, M))) 1 rfl ?_
          exact g_ret rfl rfl (fun _ h => h)
        · refine g_pure (c' := (23, [(0, .int l0), (1, .int l1)], [.int (1 : Int32)], (jE0, M))) 2 rfl ?_
          exact g_ret rfl rfl (fun _ h => h)
      · refine g_pure (c' := (23, [(0, .int l0), (1, .int l1)], [.int (0 : Int32)], (jE0, M))) 1 rfl ?_
        exact g_ret rfl rfl (fun _ h => h)
/-- CometKin.sightOf -/
def f104  (l0 : Int32) : Option Int32 := (if l0 = (0 : Int32) then (some (3 : Int32)) else (if l0 = (1 : Int32) then (some (2 : Int32)) else (if l0 = (2 : Int32) then (some (1 : Int32)) else (some (0 : Int32)))))
set_option maxRecDepth 100000 in
theorem c104 {xs : Option (List Int32)} {M : JM} (l0 : Int32) : JG xs 0 104 (f104 l0) (fun x r => r = (some (.int x), (jE0, M))) (0, [(0, .int l0)], [], (jE0, M)) := by
    unfold f104
    refine g_pure (c' := (1, [(0, .int l0)], [.int l0], (jE0, M))) 1 rfl ?_
    refine g_eq (fun q1 => ?_) (fun q1 => ?_)
    · refine g_t1 q1 rfl rfl ?_
      refine g_pure (c' := (29, [(0, .int l0)], [.int (3 : Int32)], (jE0, M))) 1 rfl ?_
      exact g_ret rfl rfl (fun _ h => h)
    refine g_eq (fun q2 => ?_) (fun q2 => ?_)
    · refine g_t1 q2 rfl rfl ?_
      refine g_pure (c' := (31, [(0, .int l0)], [.int (2 : Int32)], (jE0, M))) 1 rfl ?_
      exact g_ret rfl rfl (fun _ h => h)
    refine g_eq (fun q3 => ?_) (fun q3 => ?_)
    · refine g_t1 q3 rfl rfl ?_
      refine g_pure (c' := (33, [(0, .int l0)], [.int (1 : Int32)], (jE0, M))) 1 rfl ?_
      exact g_ret rfl rfl (fun _ h => h)
    refine g_t0 (tgt := 34) rfl (fun v h1 h2 => ?_) rfl ?_
    · rcases (show v = 0 ∨ v = 1 ∨ v = 2 by omega) with rfl | rfl | rfl
      · exact q1
      · exact q2
      · exact q3
    refine g_pure (c' := (35, [(0, .int l0)], [.int (0 : Int32)], (jE0, M))) 1 rfl ?_
    exact g_ret rfl rfl (fun _ h => h)
def f13_89 (h12 : Nat → Int32 → JM → Option JM) (l0 : Nat) (l1 : Int32) (s0 : Int32) (s1 : Int32) (s2 : Nat) (M : JM) : Option JM := ((some (jup M s2 13 (s1 ||| s0))).bind fun M11 => (h12 l0 (l1 + (1 : Int32)) M11))
set_option maxRecDepth 100000 in
theorem c13_89 {xs : Option (List Int32)} (h12 : Nat → Int32 → JM → Option JM) (H12 : ∀ (l0 : Nat) (l1 : Int32) (M : JM) (pl0 : jok jE0 l0 0 = true), JG xs 1 13 (h12 l0 l1 M) (fun x r => r = (none, (jE0, x))) (12, [(0, .ref l0), (1, .int l1)], [], (jE0, M))) : ∀ (l0 : Nat) (l1 : Int32) (s0 : Int32) (s1 : Int32) (s2 : Nat) (M : JM) (pl0 : jok jE0 l0 0 = true) (ps2 : jok jE0 s2 0 = true), JG xs 1 13 (f13_89 h12 l0 l1 s0 s1 s2 M) (fun x r => r = (none, (jE0, x))) (89, [(0, .ref l0), (1, .int l1)], [.int s0, .int s1, .ref s2], (jE0, M)) := by
    intro l0 l1 s0 s1 s2 M pl0 ps2
    unfold f13_89
    refine g_pure (c' := (90, [(0, .ref l0), (1, .int l1)], [.int (s1 ||| s0), .ref s2], (jE0, M))) 1 rfl ?_
    refine g_pf (ci := 0) (k := 13) rfl rfl rfl rfl ps2 (fun M11 => ?_)
    refine g_pure (c' := (12, [(1, .int (l1 + (1 : Int32))), (0, .ref l0)], [], (jE0, M11))) 2 rfl ?_
    refine g_weakk (lv := [(0, .ref l0), (1, .int (l1 + (1 : Int32)))]) ⟨rfl, rfl, trivial⟩ [0, 1] rfl (by decide) [1, 0] rfl (by decide) ?_
    exact (H12 l0 (l1 + (1 : Int32)) M11 pl0)
def f13_66 (h12 : Nat → Int32 → JM → Option JM) (l0 : Nat) (l1 : Int32) (l2 : Int32) (s0 : Int32) (s1 : Int32) (s2 : Nat) (M : JM) : Option JM := ((some (jup M s2 12 (s1 ||| s0))).bind fun M9 => (if (l2 &&& (2 : Int32)) = (0 : Int32) then (f13_89 h12 l0 l1 (0 : Int32) (M9 l0 13) l0 M9) else ((f100 l1).bind fun v12 => (f13_89 h12 l0 l1 v12 (M9 l0 13) l0 M9))))
set_option maxRecDepth 100000 in
theorem c13_66 {xs : Option (List Int32)} (h12 : Nat → Int32 → JM → Option JM) (H12 : ∀ (l0 : Nat) (l1 : Int32) (M : JM) (pl0 : jok jE0 l0 0 = true), JG xs 1 13 (h12 l0 l1 M) (fun x r => r = (none, (jE0, x))) (12, [(0, .ref l0), (1, .int l1)], [], (jE0, M))) : ∀ (l0 : Nat) (l1 : Int32) (l2 : Int32) (s0 : Int32) (s1 : Int32) (s2 : Nat) (M : JM) (pl0 : jok jE0 l0 0 = true) (ps2 : jok jE0 s2 0 = true), JG xs 1 13 (f13_66 h12 l0 l1 l2 s0 s1 s2 M) (fun x r => r = (none, (jE0, x))) (66, [(0, .ref l0), (1, .int l1), (2, .int l2)], [.int s0, .int s1, .ref s2], (jE0, M)) := by
    intro l0 l1 l2 s0 s1 s2 M pl0 ps2
    unfold f13_66
    refine g_pure (c' := (67, [(0, .ref l0), (1, .int l1), (2, .int l2)], [.int (s1 ||| s0), .ref s2], (jE0, M))) 1 rfl ?_
    refine g_pf (ci := 0) (k := 12) rfl rfl rfl rfl ps2 (fun M9 => ?_)
    refine g_pure (c' := (72, [(0, .ref l0), (1, .int l1), (2, .int l2)], [.ref l0, .ref l0], (jE0, M9))) 2 rfl ?_
    refine g_gf (ci := 0) (k := 13) rfl rfl rfl pl0 ?_
    refine g_pure (c' := (78, [(0, .ref l0), (1, .int l1), (2, .int l2)], [.int (l2 &&& (2 : Int32)), .int (M9 l0 13), .ref l0], (jE0, M9))) 3 rfl ?_
    refine g_if_eq (tgt := 88) rfl rfl (fun q10 => ?_) (fun q10 => ?_)
    · refine g_pure (c' := (89, [(0, .ref l0), (1, .int l1), (2, .int l2)], [.int (0 : Int32), .int (M9 l0 13), .ref l0], (jE0, M9))) 1 rfl ?_
      refine g_weakk (lv := [(0, .ref l0), (1, .int l1)]) ⟨rfl, rfl, trivial⟩ [0, 1] rfl (by decide) [0, 1, 2] rfl (by decide) ?_
      exact (c13_89 h12 H12 l0 l1 (0 : Int32) (M9 l0 13) l0 M9 pl0 pl0)
    · refine g_pure (c' := (82, [(0, .ref l0), (1, .int l1), (2, .int l2)], [.int l1, .int (M9 l0 13), .ref l0], (jE0, M9))) 1 rfl ?_
      refine g_cI rfl (jc_s rfl rfl) (c100 l1) (by decide) (fun v12 qv12 => ?_)
      refine g_pure (c' := (89, [(0, .ref l0), (1, .int l1), (2, .int l2)], [.int v12, .int (M9 l0 13), .ref l0], (jE0, M9))) 1 rfl ?_
      refine g_weakk (lv := [(0, .ref l0), (1, .int l1)]) ⟨rfl, rfl, trivial⟩ [0, 1] rfl (by decide) [0, 1, 2] rfl (by decide) ?_
      exact (c13_89 h12 H12 l0 l1 v12 (M9 l0 13) l0 M9 pl0 pl0)
def f13_46 (h12 : Nat → Int32 → JM → Option JM) (l0 : Nat) (l1 : Int32) (s0 : Int32) (M : JM) : Option JM := (if (s0 &&& (1 : Int32)) = (0 : Int32) then (f13_66 h12 l0 l1 s0 (0 : Int32) (M l0 12) l0 M) else ((f100 l1).bind fun v13 => (f13_66 h12 l0 l1 s0 v13 (M l0 12) l0 M)))
set_option maxRecDepth 100000 in
theorem c13_46 {xs : Option (List Int32)} (h12 : Nat → Int32 → JM → Option JM) (H12 : ∀ (l0 : Nat) (l1 : Int32) (M : JM) (pl0 : jok jE0 l0 0 = true), JG xs 1 13 (h12 l0 l1 M) (fun x r => r = (none, (jE0, x))) (12, [(0, .ref l0), (1, .int l1)], [], (jE0, M))) : ∀ (l0 : Nat) (l1 : Int32) (s0 : Int32) (M : JM) (pl0 : jok jE0 l0 0 = true), JG xs 1 13 (f13_46 h12 l0 l1 s0 M) (fun x r => r = (none, (jE0, x))) (46, [(0, .ref l0), (1, .int l1)], [.int s0], (jE0, M)) := by
    intro l0 l1 s0 M pl0
    unfold f13_46
    refine g_pure (c' := (49, [(2, .int s0), (0, .ref l0), (1, .int l1)], [.ref l0, .ref l0], (jE0, M))) 3 rfl ?_
    refine g_gf (ci := 0) (k := 12) rfl rfl rfl pl0 ?_
    refine g_pure (c' := (55, [(2, .int s0), (0, .ref l0), (1, .int l1)], [.int (s0 &&& (1 : Int32)), .int (M l0 12), .ref l0], (jE0, M))) 3 rfl ?_
    refine g_if_eq (tgt := 65) rfl rfl (fun q8 => ?_) (fun q8 => ?_)
    · refine g_pure (c' := (66, [(2, .int s0), (0, .ref l0), (1, .int l1)], [.int (0 : Int32), .int (M l0 12), .ref l0], (jE0, M))) 1 rfl ?_
      refine g_weakk (lv := [(0, .ref l0), (1, .int l1), (2, .int s0)]) ⟨rfl, rfl, rfl, trivial⟩ [0, 1, 2] rfl (by decide) [2, 0, 1] rfl (by decide) ?_
      exact (c13_66 h12 H12 l0 l1 s0 (0 : Int32) (M l0 12) l0 M pl0 pl0)
    · refine g_pure (c' := (59, [(2, .int s0), (0, .ref l0), (1, .int l1)], [.int l1, .int (M l0 12), .ref l0], (jE0, M))) 1 rfl ?_
      refine g_cI rfl (jc_s rfl rfl) (c100 l1) (by decide) (fun v13 qv13 => ?_)
      refine g_pure (c' := (66, [(2, .int s0), (0, .ref l0), (1, .int l1)], [.int v13, .int (M l0 12), .ref l0], (jE0, M))) 1 rfl ?_
      refine g_weakk (lv := [(0, .ref l0), (1, .int l1), (2, .int s0)]) ⟨rfl, rfl, rfl, trivial⟩ [0, 1, 2] rfl (by decide) [2, 0, 1] rfl (by decide) ?_
      exact (c13_66 h12 H12 l0 l1 s0 v13 (M l0 12) l0 M pl0 pl0)
def f13_12  : Nat → Nat → Int32 → JM → Option JM
  | 0, _, _, _ => none
  | n + 1, l0, l1, M => (if l1 < (M l0 1) then ((f101 (M l0 11) l1).bind fun v4 => (if v4 = (0 : Int32) then ((f42 M (jpt l0 8) l1).bind fun v6 => ((f104 v6).bind fun v7 => (f13_46 (f13_12 n) l0 l1 v7 M))) else (f13_46 (f13_12 n) l0 l1 (0 : Int32) M))) else (some M))
set_option maxRecDepth 100000 in
theorem c13_12 {xs : Option (List Int32)} : ∀ (n : Nat) (l0 : Nat) (l1 : Int32) (M : JM) (pl0 : jok jE0 l0 0 = true), JG xs 1 13 (f13_12 n l0 l1 M) (fun x r => r = (none, (jE0, x))) (12, [(0, .ref l0), (1, .int l1)], [], (jE0, M))
  | 0, _, _, _, _ => by rw [f13_12]; exact g_none
  | n + 1, l0, l1, M, pl0 => by
    rw [f13_12]
    refine g_pure (c' := (14, [(0, .ref l0), (1, .int l1)], [.ref l0, .int l1], (jE0, M))) 2 rfl ?_
    refine g_gf (ci := 0) (k := 1) rfl rfl rfl pl0 ?_
    refine g_ic_ge (tgt := 99) rfl rfl (fun q3 => ?_) (fun q3 => ?_)
    · refine g_pure (c' := (21, [(0, .ref l0), (1, .int l1)], [.ref l0], (jE0, M))) 1 rfl ?_
      refine g_gf (ci := 0) (k := 11) rfl rfl rfl pl0 ?_
      refine g_pure (c' := (25, [(0, .ref l0), (1, .int l1)], [.int l1, .int (M l0 11)], (jE0, M))) 1 rfl ?_
      refine g_cI rfl (jc_s rfl rfl) (c101 (M l0 11) l1) (by decide) (fun v4 qv4 => ?_)
      refine g_if_eq (tgt := 35) rfl rfl (fun q5 => ?_) (fun q5 => ?_)
      · refine g_pure (c' := (36, [(0, .ref l0), (1, .int l1)], [.ref l0], (jE0, M))) 1 rfl ?_
        refine g_gp rfl rfl rfl pl0 (jp_ok (kd := 3) pl0 (by decide) (by decide) rfl rfl).1 ?_
        refine g_pure (c' := (40, [(0, .ref l0), (1, .int l1)], [.int l1, .ref (jpt l0 8)], (jE0, M))) 1 rfl ?_
        refine g_cI rfl (jc_v rfl rfl (jv_o (jk_ok (kd := 3) pl0 (by decide) (by decide) rfl rfl) rfl) rfl) (c42 (jpt l0 8) l1 (jk_ok (kd := 3) pl0 (by decide) (by decide) rfl rfl)) (by decide) (fun v6 qv6 => ?_)
        refine g_cI rfl (jc_s rfl rfl) (c104 v6) (by decide) (fun v7 qv7 => ?_)
        exact (c13_46 (f13_12 n) (c13_12 n) l0 l1 v7 M pl0)
      · refine g_pure (c' := (46, [(0, .ref l0), (1, .int l1)], [.int (0 : Int32)], (jE0, M))) 2 rfl ?_
        exact (c13_46 (f13_12 n) (c13_12 n) l0 l1 (0 : Int32) M pl0)
    · exact g_ret rfl rfl (fun _ h => h)
/-- CometKin$Country.findSight -/
def f13  (l0 : Nat) (M : JM) : Option JM := ((some (jup M l0 12 (0 : Int32))).bind fun M1 => ((some (jup M1 l0 13 (0 : Int32))).bind fun M2 => (f13_12 1000 l0 (0 : Int32) M2)))
set_option maxRecDepth 100000 in
theorem c13 {xs : Option (List Int32)} (l0 : Nat) (M : JM) (pl0 : jok jE0 l0 0 = true) : JG xs 1 13 (f13 l0 M) (fun x r => r = (none, (jE0, x))) (0, [(0, .ref l0)], [], (jE0, M)) := by
    unfold f13
    refine g_pure (c' := (2, [(0, .ref l0)], [.int (0 : Int32), .ref l0], (jE0, M))) 2 rfl ?_
    refine g_pf (ci := 0) (k := 12) rfl rfl rfl rfl pl0 (fun M1 => ?_)
    refine g_pure (c' := (7, [(0, .ref l0)], [.int (0 : Int32), .ref l0], (jE0, M1))) 2 rfl ?_
    refine g_pf (ci := 0) (k := 13) rfl rfl rfl rfl pl0 (fun M2 => ?_)
    refine g_pure (c' := (12, [(1, .int (0 : Int32)), (0, .ref l0)], [], (jE0, M2))) 2 rfl ?_
    refine g_weakk (lv := [(0, .ref l0), (1, .int (0 : Int32))]) ⟨rfl, rfl, trivial⟩ [0, 1] rfl (by decide) [1, 0] rfl (by decide) ?_
    exact (c13_12 1000 l0 (0 : Int32) M2 pl0)
