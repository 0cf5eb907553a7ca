def f54_53 (xs : Option (List Int32)) (l1 : Nat) (M : JM) : Option JM := ((f10 l1 M).bind fun M5 => ((f13 l1 M5).bind fun M6 => (some M6)))
set_option maxRecDepth 100000 in
theorem c54_53 {xs : Option (List Int32)} : ∀ (l1 : Nat) (M : JM) (pl1 : jok jE0 l1 0 = true), JG xs 7 54 (f54_53 xs l1 M) (fun x r => r = (none, (jE0, x))) (53, [(1, .ref l1)], [], (jE0, M)) := by
    intro l1 M pl1
    unfold f54_53
    refine g_pure (c' := (54, [(1, .ref l1)], [.ref l1], (jE0, M))) 1 rfl ?_
    refine g_wV rfl (jc_v rfl rfl (jv_o pl1 rfl) rfl) (c10 l1 M pl1) (by decide) (fun M5 => ?_)
    refine g_pure (c' := (58, [(1, .ref l1)], [.ref l1], (jE0, M5))) 1 rfl ?_
    refine g_wV rfl (jc_v rfl rfl (jv_o pl1 rfl) rfl) (c13 l1 M5 pl1) (by decide) (fun M6 => ?_)
    exact g_ret rfl rfl (fun _ h => h)
def f54_17 (xs : Option (List Int32)) : Nat → Nat → Nat → Int32 → JM → Option JM
  | 0, _, _, _, _ => none
  | n + 1, l0, l1, l2, M => (if l2 = (0 : Int32) then (f54_53 xs l1 M) else (if (M l0 4) < (14 : Int32) then ((f56 xs l0 l1 M).bind fun M8 => ((some (jup M8 l0 4 ((M8 l0 4) + (1 : Int32)))).bind fun M9 => ((f55 l0 M9).bind fun z12 => ((f54_17 xs n) l0 l1 z12.1 z12.2)))) else (f54_53 xs l1 M)))
set_option maxRecDepth 100000 in
theorem c54_17 {xs : Option (List Int32)} : ∀ (n : Nat) (l0 : Nat) (l1 : Nat) (l2 : Int32) (M : JM) (pl0 : jok jE0 l0 5 = true) (pl1 : jok jE0 l1 0 = true), JG xs 7 54 (f54_17 xs n l0 l1 l2 M) (fun x r => r = (none, (jE0, x))) (17, [(0, .ref l0), (1, .ref l1), (2, .int l2)], [], (jE0, M))
  | 0, _, _, _, _, _, _ => by rw [f54_17]; exact g_none
  | n + 1, l0, l1, l2, M, pl0, pl1 => by
    rw [f54_17]
    refine g_pure (c' := (18, [(0, .ref l0), (1, .ref l1), (2, .int l2)], [.int l2], (jE0, M))) 1 rfl ?_
    refine g_if_eq (tgt := 53) rfl rfl (fun q4 => ?_) (fun q4 => ?_)
    · refine g_weakk (lv := [(1, .ref l1)]) ⟨rfl, trivial⟩ [1] rfl (by decide) [0, 1, 2] rfl (by decide) ?_
      exact (c54_53 l1 M pl1)
    · refine g_pure (c' := (22, [(0, .ref l0), (1, .ref l1), (2, .int l2)], [.ref l0], (jE0, M))) 1 rfl ?_
      refine g_gf (ci := 5) (k := 4) rfl rfl rfl pl0 ?_
      refine g_pure (c' := (27, [(0, .ref l0), (1, .ref l1), (2, .int l2)], [.int (14 : Int32), .int (M l0 4)], (jE0, M))) 1 rfl ?_
      refine g_ic_ge (tgt := 53) rfl rfl (fun q7 => ?_) (fun q7 => ?_)
      · refine g_pure (c' := (32, [(0, .ref l0), (1, .ref l1), (2, .int l2)], [.ref l1, .ref l0], (jE0, M))) 2 rfl ?_
        refine g_wV rfl (jc_v rfl rfl (jv_o pl0 rfl) rfl) (c56 l0 l1 M pl0 pl1) (by decide) (fun M8 => ?_)
        refine g_pure (c' := (37, [(0, .ref l0), (1, .ref l1), (2, .int l2)], [.ref l0, .ref l0], (jE0, M8))) 2 rfl ?_
        refine g_gf (ci := 5) (k := 4) rfl rfl rfl pl0 ?_
        refine g_pure (c' := (42, [(0, .ref l0), (1, .ref l1), (2, .int l2)], [.int ((M8 l0 4) + (1 : Int32)), .ref l0], (jE0, M8))) 2 rfl ?_
        refine g_pf (ci := 5) (k := 4) rfl rfl rfl rfl pl0 (fun M9 => ?_)
        refine g_pure (c' := (46, [(0, .ref l0), (1, .ref l1), (2, .int l2)], [.ref l0], (jE0, M9))) 1 rfl ?_
        refine g_wI rfl (jc_v rfl rfl (jv_o pl0 rfl) rfl) (c55 l0 M9 pl0) (by decide) (fun v11 M10 qv11 => ?_)
        refine g_pure (c' := (17, [(2, .int v11), (0, .ref l0), (1, .ref l1)], [], (jE0, M10))) 2 rfl ?_
        refine g_weakk (lv := [(0, .ref l0), (1, .ref l1), (2, .int v11)]) ⟨rfl, rfl, rfl, trivial⟩ [0, 1, 2] rfl (by decide) [2, 0, 1] rfl (by decide) ?_
        exact ((c54_17 n) l0 l1 v11 M10 pl0 pl1)
      · refine g_weakk (lv := [(1, .ref l1)]) ⟨rfl, trivial⟩ [1] rfl (by decide) [0, 1, 2] rfl (by decide) ?_
        exact (c54_53 l1 M pl1)
/-- CometKin$Text.readInto -/
def f54 (xs : Option (List Int32)) (l0 : Nat) (l1 : Nat) (M : JM) : Option JM := ((some (jup M l0 2 (0 : Int32))).bind fun M1 => ((some (jup M1 l0 3 (-1 : Int32))).bind fun M2 => ((some (jup M2 l0 4 (0 : Int32))).bind fun M3 => (f54_17 xs 1000 l0 l1 (1 : Int32) M3))))
set_option maxRecDepth 100000 in
theorem c54 {xs : Option (List Int32)} (l0 : Nat) (l1 : Nat) (M : JM) (pl0 : jok jE0 l0 5 = true) (pl1 : jok jE0 l1 0 = true) : JG xs 7 54 (f54 xs l0 l1 M) (fun x r => r = (none, (jE0, x))) (0, [(0, .ref l0), (1, .ref l1)], [], (jE0, M)) := by
    unfold f54
    refine g_pure (c' := (2, [(0, .ref l0), (1, .ref l1)], [.int (0 : Int32), .ref l0], (jE0, M))) 2 rfl ?_
    refine g_pf (ci := 5) (k := 2) rfl rfl rfl rfl pl0 (fun M1 => ?_)
    refine g_pure (c' := (7, [(0, .ref l0), (1, .ref l1)], [.int (-1 : Int32), .ref l0], (jE0, M1))) 2 rfl ?_
    refine g_pf (ci := 5) (k := 3) rfl rfl rfl rfl pl0 (fun M2 => ?_)
    refine g_pure (c' := (12, [(0, .ref l0), (1, .ref l1)], [.int (0 : Int32), .ref l0], (jE0, M2))) 2 rfl ?_
    refine g_pf (ci := 5) (k := 4) rfl rfl rfl rfl pl0 (fun M3 => ?_)
    refine g_pure (c' := (17, [(2, .int (1 : Int32)), (0, .ref l0), (1, .ref l1)], [], (jE0, M3))) 2 rfl ?_
    refine g_weakk (lv := [(0, .ref l0), (1, .ref l1), (2, .int (1 : Int32))]) ⟨rfl, rfl, rfl, trivial⟩ [0, 1, 2] rfl (by decide) [2, 0, 1] rfl (by decide) ?_
    exact (c54_17 1000 l0 l1 (1 : Int32) M3 pl0 pl1)
/-- CometKin.fault -/
def f70 (xs : Option (List Int32)) (l0 : Nat) (M : JM) : Option (Int32 × JM) := ((f1 (jpt l0 2) (jpt l0 1) M).bind fun M1 => ((f54 xs (jpt l0 0) (jpt l0 2) M1).bind fun M2 => (some ((M2 (jpt l0 0) 3), M2))))
set_option maxRecDepth 100000 in
theorem c70 {xs : Option (List Int32)} (l0 : Nat) (M : JM) (pl0 : jok jE0 l0 6 = true) : JG xs 8 70 (f70 xs l0 M) (fun x r => r = (some (.int x.1), (jE0, x.2))) (0, [(0, .ref l0)], [], (jE0, M)) := by
    unfold f70
    refine g_pure (c' := (1, [(0, .ref l0)], [.ref l0], (jE0, M))) 1 rfl ?_
    refine g_gp rfl rfl rfl pl0 (jp_ok (kd := 0) pl0 (by decide) (by decide) rfl rfl).1 ?_
    refine g_pure (c' := (5, [(0, .ref l0)], [.ref l0, .ref (jpt l0 2)], (jE0, M))) 1 rfl ?_
    refine g_gp rfl rfl rfl pl0 (jp_ok (kd := 0) pl0 (by decide) (by decide) rfl rfl).1 ?_
    refine g_wV rfl (jc_v rfl rfl (jv_o (jk_ok (kd := 0) pl0 (by decide) (by decide) rfl rfl) rfl) rfl) (c1 (jpt l0 2) (jpt l0 1) M (jk_ok (kd := 0) pl0 (by decide) (by decide) rfl rfl) (jk_ok (kd := 0) pl0 (by decide) (by decide) rfl rfl)) (by decide) (fun M1 => ?_)
    refine g_pure (c' := (12, [(0, .ref l0)], [.ref l0], (jE0, M1))) 1 rfl ?_
    refine g_gp rfl rfl rfl pl0 (jp_ok (kd := 5) pl0 (by decide) (by decide) rfl rfl).1 ?_
    refine g_pure (c' := (16, [(0, .ref l0)], [.ref l0, .ref (jpt l0 0)], (jE0, M1))) 1 rfl ?_
    refine g_gp rfl rfl rfl pl0 (jp_ok (kd := 0) pl0 (by decide) (by decide) rfl rfl).1 ?_
    refine g_wV rfl (jc_v rfl rfl (jv_o (jk_ok (kd := 5) pl0 (by decide) (by decide) rfl rfl) rfl) rfl) (c54 (jpt l0 0) (jpt l0 2) M1 (jk_ok (kd := 5) pl0 (by decide) (by decide) rfl rfl) (jk_ok (kd := 0) pl0 (by decide) (by decide) rfl rfl)) (by decide) (fun M2 => ?_)
    refine g_pure (c' := (23, [(0, .ref l0)], [.ref l0], (jE0, M2))) 1 rfl ?_
    refine g_gp rfl rfl rfl pl0 (jp_ok (kd := 5) pl0 (by decide) (by decide) rfl rfl).1 ?_
    refine g_gf (ci := 5) (k := 3) rfl rfl rfl (jk_ok (kd := 5) pl0 (by decide) (by decide) rfl rfl) ?_
    exact g_ret rfl rfl (fun _ h => h)
def f130_16  (l0 : Int32) : Option Int32 := (if l0 < (48 : Int32) then (some (0 : Int32)) else (if (57 : Int32) < l0 then (some (0 : Int32)) else (some (2 : Int32))))
set_option maxRecDepth 100000 in
theorem c130_16 {xs : Option (List Int32)} {M : JM} : ∀ (l0 : Int32), JG xs 0 130 (f130_16 l0) (fun x r => r = (some (.int x), (jE0, M))) (16, [(0, .int l0)], [], (jE0, M)) := by
    intro l0
    unfold f130_16
    refine g_pure (c' := (19, [(0, .int l0)], [.int (48 : Int32), .int l0], (jE0, M))) 2 rfl ?_
    refine g_ic_lt (tgt := 32) rfl rfl (fun q2 => ?_) (fun q2 => ?_)
    · refine g_pure (c' := (33, [(0, .int l0)], [.int (0 : Int32)], (jE0, M))) 1 rfl ?_
      exact g_ret rfl rfl (fun _ h => h)
    · refine g_pure (c' := (25, [(0, .int l0)], [.int (57 : Int32), .int l0], (jE0, M))) 2 rfl ?_
      refine g_ic_gt (tgt := 32) rfl rfl (fun q3 => ?_) (fun q3 => ?_)
      · refine g_pure (c' := (33, [(0, .int l0)], [.int (0 : Int32)], (jE0, M))) 1 rfl ?_
        exact g_ret rfl rfl (fun _ h => h)
      · refine g_pure (c' := (33, [(0, .int l0)], [.int (2 : Int32)], (jE0, M))) 2 rfl ?_
        exact g_ret rfl rfl (fun _ h => h)
/-- CometKinModel.sort -/
def f130  (l0 : Int32) : Option Int32 := (if l0 < (97 : Int32) then (f130_16 l0) else (if (122 : Int32) < l0 then (f130_16 l0) else (some (1 : Int32))))
set_option maxRecDepth 100000 in
theorem c130 {xs : Option (List Int32)} {M : JM} (l0 : Int32) : JG xs 0 130 (f130 l0) (fun x r => r = (some (.int x), (jE0, M))) (0, [(0, .int l0)], [], (jE0, M)) := by
    unfold f130
    refine g_pure (c' := (3, [(0, .int l0)], [.int (97 : Int32), .int l0], (jE0, M))) 2 rfl ?_
    refine g_ic_lt (tgt := 16) rfl rfl (fun q1 => ?_) (fun q1 => ?_)
    · exact (c130_16 l0)
    · refine g_pure (c' := (9, [(0, .int l0)], [.int (122 : Int32), .int l0], (jE0, M))) 2 rfl ?_
      refine g_ic_gt (tgt := 16) rfl rfl (fun q4 => ?_) (fun q4 => ?_)
      · exact (c130_16 l0)
      · refine g_pure (c' := (33, [(0, .int l0)], [.int (1 : Int32)], (jE0, M))) 2 rfl ?_
        exact g_ret rfl rfl (fun _ h => h)
def f131_137  (l0 : Nat) (M : JM) : Option JM := ((some (jup M l0 19 (M l0 17))).bind fun M18 => (some M18))
set_option maxRecDepth 100000 in
theorem c131_137 {xs : Option (List Int32)} : ∀ (l0 : Nat) (M : JM) (pl0 : jok jE0 l0 7 = true), JG xs 1 131 (f131_137 l0 M) (fun x r => r = (none, (jE0, x))) (137, [(0, .ref l0)], [], (jE0, M)) := by
    intro l0 M pl0
    unfold f131_137
    refine g_pure (c' := (139, [(0, .ref l0)], [.ref l0, .ref l0], (jE0, M))) 2 rfl ?_
    refine g_gf (ci := 7) (k := 17) rfl rfl rfl pl0 ?_
    refine g_pf (ci := 7) (k := 19) rfl rfl rfl rfl pl0 (fun M18 => ?_)
    exact g_ret rfl rfl (fun _ h => h)
def f131_71  : Nat → Nat → JM → Option JM
  | 0, _, _ => none
  | n + 1, l0, M => (if (M l0 17) < (M l0 4) then ((jla (jpt l0 3) (M l0 18) M).bind fun v9 => ((f130 v9).bind fun v10 => (if (0 : Int32) < v10 then ((jla (jpt l0 3) (M l0 17) M).bind fun v12 => ((f130 v12).bind fun v13 => ((jla (jpt l0 3) (M l0 18) M).bind fun v14 => ((f130 v14).bind fun v15 => (if v13 = v15 then ((some (jup M l0 17 ((M l0 17) + (1 : Int32)))).bind fun M17 => ((f131_71 n) l0 M17)) else (f131_137 l0 M)))))) else (f131_137 l0 M)))) else (f131_137 l0 M))
set_option maxRecDepth 100000 in
theorem c131_71 {xs : Option (List Int32)} : ∀ (n : Nat) (l0 : Nat) (M : JM) (pl0 : jok jE0 l0 7 = true), JG xs 1 131 (f131_71 n l0 M) (fun x r => r = (none, (jE0, x))) (71, [(0, .ref l0)], [], (jE0, M))
  | 0, _, _, _ => by rw [f131_71]; exact g_none
  | n + 1, l0, M, pl0 => by
    rw [f131_71]
    refine g_pure (c' := (72, [(0, .ref l0)], [.ref l0], (jE0, M))) 1 rfl ?_
    refine g_gf (ci := 7) (k := 17) rfl rfl rfl pl0 ?_
    refine g_pure (c' := (76, [(0, .ref l0)], [.ref l0, .int (M l0 17)], (jE0, M))) 1 rfl ?_
    refine g_gf (ci := 7) (k := 4) rfl rfl rfl pl0 ?_
    refine g_ic_ge (tgt := 137) rfl rfl (fun q8 => ?_) (fun q8 => ?_)
    · refine g_pure (c' := (83, [(0, .ref l0)], [.ref l0], (jE0, M))) 1 rfl ?_
      refine g_gp rfl rfl rfl pl0 (jp_ok (kd := 8) pl0 (by decide) (by decide) rfl rfl).1 ?_
      refine g_pure (c' := (87, [(0, .ref l0)], [.ref l0, .ref (jpt l0 3)], (jE0, M))) 1 rfl ?_
      refine g_gf (ci := 7) (k := 18) rfl rfl rfl pl0 ?_
      refine g_ia rfl (jk_ok (kd := 8) pl0 (by decide) (by decide) rfl rfl) (fun v9 => ?_)
      refine g_cI rfl (jc_s rfl rfl) (c130 v9) (by decide) (fun v10 qv10 => ?_)
      refine g_if_le (tgt := 137) rfl rfl (fun q11 => ?_) (fun q11 => ?_)
      · refine g_pure (c' := (98, [(0, .ref l0)], [.ref l0], (jE0, M))) 1 rfl ?_
        refine g_gp rfl rfl rfl pl0 (jp_ok (kd := 8) pl0 (by decide) (by decide) rfl rfl).1 ?_
        refine g_pure (c' := (102, [(0, .ref l0)], [.ref l0, .ref (jpt l0 3)], (jE0, M))) 1 rfl ?_
        refine g_gf (ci := 7) (k := 17) rfl rfl rfl pl0 ?_
        refine g_ia rfl (jk_ok (kd := 8) pl0 (by decide) (by decide) rfl rfl) (fun v12 => ?_)
        refine g_cI rfl (jc_s rfl rfl) (c130 v12) (by decide) (fun v13 qv13 => ?_)
        refine g_pure (c' := (110, [(0, .ref l0)], [.ref l0, .int v13], (jE0, M))) 1 rfl ?_
        refine g_gp rfl rfl rfl pl0 (jp_ok (kd := 8) pl0 (by decide) (by decide) rfl rfl).1 ?_
        refine g_pure (c' := (114, [(0, .ref l0)], [.ref l0, .ref (jpt l0 3), .int v13], (jE0, M))) 1 rfl ?_
        refine g_gf (ci := 7) (k := 18) rfl rfl rfl pl0 ?_
        refine g_ia rfl (jk_ok (kd := 8) pl0 (by decide) (by decide) rfl rfl) (fun v14 => ?_)
        refine g_cI rfl (jc_s rfl rfl) (c130 v14) (by decide) (fun v15 qv15 => ?_)
        refine g_ic_ne (tgt := 137) rfl rfl (fun q16 => ?_) (fun q16 => ?_)
        · refine g_pure (c' := (126, [(0, .ref l0)], [.ref l0, .ref l0], (jE0, M))) 2 rfl ?_
          refine g_gf (ci := 7) (k := 17) rfl rfl rfl pl0 ?_
          refine g_pure (c' := (131, [(0, .ref l0)], [.int ((M l0 17) + (1 : Int32)), .ref l0], (jE0, M))) 2 rfl ?_
          refine g_pf (ci := 7) (k := 17) rfl rfl rfl rfl pl0 (fun M17 => ?_)
          refine g_pure (c' := (71, [(0, .ref l0)], [], (jE0, M17))) 1 rfl ?_
          exact ((c131_71 n) l0 M17 pl0)
        · exact (c131_137 l0 M pl0)
      · exact (c131_137 l0 M pl0)
    · exact (c131_137 l0 M pl0)
def f131_67  (l0 : Nat) (s0 : Int32) (s1 : Int32) (s2 : Nat) (M : JM) : Option JM := ((some (jup M s2 17 (s1 + s0))).bind fun M7 => (f131_71 1000 l0 M7))
set_option maxRecDepth 100000 in
theorem c131_67 {xs : Option (List Int32)} : ∀ (l0 : Nat) (s0 : Int32) (s1 : Int32) (s2 : Nat) (M : JM) (pl0 : jok jE0 l0 7 = true) (ps2 : jok jE0 s2 7 = true), JG xs 1 131 (f131_67 l0 s0 s1 s2 M) (fun x r => r = (none, (jE0, x))) (67, [(0, .ref l0)], [.int s0, .int s1, .ref s2], (jE0, M)) := by
    intro l0 s0 s1 s2 M pl0 ps2
    unfold f131_67
    refine g_pure (c' := (68, [(0, .ref l0)], [.int (s1 + s0), .ref s2], (jE0, M))) 1 rfl ?_
    refine g_pf (ci := 7) (k := 17) rfl rfl rfl rfl ps2 (fun M7 => ?_)
    exact (c131_71 1000 l0 M7 pl0)
def f131_38  (l0 : Nat) (M : JM) : Option JM := ((some (jup M l0 18 (M l0 17))).bind fun M5 => (if (M5 l0 17) < (M5 l0 4) then (f131_67 l0 (1 : Int32) (M5 l0 17) l0 M5) else (f131_67 l0 (0 : Int32) (M5 l0 17) l0 M5)))
set_option maxRecDepth 100000 in
theorem c131_38 {xs : Option (List Int32)} : ∀ (l0 : Nat) (M : JM) (pl0 : jok jE0 l0 7 = true), JG xs 1 131 (f131_38 l0 M) (fun x r => r = (none, (jE0, x))) (38, [(0, .ref l0)], [], (jE0, M)) := by
    intro l0 M pl0
    unfold f131_38
    refine g_pure (c' := (40, [(0, .ref l0)], [.ref l0, .ref l0], (jE0, M))) 2 rfl ?_
    refine g_gf (ci := 7) (k := 17) rfl rfl rfl pl0 ?_
    refine g_pf (ci := 7) (k := 18) rfl rfl rfl rfl pl0 (fun M5 => ?_)
    refine g_pure (c' := (48, [(0, .ref l0)], [.ref l0, .ref l0], (jE0, M5))) 2 rfl ?_
    refine g_gf (ci := 7) (k := 17) rfl rfl rfl pl0 ?_
    refine g_pure (c' := (52, [(0, .ref l0)], [.ref l0, .int (M5 l0 17), .ref l0], (jE0, M5))) 1 rfl ?_
    refine g_gf (ci := 7) (k := 17) rfl rfl rfl pl0 ?_
    refine g_pure (c' := (56, [(0, .ref l0)], [.ref l0, .int (M5 l0 17), .int (M5 l0 17), .ref l0], (jE0, M5))) 1 rfl ?_
    refine g_gf (ci := 7) (k := 4) rfl rfl rfl pl0 ?_
    refine g_ic_ge (tgt := 66) rfl rfl (fun q6 => ?_) (fun q6 => ?_)
    · refine g_pure (c' := (67, [(0, .ref l0)], [.int (1 : Int32), .int (M5 l0 17), .ref l0], (jE0, M5))) 2 rfl ?_
      exact (c131_67 l0 (1 : Int32) (M5 l0 17) l0 M5 pl0 pl0)
    · refine g_pure (c' := (67, [(0, .ref l0)], [.int (0 : Int32), .int (M5 l0 17), .ref l0], (jE0, M5))) 1 rfl ?_
      exact (c131_67 l0 (0 : Int32) (M5 l0 17) l0 M5 pl0 pl0)
def f131_0  : Nat → Nat → JM → Option JM
  | 0, _, _ => none
  | n + 1, l0, M => (if (M l0 17) < (M l0 4) then ((jla (jpt l0 3) (M l0 17) M).bind fun v2 => (if v2 = (32 : Int32) then ((some (jup M l0 17 ((M l0 17) + (1 : Int32)))).bind fun M4 => ((f131_0 n) l0 M4)) else (f131_38 l0 M))) else (f131_38 l0 M))
set_option maxRecDepth 100000 in
theorem c131_0 {xs : Option (List Int32)} : ∀ (n : Nat) (l0 : Nat) (M : JM) (pl0 : jok jE0 l0 7 = true), JG xs 1 131 (f131_0 n l0 M) (fun x r => r = (none, (jE0, x))) (0, [(0, .ref l0)], [], (jE0, M))
  | 0, _, _, _ => by rw [f131_0]; exact g_none
  | n + 1, l0, M, pl0 => by
    rw [f131_0]
    refine g_pure (c' := (1, [(0, .ref l0)], [.ref l0], (jE0, M))) 1 rfl ?_
    refine g_gf (ci := 7) (k := 17) rfl rfl rfl pl0 ?_
    refine g_pure (c' := (5, [(0, .ref l0)], [.ref l0, .int (M l0 17)], (jE0, M))) 1 rfl ?_
    refine g_gf (ci := 7) (k := 4) rfl rfl rfl pl0 ?_
    refine g_ic_ge (tgt := 38) rfl rfl (fun q1 => ?_) (fun q1 => ?_)
    · refine g_pure (c' := (12, [(0, .ref l0)], [.ref l0], (jE0, M))) 1 rfl ?_
      refine g_gp rfl rfl rfl pl0 (jp_ok (kd := 8) pl0 (by decide) (by decide) rfl rfl).1 ?_
      refine g_pure (c' := (16, [(0, .ref l0)], [.ref l0, .ref (jpt l0 3)], (jE0, M))) 1 rfl ?_
      refine g_gf (ci := 7) (k := 17) rfl rfl rfl pl0 ?_
      refine g_ia rfl (jk_ok (kd := 8) pl0 (by decide) (by decide) rfl rfl) (fun v2 => ?_)
      refine g_pure (c' := (22, [(0, .ref l0)], [.int (32 : Int32), .int v2], (jE0, M))) 1 rfl ?_
      refine g_ic_ne (tgt := 38) rfl rfl (fun q3 => ?_) (fun q3 => ?_)
      · refine g_pure (c' := (27, [(0, .ref l0)], [.ref l0, .ref l0], (jE0, M))) 2 rfl ?_
        refine g_gf (ci := 7) (k := 17) rfl rfl rfl pl0 ?_
        refine g_pure (c' := (32, [(0, .ref l0)], [.int ((M l0 17) + (1 : Int32)), .ref l0], (jE0, M))) 2 rfl ?_
        refine g_pf (ci := 7) (k := 17) rfl rfl rfl rfl pl0 (fun M4 => ?_)
        refine g_pure (c' := (0, [(0, .ref l0)], [], (jE0, M4))) 1 rfl ?_
        exact ((c131_0 n) l0 M4 pl0)
      · exact (c131_38 l0 M pl0)
    · exact (c131_38 l0 M pl0)
/-- CometKinModel.token -/
def f131  (l0 : Nat) (M : JM) : Option JM := (f131_0 1000 l0 M)
set_option maxRecDepth 100000 in
theorem c131 {xs : Option (List Int32)} (l0 : Nat) (M : JM) (pl0 : jok jE0 l0 7 = true) : JG xs 1 131 (f131 l0 M) (fun x r => r = (none, (jE0, x))) (0, [(0, .ref l0)], [], (jE0, M)) := by
    unfold f131
    exact (c131_0 1000 l0 M pl0)
def f132_77 (M : JM) (h23 : Nat → Int32 → Int32 → Int32 → Int32 → Int32 → Option Int32) (l0 : Nat) (l1 : Int32) (l2 : Int32) (l3 : Int32) (l5 : Int32) (s0 : Int32) : Option Int32 := (h23 l0 l1 l2 l3 s0 (l5 + (1 : Int32)))
set_option maxRecDepth 100000 in
theorem c132_77 {xs : Option (List Int32)} {M : JM} (h23 : Nat → Int32 → Int32 → Int32 → Int32 → Int32 → Option Int32) (H23 : ∀ (l0 : Nat) (l1 : Int32) (l2 : Int32) (l3 : Int32) (l4 : Int32) (l5 : Int32) (pl0 : jok jE0 l0 7 = true), JG xs 0 132 (h23 l0 l1 l2 l3 l4 l5) (fun x r => r = (some (.int x), (jE0, M))) (23, [(0, .ref l0), (1, .int l1), (2, .int l2), (3, .int l3), (4, .int l4), (5, .int l5)], [], (jE0, M))) : ∀ (l0 : Nat) (l1 : Int32) (l2 : Int32) (l3 : Int32) (l5 : Int32) (s0 : Int32) (pl0 : jok jE0 l0 7 = true), JG xs 0 132 (f132_77 M h23 l0 l1 l2 l3 l5 s0) (fun x r => r = (some (.int x), (jE0, M))) (77, [(0, .ref l0), (1, .int l1), (2, .int l2), (3, .int l3), (5, .int l5)], [.int s0], (jE0, M)) := by
    intro l0 l1 l2 l3 l5 s0 pl0
    unfold f132_77
    refine g_pure (c' := (23, [(5, .int (l5 + (1 : Int32))), (4, .int s0), (0, .ref l0), (1, .int l1), (2, .int l2), (3, .int l3)], [], (jE0, M))) 3 rfl ?_
    refine g_weakk (lv := [(0, .ref l0), (1, .int l1), (2, .int l2), (3, .int l3), (4, .int s0), (5, .int (l5 + (1 : Int32)))]) ⟨rfl, rfl, rfl, rfl, rfl, rfl, trivial⟩ [0, 1, 2, 3, 4, 5] rfl (by decide) [5, 4, 0, 1, 2, 3] rfl (by decide) ?_
    exact (H23 l0 l1 l2 l3 s0 (l5 + (1 : Int32)) pl0)
def f132_68 (M : JM) (h23 : Nat → Int32 → Int32 → Int32 → Int32 → Int32 → Option Int32) (l0 : Nat) (l1 : Int32) (l2 : Int32) (l3 : Int32) (l5 : Int32) (s0 : Int32) (s1 : Int32) (s2 : Int32) : Option Int32 := (if s2 = (s1 + s0) then (f132_77 M h23 l0 l1 l2 l3 l5 (1 : Int32)) else (f132_77 M h23 l0 l1 l2 l3 l5 (0 : Int32)))
set_option maxRecDepth 100000 in
theorem c132_68 {xs : Option (List Int32)} {M : JM} (h23 : Nat → Int32 → Int32 → Int32 → Int32 → Int32 → Option Int32) (H23 : ∀ (l0 : Nat) (l1 : Int32) (l2 : Int32) (l3 : Int32) (l4 : Int32) (l5 : Int32) (pl0 : jok jE0 l0 7 = true), JG xs 0 132 (h23 l0 l1 l2 l3 l4 l5) (fun x r => r = (some (.int x), (jE0, M))) (23, [(0, .ref l0), (1, .int l1), (2, .int l2), (3, .int l3), (4, .int l4), (5, .int l5)], [], (jE0, M))) : ∀ (l0 : Nat) (l1 : Int32) (l2 : Int32) (l3 : Int32) (l5 : Int32) (s0 : Int32) (s1 : Int32) (s2 : Int32) (pl0 : jok jE0 l0 7 = true), JG xs 0 132 (f132_68 M h23 l0 l1 l2 l3 l5 s0 s1 s2) (fun x r => r = (some (.int x), (jE0, M))) (68, [(0, .ref l0), (1, .int l1), (2, .int l2), (3, .int l3), (5, .int l5)], [.int s0, .int s1, .int s2], (jE0, M)) := by
    intro l0 l1 l2 l3 l5 s0 s1 s2 pl0
    unfold f132_68
    refine g_pure (c' := (69, [(0, .ref l0), (1, .int l1), (2, .int l2), (3, .int l3), (5, .int l5)], [.int (s1 + s0), .int s2], (jE0, M))) 1 rfl ?_
    refine g_ic_ne (tgt := 76) rfl rfl (fun q6 => ?_) (fun q6 => ?_)
    · refine g_pure (c' := (77, [(0, .ref l0), (1, .int l1), (2, .int l2), (3, .int l3), (5, .int l5)], [.int (1 : Int32)], (jE0, M))) 2 rfl ?_
      exact (c132_77 h23 H23 l0 l1 l2 l3 l5 (1 : Int32) pl0)
    · refine g_pure (c' := (77, [(0, .ref l0), (1, .int l1), (2, .int l2), (3, .int l3), (5, .int l5)], [.int (0 : Int32)], (jE0, M))) 1 rfl ?_
      exact (c132_77 h23 H23 l0 l1 l2 l3 l5 (0 : Int32) pl0)
def f132_23 (M : JM) : Nat → Nat → Int32 → Int32 → Int32 → Int32 → Int32 → Option Int32
  | 0, _, _, _, _, _, _ => none
  | n + 1, l0, l1, l2, l3, l4, l5 => (if l4 = (0 : Int32) then (jbo 132 l4) else (if l5 < l2 then ((jla (jpt l0 3) ((M l0 18) + l5) M).bind fun v4 => (if l5 < (6 : Int32) then (f132_68 M (f132_23 M n) l0 l1 l2 l3 l5 ((l1 >>> (((5 : Int32) * l5) &&& (31 : Int32))) &&& (31 : Int32)) (96 : Int32) v4) else (f132_68 M (f132_23 M n) l0 l1 l2 l3 l5 l3 (96 : Int32) v4))) else (jbo 132 l4)))
set_option maxRecDepth 100000 in
theorem c132_23 {xs : Option (List Int32)} {M : JM} : ∀ (n : Nat) (l0 : Nat) (l1 : Int32) (l2 : Int32) (l3 : Int32) (l4 : Int32) (l5 : Int32) (pl0 : jok jE0 l0 7 = true), JG xs 0 132 (f132_23 M n l0 l1 l2 l3 l4 l5) (fun x r => r = (some (.int x), (jE0, M))) (23, [(0, .ref l0), (1, .int l1), (2, .int l2), (3, .int l3), (4, .int l4), (5, .int l5)], [], (jE0, M))
  | 0, _, _, _, _, _, _, _ => by rw [f132_23]; exact g_none
  | n + 1, l0, l1, l2, l3, l4, l5, pl0 => by
    rw [f132_23]
    refine g_pure (c' := (25, [(0, .ref l0), (1, .int l1), (2, .int l2), (3, .int l3), (4, .int l4), (5, .int l5)], [.int l4], (jE0, M))) 1 rfl ?_
    refine g_if_eq (tgt := 85) rfl rfl (fun q2 => ?_) (fun q2 => ?_)
    · refine g_pure (c' := (87, [(0, .ref l0), (1, .int l1), (2, .int l2), (3, .int l3), (4, .int l4), (5, .int l5)], [.int l4], (jE0, M))) 1 rfl ?_
      exact g_rn rfl (fun _ _ h => h)
    · refine g_pure (c' := (31, [(0, .ref l0), (1, .int l1), (2, .int l2), (3, .int l3), (4, .int l4), (5, .int l5)], [.int l2, .int l5], (jE0, M))) 2 rfl ?_
      refine g_ic_ge (tgt := 85) rfl rfl (fun q3 => ?_) (fun q3 => ?_)
      · refine g_pure (c' := (35, [(0, .ref l0), (1, .int l1), (2, .int l2), (3, .int l3), (4, .int l4), (5, .int l5)], [.ref l0], (jE0, M))) 1 rfl ?_
        refine g_gp rfl rfl rfl pl0 (jp_ok (kd := 8) pl0 (by decide) (by decide) rfl rfl).1 ?_
        refine g_pure (c' := (39, [(0, .ref l0), (1, .int l1), (2, .int l2), (3, .int l3), (4, .int l4), (5, .int l5)], [.ref l0, .ref (jpt l0 3)], (jE0, M))) 1 rfl ?_
        refine g_gf (ci := 7) (k := 18) rfl rfl rfl pl0 ?_
        refine g_pure (c' := (45, [(0, .ref l0), (1, .int l1), (2, .int l2), (3, .int l3), (4, .int l4), (5, .int l5)], [.int ((M l0 18) + l5), .ref (jpt l0 3)], (jE0, M))) 2 rfl ?_
        refine g_ia rfl (jk_ok (kd := 8) pl0 (by decide) (by decide) rfl rfl) (fun v4 => ?_)
        refine g_pure (c' := (52, [(0, .ref l0), (1, .int l1), (2, .int l2), (3, .int l3), (4, .int l4), (5, .int l5)], [.int (6 : Int32), .int l5, .int (96 : Int32), .int v4], (jE0, M))) 3 rfl ?_
        refine g_ic_ge (tgt := 67) rfl rfl (fun q5 => ?_) (fun q5 => ?_)
        · refine g_pure (c' := (68, [(0, .ref l0), (1, .int l1), (2, .int l2), (3, .int l3), (4, .int l4), (5, .int l5)], [.int ((l1 >>> (((5 : Int32) * l5) &&& (31 : Int32))) &&& (31 : Int32)), .int (96 : Int32), .int v4], (jE0, M))) 8 rfl ?_
          refine g_weakk (lv := [(0, .ref l0), (1, .int l1), (2, .int l2), (3, .int l3), (5, .int l5)]) ⟨rfl, rfl, rfl, rfl, rfl, trivial⟩ [0, 1, 2, 3, 5] rfl (by decide) [0, 1, 2, 3, 4, 5] rfl (by decide) ?_
          exact (c132_68 (f132_23 M n) (c132_23 n) l0 l1 l2 l3 l5 ((l1 >>> (((5 : Int32) * l5) &&& (31 : Int32))) &&& (31 : Int32)) (96 : Int32) v4 pl0)
        · refine g_pure (c' := (68, [(0, .ref l0), (1, .int l1), (2, .int l2), (3, .int l3), (4, .int l4), (5, .int l5)], [.int l3, .int (96 : Int32), .int v4], (jE0, M))) 1 rfl ?_
          refine g_weakk (lv := [(0, .ref l0), (1, .int l1), (2, .int l2), (3, .int l3), (5, .int l5)]) ⟨rfl, rfl, rfl, rfl, rfl, trivial⟩ [0, 1, 2, 3, 5] rfl (by decide) [0, 1, 2, 3, 4, 5] rfl (by decide) ?_
          exact (c132_68 (f132_23 M n) (c132_23 n) l0 l1 l2 l3 l5 l3 (96 : Int32) v4 pl0)
      · refine g_pure (c' := (87, [(0, .ref l0), (1, .int l1), (2, .int l2), (3, .int l3), (4, .int l4), (5, .int l5)], [.int l4], (jE0, M))) 1 rfl ?_
        exact g_rn rfl (fun _ _ h => h)
def f132_18 (M : JM) (l0 : Nat) (l1 : Int32) (l2 : Int32) (l3 : Int32) (s0 : Int32) : Option Int32 := (f132_23 M 1000 l0 l1 l2 l3 s0 (0 : Int32))
set_option maxRecDepth 100000 in
theorem c132_18 {xs : Option (List Int32)} {M : JM} : ∀ (l0 : Nat) (l1 : Int32) (l2 : Int32) (l3 : Int32) (s0 : Int32) (pl0 : jok jE0 l0 7 = true), JG xs 0 132 (f132_18 M l0 l1 l2 l3 s0) (fun x r => r = (some (.int x), (jE0, M))) (18, [(0, .ref l0), (1, .int l1), (2, .int l2), (3, .int l3)], [.int s0], (jE0, M)) := by
    intro l0 l1 l2 l3 s0 pl0
    unfold f132_18
    refine g_pure (c' := (23, [(5, .int (0 : Int32)), (4, .int s0), (0, .ref l0), (1, .int l1), (2, .int l2), (3, .int l3)], [], (jE0, M))) 3 rfl ?_
    refine g_weakk (lv := [(0, .ref l0), (1, .int l1), (2, .int l2), (3, .int l3), (4, .int s0), (5, .int (0 : Int32))]) ⟨rfl, rfl, rfl, rfl, rfl, rfl, trivial⟩ [0, 1, 2, 3, 4, 5] rfl (by decide) [5, 4, 0, 1, 2, 3] rfl (by decide) ?_
    exact (c132_23 1000 l0 l1 l2 l3 s0 (0 : Int32) pl0)
/-- CometKinModel.isWord -/
def f132 (M : JM) (l0 : Nat) (l1 : Int32) (l2 : Int32) (l3 : Int32) : Option Int32 := (if ((M l0 19) - (M l0 18)) = l2 then (f132_18 M l0 l1 l2 l3 (1 : Int32)) else (f132_18 M l0 l1 l2 l3 (0 : Int32)))
set_option maxRecDepth 100000 in
theorem c132 {xs : Option (List Int32)} {M : JM} (l0 : Nat) (l1 : Int32) (l2 : Int32) (l3 : Int32) (pl0 : jok jE0 l0 7 = true) : JG xs 0 132 (f132 M l0 l1 l2 l3) (fun x r => r = (some (.int x), (jE0, M))) (0, [(0, .ref l0), (1, .int l1), (2, .int l2), (3, .int l3)], [], (jE0, M)) := by
    unfold f132
    refine g_pure (c' := (1, [(0, .ref l0), (1, .int l1), (2, .int l2), (3, .int l3)], [.ref l0], (jE0, M))) 1 rfl ?_
    refine g_gf (ci := 7) (k := 19) rfl rfl rfl pl0 ?_
    refine g_pure (c' := (5, [(0, .ref l0), (1, .int l1), (2, .int l2), (3, .int l3)], [.ref l0, .int (M l0 19)], (jE0, M))) 1 rfl ?_
    refine g_gf (ci := 7) (k := 18) rfl rfl rfl pl0 ?_
    refine g_pure (c' := (10, [(0, .ref l0), (1, .int l1), (2, .int l2), (3, .int l3)], [.int l2, .int ((M l0 19) - (M l0 18))], (jE0, M))) 2 rfl ?_
    refine g_ic_ne (tgt := 17) rfl rfl (fun q1 => ?_) (fun q1 => ?_)
    · refine g_pure (c' := (18, [(0, .ref l0), (1, .int l1), (2, .int l2), (3, .int l3)], [.int (1 : Int32)], (jE0, M))) 2 rfl ?_
      exact (c132_18 l0 l1 l2 l3 (1 : Int32) pl0)
    · refine g_pure (c' := (18, [(0, .ref l0), (1, .int l1), (2, .int l2), (3, .int l3)], [.int (0 : Int32)], (jE0, M))) 1 rfl ?_
      exact (c132_18 l0 l1 l2 l3 (0 : Int32) pl0)
/-- CometKinModel.cometWord -/
def f133 (M : JM) (l0 : Nat) : Option Int32 := ((f132 M l0 (21149155 : Int32) (5 : Int32) (0 : Int32)).bind fun v1 => (if v1 = (0 : Int32) then ((f132 M l0 (4898179 : Int32) (5 : Int32) (0 : Int32)).bind fun v3 => (if v3 = (0 : Int32) then ((f132 M l0 (12125715 : Int32) (5 : Int32) (0 : Int32)).bind fun v5 => (if v5 = (0 : Int32) then ((f132 M l0 (654618725 : Int32) (7 : Int32) (5 : Int32)).bind fun v7 => (if v7 = (0 : Int32) then (some (-1 : Int32)) else (some (4 : Int32)))) else (some (3 : Int32)))) else (some (2 : Int32)))) else (some (1 : Int32))))
set_option maxRecDepth 100000 in
theorem c133 {xs : Option (List Int32)} {M : JM} (l0 : Nat) (pl0 : jok jE0 l0 7 = true) : JG xs 1 133 (f133 M l0) (fun x r => r = (some (.int x), (jE0, M))) (0, [(0, .ref l0)], [], (jE0, M)) := by
    unfold f133
    refine g_pure (c' := (5, [(0, .ref l0)], [.int (0 : Int32), .int (5 : Int32), .int (21149155 : Int32), .ref l0], (jE0, M))) 4 rfl ?_
    refine g_cI rfl (jc_v rfl rfl (jv_o pl0 rfl) rfl) (c132 l0 (21149155 : Int32) (5 : Int32) (0 : Int32) pl0) (by decide) (fun v1 qv1 => ?_)
    refine g_if_eq (tgt := 15) rfl rfl (fun q2 => ?_) (fun q2 => ?_)
    · refine g_pure (c' := (20, [(0, .ref l0)], [.int (0 : Int32), .int (5 : Int32), .int (4898179 : Int32), .ref l0], (jE0, M))) 4 rfl ?_
      refine g_cI rfl (jc_v rfl rfl (jv_o pl0 rfl) rfl) (c132 l0 (4898179 : Int32) (5 : Int32) (0 : Int32) pl0) (by decide) (fun v3 qv3 => ?_)
      refine g_if_eq (tgt := 30) rfl rfl (fun q4 => ?_) (fun q4 => ?_)
      · refine g_pure (c' := (35, [(0, .ref l0)], [.int (0 : Int32), .int (5 : Int32), .int (12125715 : Int32), .ref l0], (jE0, M))) 4 rfl ?_
        refine g_cI rfl (jc_v rfl rfl (jv_o pl0 rfl) rfl) (c132 l0 (12125715 : Int32) (5 : Int32) (0 : Int32) pl0) (by decide) (fun v5 qv5 => ?_)
        refine g_if_eq (tgt := 45) rfl rfl (fun q6 => ?_) (fun q6 => ?_)
        · refine g_pure (c' := (51, [(0, .ref l0)], [.int (5 : Int32), .int (7 : Int32), .int (654618725 : Int32), .ref l0], (jE0, M))) 4 rfl ?_
          refine g_cI rfl (jc_v rfl rfl (jv_o pl0 rfl) rfl) (c132 l0 (654618725 : Int32) (7 : Int32) (5 : Int32) pl0) (by decide) (fun v7 qv7 => ?_)
          refine g_if_eq (tgt := 61) rfl rfl (fun q8 => ?_) (fun q8 => ?_)
          · refine g_pure (c' := (62, [(0, .ref l0)], [.int (-1 : Int32)], (jE0, M))) 1 rfl ?_
            exact g_ret rfl rfl (fun _ h => h)
          · refine g_pure (c' := (62, [(0, .ref l0)], [.int (4 : Int32)], (jE0, M))) 2 rfl ?_
            exact g_ret rfl rfl (fun _ h => h)
        · refine g_pure (c' := (62, [(0, .ref l0)], [.int (3 : Int32)], (jE0, M))) 2 rfl ?_
          exact g_ret rfl rfl (fun _ h => h)
      · refine g_pure (c' := (62, [(0, .ref l0)], [.int (2 : Int32)], (jE0, M))) 2 rfl ?_
        exact g_ret rfl rfl (fun _ h => h)
    · refine g_pure (c' := (62, [(0, .ref l0)], [.int (1 : Int32)], (jE0, M))) 2 rfl ?_
      exact g_ret rfl rfl (fun _ h => h)
/-- CometKinModel.folkWord -/
def f134 (M : JM) (l0 : Nat) : Option Int32 := ((f132 M l0 (4596995 : Int32) (5 : Int32) (0 : Int32)).bind fun v1 => (if v1 = (0 : Int32) then ((f132 M l0 (595123 : Int32) (4 : Int32) (0 : Int32)).bind fun v3 => (if v3 = (0 : Int32) then ((f132 M l0 (24613175 : Int32) (5 : Int32) (0 : Int32)).bind fun v5 => (if v5 = (0 : Int32) then (some (-1 : Int32)) else (some (7 : Int32)))) else (some (6 : Int32)))) else (some (5 : Int32))))
set_option maxRecDepth 100000 in
theorem c134 {xs : Option (List Int32)} {M : JM} (l0 : Nat) (pl0 : jok jE0 l0 7 = true) : JG xs 1 134 (f134 M l0) (fun x r => r = (some (.int x), (jE0, M))) (0, [(0, .ref l0)], [], (jE0, M)) := by
    unfold f134
    refine g_pure (c' := (5, [(0, .ref l0)], [.int (0 : Int32), .int (5 : Int32), .int (4596995 : Int32), .ref l0], (jE0, M))) 4 rfl ?_
    refine g_cI rfl (jc_v rfl rfl (jv_o pl0 rfl) rfl) (c132 l0 (4596995 : Int32) (5 : Int32) (0 : Int32) pl0) (by decide) (fun v1 qv1 => ?_)
    refine g_if_eq (tgt := 15) rfl rfl (fun q2 => ?_) (fun q2 => ?_)
    · refine g_pure (c' := (20, [(0, .ref l0)], [.int (0 : Int32), .int (4 : Int32), .int (595123 : Int32), .ref l0], (jE0, M))) 4 rfl ?_
      refine g_cI rfl (jc_v rfl rfl (jv_o pl0 rfl) rfl) (c132 l0 (595123 : Int32) (4 : Int32) (0 : Int32) pl0) (by decide) (fun v3 qv3 => ?_)
      refine g_if_eq (tgt := 31) rfl rfl (fun q4 => ?_) (fun q4 => ?_)
      · refine g_pure (c' := (36, [(0, .ref l0)], [.int (0 : Int32), .int (5 : Int32), .int (24613175 : Int32), .ref l0], (jE0, M))) 4 rfl ?_
        refine g_cI rfl (jc_v rfl rfl (jv_o pl0 rfl) rfl) (c132 l0 (24613175 : Int32) (5 : Int32) (0 : Int32) pl0) (by decide) (fun v5 qv5 => ?_)
        refine g_if_eq (tgt := 47) rfl rfl (fun q6 => ?_) (fun q6 => ?_)
        · refine g_pure (c' := (48, [(0, .ref l0)], [.int (-1 : Int32)], (jE0, M))) 1 rfl ?_
          exact g_ret rfl rfl (fun _ h => h)
        · refine g_pure (c' := (48, [(0, .ref l0)], [.int (7 : Int32)], (jE0, M))) 2 rfl ?_
          exact g_ret rfl rfl (fun _ h => h)
      · refine g_pure (c' := (48, [(0, .ref l0)], [.int (6 : Int32)], (jE0, M))) 2 rfl ?_
        exact g_ret rfl rfl (fun _ h => h)
    · refine g_pure (c' := (48, [(0, .ref l0)], [.int (5 : Int32)], (jE0, M))) 2 rfl ?_
      exact g_ret rfl rfl (fun _ h => h)
def f135_19 (M : JM) (l0 : Nat) (s0 : Int32) : Option Int32 := (if s0 = (-1 : Int32) then ((f132 M l0 (145452 : Int32) (4 : Int32) (0 : Int32)).bind fun v5 => (if v5 = (0 : Int32) then ((f132 M l0 (207 : Int32) (2 : Int32) (0 : Int32)).bind fun v7 => (if v7 = (0 : Int32) then ((f132 M l0 (500 : Int32) (2 : Int32) (0 : Int32)).bind fun v9 => (if v9 = (0 : Int32) then ((f132 M l0 (143847 : Int32) (4 : Int32) (0 : Int32)).bind fun v11 => (if v11 = (0 : Int32) then ((f132 M l0 (23596 : Int32) (3 : Int32) (0 : Int32)).bind fun v13 => (if v13 = (0 : Int32) then ((f132 M l0 (378916 : Int32) (4 : Int32) (0 : Int32)).bind fun v15 => (if v15 = (0 : Int32) then (some (-1 : Int32)) else (some (12 : Int32)))) else (some (11 : Int32)))) else (some (10 : Int32)))) else (some (9 : Int32)))) else (some (8 : Int32)))) else (some (0 : Int32)))) else (some s0))
set_option maxRecDepth 100000 in
theorem c135_19 {xs : Option (List Int32)} {M : JM} : ∀ (l0 : Nat) (s0 : Int32) (pl0 : jok jE0 l0 7 = true), JG xs 2 135 (f135_19 M l0 s0) (fun x r => r = (some (.int x), (jE0, M))) (19, [(0, .ref l0)], [.int s0], (jE0, M)) := by
    intro l0 s0 pl0
    unfold f135_19
    refine g_pure (c' := (22, [(1, .int s0), (0, .ref l0)], [.int (-1 : Int32), .int s0], (jE0, M))) 3 rfl ?_
    refine g_ic_eq (tgt := 29) rfl rfl (fun q4 => ?_) (fun q4 => ?_)
    · refine g_pure (c' := (34, [(1, .int s0), (0, .ref l0)], [.int (0 : Int32), .int (4 : Int32), .int (145452 : Int32), .ref l0], (jE0, M))) 4 rfl ?_
      refine g_cI rfl (jc_v rfl rfl (jv_o pl0 rfl) rfl) (c132 l0 (145452 : Int32) (4 : Int32) (0 : Int32) pl0) (by decide) (fun v5 qv5 => ?_)
      refine g_if_eq (tgt := 44) rfl rfl (fun q6 => ?_) (fun q6 => ?_)
      · refine g_pure (c' := (50, [(1, .int s0), (0, .ref l0)], [.int (0 : Int32), .int (2 : Int32), .int (207 : Int32), .ref l0], (jE0, M))) 4 rfl ?_
        refine g_cI rfl (jc_v rfl rfl (jv_o pl0 rfl) rfl) (c132 l0 (207 : Int32) (2 : Int32) (0 : Int32) pl0) (by decide) (fun v7 qv7 => ?_)
        refine g_if_eq (tgt := 61) rfl rfl (fun q8 => ?_) (fun q8 => ?_)
        · refine g_pure (c' := (67, [(1, .int s0), (0, .ref l0)], [.int (0 : Int32), .int (2 : Int32), .int (500 : Int32), .ref l0], (jE0, M))) 4 rfl ?_
          refine g_cI rfl (jc_v rfl rfl (jv_o pl0 rfl) rfl) (c132 l0 (500 : Int32) (2 : Int32) (0 : Int32) pl0) (by decide) (fun v9 qv9 => ?_)
          refine g_if_eq (tgt := 78) rfl rfl (fun q10 => ?_) (fun q10 => ?_)
          · refine g_pure (c' := (83, [(1, .int s0), (0, .ref l0)], [.int (0 : Int32), .int (4 : Int32), .int (143847 : Int32), .ref l0], (jE0, M))) 4 rfl ?_
            refine g_cI rfl (jc_v rfl rfl (jv_o pl0 rfl) rfl) (c132 l0 (143847 : Int32) (4 : Int32) (0 : Int32) pl0) (by decide) (fun v11 qv11 => ?_)
            refine g_if_eq (tgt := 94) rfl rfl (fun q12 => ?_) (fun q12 => ?_)
            · refine g_pure (c' := (100, [(1, .int s0), (0, .ref l0)], [.int (0 : Int32), .int (3 : Int32), .int (23596 : Int32), .ref l0], (jE0, M))) 4 rfl ?_
              refine g_cI rfl (jc_v rfl rfl (jv_o pl0 rfl) rfl) (c132 l0 (23596 : Int32) (3 : Int32) (0 : Int32) pl0) (by decide) (fun v13 qv13 => ?_)
              refine g_if_eq (tgt := 111) rfl rfl (fun q14 => ?_) (fun q14 => ?_)
              · refine g_pure (c' := (116, [(1, .int s0), (0, .ref l0)], [.int (0 : Int32), .int (4 : Int32), .int (378916 : Int32), .ref l0], (jE0, M))) 4 rfl ?_
                refine g_cI rfl (jc_v rfl rfl (jv_o pl0 rfl) rfl) (c132 l0 (378916 : Int32) (4 : Int32) (0 : Int32) pl0) (by decide) (fun v15 qv15 => ?_)
                refine g_if_eq (tgt := 127) rfl rfl (fun q16 => ?_) (fun q16 => ?_)
                · refine g_pure (c' := (128, [(1, .int s0), (0, .ref l0)], [.int (-1 : Int32)], (jE0, M))) 1 rfl ?_
                  exact g_ret rfl rfl (fun _ h => h)
                · refine g_pure (c' := (128, [(1, .int s0), (0, .ref l0)], [.int (12 : Int32)], (jE0, M))) 2 rfl ?_
                  exact g_ret rfl rfl (fun _ h => h)
              · refine g_pure (c' := (128, [(1, .int s0), (0, .ref l0)], [.int (11 : Int32)], (jE0, M))) 2 rfl ?_
                exact g_ret rfl rfl (fun _ h => h)
            · refine g_pure (c' := (128, [(1, .int s0), (0, .ref l0)], [.int (10 : Int32)], (jE0, M))) 2 rfl ?_
              exact g_ret rfl rfl (fun _ h => h)
          · refine g_pure (c' := (128, [(1, .int s0), (0, .ref l0)], [.int (9 : Int32)], (jE0, M))) 2 rfl ?_
            exact g_ret rfl rfl (fun _ h => h)
        · refine g_pure (c' := (128, [(1, .int s0), (0, .ref l0)], [.int (8 : Int32)], (jE0, M))) 2 rfl ?_
          exact g_ret rfl rfl (fun _ h => h)
      · refine g_pure (c' := (128, [(1, .int s0), (0, .ref l0)], [.int (0 : Int32)], (jE0, M))) 2 rfl ?_
        exact g_ret rfl rfl (fun _ h => h)
    · refine g_pure (c' := (128, [(1, .int s0), (0, .ref l0)], [.int s0], (jE0, M))) 2 rfl ?_
      exact g_ret rfl rfl (fun _ h => h)
/-- CometKinModel.wordOf -/
def f135 (M : JM) (l0 : Nat) : Option Int32 := ((f133 M l0).bind fun v1 => (if v1 = (-1 : Int32) then ((f134 M l0).bind fun v3 => (f135_19 M l0 v3)) else ((f133 M l0).bind fun v17 => (f135_19 M l0 v17))))
set_option maxRecDepth 100000 in
theorem c135 {xs : Option (List Int32)} {M : JM} (l0 : Nat) (pl0 : jok jE0 l0 7 = true) : JG xs 2 135 (f135 M l0) (fun x r => r = (some (.int x), (jE0, M))) (0, [(0, .ref l0)], [], (jE0, M)) := by
    unfold f135
    refine g_pure (c' := (1, [(0, .ref l0)], [.ref l0], (jE0, M))) 1 rfl ?_
    refine g_cI rfl (jc_v rfl rfl (jv_o pl0 rfl) rfl) (c133 l0 pl0) (by decide) (fun v1 qv1 => ?_)
    refine g_pure (c' := (5, [(0, .ref l0)], [.int (-1 : Int32), .int v1], (jE0, M))) 1 rfl ?_
    refine g_ic_eq (tgt := 15) rfl rfl (fun q2 => ?_) (fun q2 => ?_)
    · refine g_pure (c' := (16, [(0, .ref l0)], [.ref l0], (jE0, M))) 1 rfl ?_
      refine g_cI rfl (jc_v rfl rfl (jv_o pl0 rfl) rfl) (c134 l0 pl0) (by decide) (fun v3 qv3 => ?_)
      exact (c135_19 l0 v3 pl0)
    · refine g_pure (c' := (9, [(0, .ref l0)], [.ref l0], (jE0, M))) 1 rfl ?_
      refine g_cI rfl (jc_v rfl rfl (jv_o pl0 rfl) rfl) (c133 l0 pl0) (by decide) (fun v17 qv17 => ?_)
      refine g_pure (c' := (19, [(0, .ref l0)], [.int v17], (jE0, M))) 1 rfl ?_
      exact (c135_19 l0 v17 pl0)
/-- CometKinModel.isFolkWord -/
def f138  (l0 : Int32) : Option Int32 := ((f125 ((l0).toInt64) (5 : Int64) (7 : Int64)).bind fun v1 => (jbo 138 v1))
set_option maxRecDepth 100000 in
theorem c138 {xs : Option (List Int32)} {M : JM} (l0 : Int32) : JG xs 1 138 (f138 l0) (fun x r => r = (some (.int x), (jE0, M))) (0, [(0, .int l0)], [], (jE0, M)) := by
    unfold f138
    refine g_pure (c' := (8, [(0, .int l0)], [.long (7 : Int64), .long (5 : Int64), .long ((l0).toInt64)], (jE0, M))) 4 rfl ?_
    refine g_cI rfl (jc_s rfl rfl) (c125 ((l0).toInt64) (5 : Int64) (7 : Int64)) (by decide) (fun v1 qv1 => ?_)
    exact g_rn rfl (fun _ _ h => h)
/-- CometKinModel.isCometWord -/
def f137  (l0 : Int32) : Option Int32 := ((f125 ((l0).toInt64) (1 : Int64) (4 : Int64)).bind fun v1 => (jbo 137 v1))
set_option maxRecDepth 100000 in
theorem c137 {xs : Option (List Int32)} {M : JM} (l0 : Int32) : JG xs 1 137 (f137 l0) (fun x r => r = (some (.int x), (jE0, M))) (0, [(0, .int l0)], [], (jE0, M)) := by
    unfold f137
    refine g_pure (c' := (6, [(0, .int l0)], [.long (4 : Int64), .long (1 : Int64), .long ((l0).toInt64)], (jE0, M))) 4 rfl ?_
    refine g_cI rfl (jc_s rfl rfl) (c125 ((l0).toInt64) (1 : Int64) (4 : Int64)) (by decide) (fun v1 qv1 => ?_)
    exact g_rn rfl (fun _ _ h => h)
def f136_51  : Nat → Nat → Int32 → Int32 → Int32 → Int32 → Int32 → JM → Option (Int32 × JM)
  | 0, _, _, _, _, _, _, _ => none
  | n + 1, l0, l1, l2, l3, l4, l5, M => (if l5 < (M l0 19) then ((jla (jpt l0 3) l5 M).bind fun v7 => ((f136_51 n) l0 l1 l2 l3 ((((10 : Int32) * l4) + v7) - (48 : Int32)) (l5 + (1 : Int32)) M)) else (if l2 < l4 then (some ((0 : Int32), M)) else (if l4 = l3 then (some ((0 : Int32), M)) else ((jsa (jpt l0 5) ((((4 : Int32) * (M l0 6)) + (1 : Int32)) + l1) l4 M).bind fun M10 => ((f131 l0 M10).bind fun M11 => (some ((1 : Int32), M11)))))))
set_option maxRecDepth 100000 in
theorem c136_51 {xs : Option (List Int32)} : ∀ (n : Nat) (l0 : Nat) (l1 : Int32) (l2 : Int32) (l3 : Int32) (l4 : Int32) (l5 : Int32) (M : JM) (pl0 : jok jE0 l0 7 = true), JG xs 2 136 (f136_51 n l0 l1 l2 l3 l4 l5 M) (fun x r => r = (some (.int x.1), (jE0, x.2))) (51, [(0, .ref l0), (1, .int l1), (2, .int l2), (3, .int l3), (4, .int l4), (5, .int l5)], [], (jE0, M))
  | 0, _, _, _, _, _, _, _, _ => by rw [f136_51]; exact g_none
  | n + 1, l0, l1, l2, l3, l4, l5, M, pl0 => by
    rw [f136_51]
    refine g_pure (c' := (54, [(0, .ref l0), (1, .int l1), (2, .int l2), (3, .int l3), (4, .int l4), (5, .int l5)], [.ref l0, .int l5], (jE0, M))) 2 rfl ?_
    refine g_gf (ci := 7) (k := 19) rfl rfl rfl pl0 ?_
    refine g_ic_ge (tgt := 84) rfl rfl (fun q6 => ?_) (fun q6 => ?_)
    · refine g_pure (c' := (66, [(0, .ref l0), (1, .int l1), (2, .int l2), (3, .int l3), (4, .int l4), (5, .int l5)], [.ref l0, .int ((10 : Int32) * l4)], (jE0, M))) 4 rfl ?_
      refine g_gp rfl rfl rfl pl0 (jp_ok (kd := 8) pl0 (by decide) (by decide) rfl rfl).1 ?_
      refine g_pure (c' := (71, [(0, .ref l0), (1, .int l1), (2, .int l2), (3, .int l3), (4, .int l4), (5, .int l5)], [.int l5, .ref (jpt l0 3), .int ((10 : Int32) * l4)], (jE0, M))) 1 rfl ?_
      refine g_ia rfl (jk_ok (kd := 8) pl0 (by decide) (by decide) rfl rfl) (fun v7 => ?_)
      refine g_pure (c' := (51, [(5, .int (l5 + (1 : Int32))), (4, .int ((((10 : Int32) * l4) + v7) - (48 : Int32))), (0, .ref l0), (1, .int l1), (2, .int l2), (3, .int l3)], [], (jE0, M))) 6 rfl ?_
      refine g_weakk (lv := [(0, .ref l0), (1, .int l1), (2, .int l2), (3, .int l3), (4, .int ((((10 : Int32) * l4) + v7) - (48 : Int32))), (5, .int (l5 + (1 : Int32)))]) ⟨rfl, rfl, rfl, rfl, rfl, rfl, trivial⟩ [0, 1, 2, 3, 4, 5] rfl (by decide) [5, 4, 0, 1, 2, 3] rfl (by decide) ?_
      exact ((c136_51 n) l0 l1 l2 l3 ((((10 : Int32) * l4) + v7) - (48 : Int32)) (l5 + (1 : Int32)) M pl0)
    · refine g_pure (c' := (87, [(0, .ref l0), (1, .int l1), (2, .int l2), (3, .int l3), (4, .int l4), (5, .int l5)], [.int l2, .int l4], (jE0, M))) 2 rfl ?_
      refine g_ic_gt (tgt := 96) rfl rfl (fun q8 => ?_) (fun q8 => ?_)
      · refine g_pure (c' := (97, [(0, .ref l0), (1, .int l1), (2, .int l2), (3, .int l3), (4, .int l4), (5, .int l5)], [.int (0 : Int32)], (jE0, M))) 1 rfl ?_
        exact g_ret rfl rfl (fun _ h => h)
      · refine g_pure (c' := (93, [(0, .ref l0), (1, .int l1), (2, .int l2), (3, .int l3), (4, .int l4), (5, .int l5)], [.int l3, .int l4], (jE0, M))) 2 rfl ?_
        refine g_ic_ne (tgt := 98) rfl rfl (fun q9 => ?_) (fun q9 => ?_)
        · refine g_pure (c' := (97, [(0, .ref l0), (1, .int l1), (2, .int l2), (3, .int l3), (4, .int l4), (5, .int l5)], [.int (0 : Int32)], (jE0, M))) 1 rfl ?_
          exact g_ret rfl rfl (fun _ h => h)
        · refine g_pure (c' := (99, [(0, .ref l0), (1, .int l1), (2, .int l2), (3, .int l3), (4, .int l4), (5, .int l5)], [.ref l0], (jE0, M))) 1 rfl ?_
          refine g_gp rfl rfl rfl pl0 (jp_ok (kd := 8) pl0 (by decide) (by decide) rfl rfl).1 ?_
          refine g_pure (c' := (104, [(0, .ref l0), (1, .int l1), (2, .int l2), (3, .int l3), (4, .int l4), (5, .int l5)], [.ref l0, .int (4 : Int32), .ref (jpt l0 5)], (jE0, M))) 2 rfl ?_
          refine g_gf (ci := 7) (k := 6) rfl rfl rfl pl0 ?_
          refine g_pure (c' := (114, [(0, .ref l0), (1, .int l1), (2, .int l2), (3, .int l3), (4, .int l4), (5, .int l5)], [.int l4, .int ((((4 : Int32) * (M l0 6)) + (1 : Int32)) + l1), .ref (jpt l0 5)], (jE0, M))) 6 rfl ?_
          refine g_is rfl (jk_ok (kd := 8) pl0 (by decide) (by decide) rfl rfl) (fun M10 => ?_)
          refine g_pure (c' := (116, [(0, .ref l0), (1, .int l1), (2, .int l2), (3, .int l3), (4, .int l4), (5, .int l5)], [.ref l0], (jE0, M10))) 1 rfl ?_
          refine g_wV rfl (jc_v rfl rfl (jv_o pl0 rfl) rfl) (c131 l0 M10 pl0) (by decide) (fun M11 => ?_)
          refine g_pure (c' := (120, [(0, .ref l0), (1, .int l1), (2, .int l2), (3, .int l3), (4, .int l4), (5, .int l5)], [.int (1 : Int32)], (jE0, M11))) 1 rfl ?_
          exact g_ret rfl rfl (fun _ h => h)
/-- CometKinModel.reads -/
def f136  (l0 : Nat) (l1 : Int32) (l2 : Int32) (l3 : Int32) (M : JM) : Option (Int32 × JM) := (if (M l0 18) = (M l0 4) then (some ((0 : Int32), M)) else ((jla (jpt l0 3) (M l0 18) M).bind fun v2 => ((f130 v2).bind fun v3 => (if v3 = (2 : Int32) then (if (2 : Int32) < ((M l0 19) - (M l0 18)) then (some ((0 : Int32), M)) else (f136_51 1000 l0 l1 l2 l3 (0 : Int32) (M l0 18) M)) else (some ((0 : Int32), M))))))
set_option maxRecDepth 100000 in
theorem c136 {xs : Option (List Int32)} (l0 : Nat) (l1 : Int32) (l2 : Int32) (l3 : Int32) (M : JM) (pl0 : jok jE0 l0 7 = true) : JG xs 2 136 (f136 l0 l1 l2 l3 M) (fun x r => r = (some (.int x.1), (jE0, x.2))) (0, [(0, .ref l0), (1, .int l1), (2, .int l2), (3, .int l3)], [], (jE0, M)) := by
    unfold f136
    refine g_pure (c' := (1, [(0, .ref l0), (1, .int l1), (2, .int l2), (3, .int l3)], [.ref l0], (jE0, M))) 1 rfl ?_
    refine g_gf (ci := 7) (k := 18) rfl rfl rfl pl0 ?_
    refine g_pure (c' := (5, [(0, .ref l0), (1, .int l1), (2, .int l2), (3, .int l3)], [.ref l0, .int (M l0 18)], (jE0, M))) 1 rfl ?_
    refine g_gf (ci := 7) (k := 4) rfl rfl rfl pl0 ?_
    refine g_ic_eq (tgt := 40) rfl rfl (fun q1 => ?_) (fun q1 => ?_)
    · refine g_pure (c' := (41, [(0, .ref l0), (1, .int l1), (2, .int l2), (3, .int l3)], [.int (0 : Int32)], (jE0, M))) 1 rfl ?_
      exact g_ret rfl rfl (fun _ h => h)
    · refine g_pure (c' := (12, [(0, .ref l0), (1, .int l1), (2, .int l2), (3, .int l3)], [.ref l0], (jE0, M))) 1 rfl ?_
      refine g_gp rfl rfl rfl pl0 (jp_ok (kd := 8) pl0 (by decide) (by decide) rfl rfl).1 ?_
      refine g_pure (c' := (16, [(0, .ref l0), (1, .int l1), (2, .int l2), (3, .int l3)], [.ref l0, .ref (jpt l0 3)], (jE0, M))) 1 rfl ?_
      refine g_gf (ci := 7) (k := 18) rfl rfl rfl pl0 ?_
      refine g_ia rfl (jk_ok (kd := 8) pl0 (by decide) (by decide) rfl rfl) (fun v2 => ?_)
      refine g_cI rfl (jc_s rfl rfl) (c130 v2) (by decide) (fun v3 qv3 => ?_)
      refine g_pure (c' := (24, [(0, .ref l0), (1, .int l1), (2, .int l2), (3, .int l3)], [.int (2 : Int32), .int v3], (jE0, M))) 1 rfl ?_
      refine g_ic_ne (tgt := 40) rfl rfl (fun q4 => ?_) (fun q4 => ?_)
      · refine g_pure (c' := (28, [(0, .ref l0), (1, .int l1), (2, .int l2), (3, .int l3)], [.ref l0], (jE0, M))) 1 rfl ?_
        refine g_gf (ci := 7) (k := 19) rfl rfl rfl pl0 ?_
        refine g_pure (c' := (32, [(0, .ref l0), (1, .int l1), (2, .int l2), (3, .int l3)], [.ref l0, .int (M l0 19)], (jE0, M))) 1 rfl ?_
        refine g_gf (ci := 7) (k := 18) rfl rfl rfl pl0 ?_
        refine g_pure (c' := (37, [(0, .ref l0), (1, .int l1), (2, .int l2), (3, .int l3)], [.int (2 : Int32), .int ((M l0 19) - (M l0 18))], (jE0, M))) 2 rfl ?_
        refine g_ic_le (tgt := 42) rfl rfl (fun q5 => ?_) (fun q5 => ?_)
        · refine g_pure (c' := (41, [(0, .ref l0), (1, .int l1), (2, .int l2), (3, .int l3)], [.int (0 : Int32)], (jE0, M))) 1 rfl ?_
          exact g_ret rfl rfl (fun _ h => h)
        · refine g_pure (c' := (46, [(4, .int (0 : Int32)), (0, .ref l0), (1, .int l1), (2, .int l2), (3, .int l3)], [.ref l0], (jE0, M))) 3 rfl ?_
          refine g_gf (ci := 7) (k := 18) rfl rfl rfl pl0 ?_
          refine g_pure (c' := (51, [(5, .int (M l0 18)), (4, .int (0 : Int32)), (0, .ref l0), (1, .int l1), (2, .int l2), (3, .int l3)], [], (jE0, M))) 1 rfl ?_
          refine g_weakk (lv := [(0, .ref l0), (1, .int l1), (2, .int l2), (3, .int l3), (4, .int (0 : Int32)), (5, .int (M l0 18))]) ⟨rfl, rfl, rfl, rfl, rfl, rfl, trivial⟩ [0, 1, 2, 3, 4, 5] rfl (by decide) [5, 4, 0, 1, 2, 3] rfl (by decide) ?_
          exact (c136_51 1000 l0 l1 l2 l3 (0 : Int32) (M l0 18) M pl0)
      · refine g_pure (c' := (41, [(0, .ref l0), (1, .int l1), (2, .int l2), (3, .int l3)], [.int (0 : Int32)], (jE0, M))) 1 rfl ?_
        exact g_ret rfl rfl (fun _ h => h)
def f139_14  (l0 : Nat) (M : JM) : Option (Int32 × JM) := ((f136 l0 (0 : Int32) (99 : Int32) (-1 : Int32) M).bind fun z33 => ((jbo 139 z33.1).bind fun u => some (u, z33.2)))
set_option maxRecDepth 100000 in
theorem c139_14 {xs : Option (List Int32)} : ∀ (l0 : Nat) (M : JM) (pl0 : jok jE0 l0 7 = true), JG xs 3 139 (f139_14 l0 M) (fun x r => r = (some (.int x.1), (jE0, x.2))) (14, [(0, .ref l0)], [], (jE0, M)) := by
    intro l0 M pl0
    unfold f139_14
    refine g_pure (c' := (19, [(0, .ref l0)], [.int (-1 : Int32), .int (99 : Int32), .int (0 : Int32), .ref l0], (jE0, M))) 4 rfl ?_
    refine g_wI rfl (jc_v rfl rfl (jv_o pl0 rfl) rfl) (c136 l0 (0 : Int32) (99 : Int32) (-1 : Int32) M pl0) (by decide) (fun v32 M31 qv32 => ?_)
    exact g_rw rfl (fun _ _ h => h)
/-- CometKinModel.readsRest -/
def f139  (l0 : Nat) (l1 : Int32) (M : JM) : Option (Int32 × JM) := ((f137 l1).bind fun v1 => (if v1 = (0 : Int32) then ((f138 l1).bind fun v3 => (if v3 = (0 : Int32) then (if l1 = (11 : Int32) then ((f136 l0 (0 : Int32) (6 : Int32) (-1 : Int32) M).bind fun z8 => ((jbo 139 z8.1).bind fun u => some (u, z8.2))) else (if l1 = (0 : Int32) then (some ((1 : Int32), M)) else (if l1 = (12 : Int32) then (some ((1 : Int32), M)) else ((f136 l0 (0 : Int32) ((M l0 20) - (1 : Int32)) (-1 : Int32) M).bind fun z30 => (if z30.1 = (0 : Int32) then (some ((0 : Int32), z30.2)) else (if l1 = (10 : Int32) then ((f136 l0 (1 : Int32) (99 : Int32) (-1 : Int32) z30.2).bind fun z17 => ((jbo 139 z17.1).bind fun u => some (u, z17.2))) else ((jla (jpt l0 5) (((4 : Int32) * (z30.2 l0 6)) + (1 : Int32)) z30.2).bind fun v18 => ((f136 l0 (1 : Int32) (v18 - (1 : Int32)) (-1 : Int32) z30.2).bind fun z29 => (if z29.1 = (0 : Int32) then (some ((0 : Int32), z29.2)) else (if l1 = (9 : Int32) then (some ((1 : Int32), z29.2)) else ((jla (jpt l0 5) (((4 : Int32) * (z30.2 l0 6)) + (1 : Int32)) z29.2).bind fun v23 => ((jla (jpt l0 5) ((((4 : Int32) * (z30.2 l0 6)) + (1 : Int32)) + (1 : Int32)) z29.2).bind fun v24 => ((f136 l0 (2 : Int32) (v23 - (1 : Int32)) v24 z29.2).bind fun z28 => (if z28.1 = (0 : Int32) then (some ((0 : Int32), z28.2)) else (some ((1 : Int32), z28.2)))))))))))))))) else (f139_14 l0 M))) else (f139_14 l0 M)))
set_option maxRecDepth 100000 in
theorem c139 {xs : Option (List Int32)} (l0 : Nat) (l1 : Int32) (M : JM) (pl0 : jok jE0 l0 7 = true) : JG xs 3 139 (f139 l0 l1 M) (fun x r => r = (some (.int x.1), (jE0, x.2))) (0, [(0, .ref l0), (1, .int l1)], [], (jE0, M)) := by
    unfold f139
    refine g_pure (c' := (1, [(0, .ref l0), (1, .int l1)], [.int l1], (jE0, M))) 1 rfl ?_
    refine g_cI rfl (jc_s rfl rfl) (c137 l1) (by decide) (fun v1 qv1 => ?_)
    refine g_if_ne (tgt := 14) rfl rfl (fun q2 => ?_) (fun q2 => ?_)
    · refine g_pure (c' := (8, [(0, .ref l0), (1, .int l1)], [.int l1], (jE0, M))) 1 rfl ?_
      refine g_cI rfl (jc_s rfl rfl) (c138 l1) (by decide) (fun v3 qv3 => ?_)
      refine g_if_eq (tgt := 23) rfl rfl (fun q4 => ?_) (fun q4 => ?_)
      · refine g_pure (c' := (26, [(0, .ref l0), (1, .int l1)], [.int (11 : Int32), .int l1], (jE0, M))) 2 rfl ?_
        refine g_ic_ne (tgt := 38) rfl rfl (fun q5 => ?_) (fun q5 => ?_)
        · refine g_pure (c' := (34, [(0, .ref l0), (1, .int l1)], [.int (-1 : Int32), .int (6 : Int32), .int (0 : Int32), .ref l0], (jE0, M))) 4 rfl ?_
          refine g_wI rfl (jc_v rfl rfl (jv_o pl0 rfl) rfl) (c136 l0 (0 : Int32) (6 : Int32) (-1 : Int32) M pl0) (by decide) (fun v7 M6 qv7 => ?_)
          exact g_rw rfl (fun _ _ h => h)
        · refine g_pure (c' := (39, [(0, .ref l0), (1, .int l1)], [.int l1], (jE0, M))) 1 rfl ?_
          refine g_if_eq (tgt := 48) rfl rfl (fun q9 => ?_) (fun q9 => ?_)
          · refine g_pure (c' := (49, [(0, .ref l0), (1, .int l1)], [.int (1 : Int32)], (jE0, M))) 1 rfl ?_
            exact g_ret rfl rfl (fun _ h => h)
          · refine g_pure (c' := (45, [(0, .ref l0), (1, .int l1)], [.int (12 : Int32), .int l1], (jE0, M))) 2 rfl ?_
            refine g_ic_ne (tgt := 50) rfl rfl (fun q10 => ?_) (fun q10 => ?_)
            · refine g_pure (c' := (49, [(0, .ref l0), (1, .int l1)], [.int (1 : Int32)], (jE0, M))) 1 rfl ?_
              exact g_ret rfl rfl (fun _ h => h)
            · refine g_pure (c' := (53, [(0, .ref l0), (1, .int l1)], [.ref l0, .int (0 : Int32), .ref l0], (jE0, M))) 3 rfl ?_
              refine g_gf (ci := 7) (k := 20) rfl rfl rfl pl0 ?_
              refine g_pure (c' := (59, [(0, .ref l0), (1, .int l1)], [.int (-1 : Int32), .int ((M l0 20) - (1 : Int32)), .int (0 : Int32), .ref l0], (jE0, M))) 3 rfl ?_
              refine g_wI rfl (jc_v rfl rfl (jv_o pl0 rfl) rfl) (c136 l0 (0 : Int32) ((M l0 20) - (1 : Int32)) (-1 : Int32) M pl0) (by decide) (fun v12 M11 qv12 => ?_)
              refine g_if_ne (tgt := 67) rfl rfl (fun q13 => ?_) (fun q13 => ?_)
              · refine g_pure (c' := (66, [(0, .ref l0), (1, .int l1)], [.int (0 : Int32)], (jE0, M11))) 1 rfl ?_
                exact g_ret rfl rfl (fun _ h => h)
              · refine g_pure (c' := (69, [(0, .ref l0), (1, .int l1)], [.ref l0, .int (4 : Int32)], (jE0, M11))) 2 rfl ?_
                refine g_gf (ci := 7) (k := 6) rfl rfl rfl pl0 ?_
                refine g_pure (c' := (79, [(2, .int (((4 : Int32) * (M11 l0 6)) + (1 : Int32))), (0, .ref l0), (1, .int l1)], [.int (10 : Int32), .int l1], (jE0, M11))) 6 rfl ?_
                refine g_ic_ne (tgt := 91) rfl rfl (fun q14 => ?_) (fun q14 => ?_)
                · refine g_pure (c' := (87, [(2, .int (((4 : Int32) * (M11 l0 6)) + (1 : Int32))), (0, .ref l0), (1, .int l1)], [.int (-1 : Int32), .int (99 : Int32), .int (1 : Int32), .ref l0], (jE0, M11))) 4 rfl ?_
                  refine g_wI rfl (jc_v rfl rfl (jv_o pl0 rfl) rfl) (c136 l0 (1 : Int32) (99 : Int32) (-1 : Int32) M11 pl0) (by decide) (fun v16 M15 qv16 => ?_)
                  exact g_rw rfl (fun _ _ h => h)
                · refine g_pure (c' := (94, [(2, .int (((4 : Int32) * (M11 l0 6)) + (1 : Int32))), (0, .ref l0), (1, .int l1)], [.ref l0, .int (1 : Int32), .ref l0], (jE0, M11))) 3 rfl ?_
                  refine g_gp rfl rfl rfl pl0 (jp_ok (kd := 8) pl0 (by decide) (by decide) rfl rfl).1 ?_
                  refine g_pure (c' := (98, [(2, .int (((4 : Int32) * (M11 l0 6)) + (1 : Int32))), (0, .ref l0), (1, .int l1)], [.int (((4 : Int32) * (M11 l0 6)) + (1 : Int32)), .ref (jpt l0 5), .int (1 : Int32), .ref l0], (jE0, M11))) 1 rfl ?_
                  refine g_ia rfl (jk_ok (kd := 8) pl0 (by decide) (by decide) rfl rfl) (fun v18 => ?_)
                  refine g_pure (c' := (102, [(2, .int (((4 : Int32) * (M11 l0 6)) + (1 : Int32))), (0, .ref l0), (1, .int l1)], [.int (-1 : Int32), .int (v18 - (1 : Int32)), .int (1 : Int32), .ref l0], (jE0, M11))) 3 rfl ?_
                  refine g_wI rfl (jc_v rfl rfl (jv_o pl0 rfl) rfl) (c136 l0 (1 : Int32) (v18 - (1 : Int32)) (-1 : Int32) M11 pl0) (by decide) (fun v20 M19 qv20 => ?_)
                  refine g_if_eq (tgt := 142) rfl rfl (fun q21 => ?_) (fun q21 => ?_)
                  · refine g_pure (c' := (143, [(2, .int (((4 : Int32) * (M11 l0 6)) + (1 : Int32))), (0, .ref l0), (1, .int l1)], [.int (0 : Int32)], (jE0, M19))) 1 rfl ?_
                    exact g_ret rfl rfl (fun _ h => h)
                  · refine g_pure (c' := (111, [(2, .int (((4 : Int32) * (M11 l0 6)) + (1 : Int32))), (0, .ref l0), (1, .int l1)], [.int (9 : Int32), .int l1], (jE0, M19))) 2 rfl ?_
                    refine g_ic_eq (tgt := 138) rfl rfl (fun q22 => ?_) (fun q22 => ?_)
                    · refine g_pure (c' := (143, [(2, .int (((4 : Int32) * (M11 l0 6)) + (1 : Int32))), (0, .ref l0), (1, .int l1)], [.int (1 : Int32)], (jE0, M19))) 2 rfl ?_
                      exact g_ret rfl rfl (fun _ h => h)
                    · refine g_pure (c' := (117, [(2, .int (((4 : Int32) * (M11 l0 6)) + (1 : Int32))), (0, .ref l0), (1, .int l1)], [.ref l0, .int (2 : Int32), .ref l0], (jE0, M19))) 3 rfl ?_
                      refine g_gp rfl rfl rfl pl0 (jp_ok (kd := 8) pl0 (by decide) (by decide) rfl rfl).1 ?_
                      refine g_pure (c' := (121, [(2, .int (((4 : Int32) * (M11 l0 6)) + (1 : Int32))), (0, .ref l0), (1, .int l1)], [.int (((4 : Int32) * (M11 l0 6)) + (1 : Int32)), .ref (jpt l0 5), .int (2 : Int32), .ref l0], (jE0, M19))) 1 rfl ?_
                      refine g_ia rfl (jk_ok (kd := 8) pl0 (by decide) (by decide) rfl rfl) (fun v23 => ?_)
                      refine g_pure (c' := (125, [(2, .int (((4 : Int32) * (M11 l0 6)) + (1 : Int32))), (0, .ref l0), (1, .int l1)], [.ref l0, .int (v23 - (1 : Int32)), .int (2 : Int32), .ref l0], (jE0, M19))) 3 rfl ?_
                      refine g_gp rfl rfl rfl pl0 (jp_ok (kd := 8) pl0 (by decide) (by decide) rfl rfl).1 ?_
                      refine g_pure (c' := (131, [(2, .int (((4 : Int32) * (M11 l0 6)) + (1 : Int32))), (0, .ref l0), (1, .int l1)], [.int ((((4 : Int32) * (M11 l0 6)) + (1 : Int32)) + (1 : Int32)), .ref (jpt l0 5), .int (v23 - (1 : Int32)), .int (2 : Int32), .ref l0], (jE0, M19))) 3 rfl ?_
                      refine g_ia rfl (jk_ok (kd := 8) pl0 (by decide) (by decide) rfl rfl) (fun v24 => ?_)
                      refine g_wI rfl (jc_v rfl rfl (jv_o pl0 rfl) rfl) (c136 l0 (2 : Int32) (v23 - (1 : Int32)) v24 M19 pl0) (by decide) (fun v26 M25 qv26 => ?_)
                      refine g_if_eq (tgt := 142) rfl rfl (fun q27 => ?_) (fun q27 => ?_)
                      · refine g_pure (c' := (143, [(2, .int (((4 : Int32) * (M11 l0 6)) + (1 : Int32))), (0, .ref l0), (1, .int l1)], [.int (0 : Int32)], (jE0, M25))) 1 rfl ?_
                        exact g_ret rfl rfl (fun _ h => h)
                      · refine g_pure (c' := (143, [(2, .int (((4 : Int32) * (M11 l0 6)) + (1 : Int32))), (0, .ref l0), (1, .int l1)], [.int (1 : Int32)], (jE0, M25))) 2 rfl ?_
                        exact g_ret rfl rfl (fun _ h => h)
      · refine g_weakk (lv := [(0, .ref l0)]) ⟨rfl, trivial⟩ [0] rfl (by decide) [0, 1] rfl (by decide) ?_
        exact (c139_14 l0 M pl0)
    · refine g_weakk (lv := [(0, .ref l0)]) ⟨rfl, trivial⟩ [0] rfl (by decide) [0, 1] rfl (by decide) ?_
      exact (c139_14 l0 M pl0)
def f140_137  (l0 : Nat) (s0 : Int32) (s1 : Nat) (M : JM) : Option (Int32 × JM) := ((some (jup M s1 21 s0)).bind fun M15 => ((some (jup M15 l0 6 ((M15 l0 6) + (1 : Int32)))).bind fun M16 => (some ((1 : Int32), M16))))
set_option maxRecDepth 100000 in
theorem c140_137 {xs : Option (List Int32)} : ∀ (l0 : Nat) (s0 : Int32) (s1 : Nat) (M : JM) (pl0 : jok jE0 l0 7 = true) (ps1 : jok jE0 s1 7 = true), JG xs 4 140 (f140_137 l0 s0 s1 M) (fun x r => r = (some (.int x.1), (jE0, x.2))) (137, [(0, .ref l0)], [.int s0, .ref s1], (jE0, M)) := by
    intro l0 s0 s1 M pl0 ps1
    unfold f140_137
    refine g_pf (ci := 7) (k := 21) rfl rfl rfl rfl ps1 (fun M15 => ?_)
    refine g_pure (c' := (142, [(0, .ref l0)], [.ref l0, .ref l0], (jE0, M15))) 2 rfl ?_
    refine g_gf (ci := 7) (k := 6) rfl rfl rfl pl0 ?_
    refine g_pure (c' := (147, [(0, .ref l0)], [.int ((M15 l0 6) + (1 : Int32)), .ref l0], (jE0, M15))) 2 rfl ?_
    refine g_pf (ci := 7) (k := 6) rfl rfl rfl rfl pl0 (fun M16 => ?_)
    refine g_pure (c' := (151, [(0, .ref l0)], [.int (1 : Int32)], (jE0, M16))) 1 rfl ?_
    exact g_ret rfl rfl (fun _ h => h)
def f140_113  (l0 : Nat) (s0 : Nat) (M : JM) : Option (Int32 × JM) := (f140_137 l0 (0 : Int32) s0 M)
set_option maxRecDepth 100000 in
theorem c140_113 {xs : Option (List Int32)} : ∀ (l0 : Nat) (s0 : Nat) (M : JM) (pl0 : jok jE0 l0 7 = true) (ps0 : jok jE0 s0 7 = true), JG xs 4 140 (f140_113 l0 s0 M) (fun x r => r = (some (.int x.1), (jE0, x.2))) (113, [(0, .ref l0)], [.ref s0], (jE0, M)) := by
    intro l0 s0 M pl0 ps0
    unfold f140_113
    refine g_pure (c' := (137, [(0, .ref l0)], [.int (0 : Int32), .ref s0], (jE0, M))) 2 rfl ?_
    exact (c140_137 l0 (0 : Int32) s0 M pl0 ps0)
def f140_99  (l0 : Nat) (l1 : Int32) (s0 : Int32) (s1 : Nat) (M : JM) : Option (Int32 × JM) := ((some (jup M s1 20 s0)).bind fun M13 => (if l1 = (0 : Int32) then (f140_113 l0 l0 M13) else (if l1 = (12 : Int32) then (f140_113 l0 l0 M13) else ((f137 l1).bind fun v18 => (if v18 = (0 : Int32) then (f140_137 l0 (M13 l0 21) l0 M13) else (f140_137 l0 ((M13 l0 21) + (1 : Int32)) l0 M13))))))
set_option maxRecDepth 100000 in
theorem c140_99 {xs : Option (List Int32)} : ∀ (l0 : Nat) (l1 : Int32) (s0 : Int32) (s1 : Nat) (M : JM) (pl0 : jok jE0 l0 7 = true) (ps1 : jok jE0 s1 7 = true), JG xs 4 140 (f140_99 l0 l1 s0 s1 M) (fun x r => r = (some (.int x.1), (jE0, x.2))) (99, [(0, .ref l0), (1, .int l1)], [.int s0, .ref s1], (jE0, M)) := by
    intro l0 l1 s0 s1 M pl0 ps1
    unfold f140_99
    refine g_pf (ci := 7) (k := 20) rfl rfl rfl rfl ps1 (fun M13 => ?_)
    refine g_pure (c' := (104, [(0, .ref l0), (1, .int l1)], [.int l1, .ref l0], (jE0, M13))) 2 rfl ?_
    refine g_if_eq (tgt := 113) rfl rfl (fun q14 => ?_) (fun q14 => ?_)
    · refine g_weakk (lv := [(0, .ref l0)]) ⟨rfl, trivial⟩ [0] rfl (by decide) [0, 1] rfl (by decide) ?_
      exact (c140_113 l0 l0 M13 pl0 pl0)
    · refine g_pure (c' := (110, [(0, .ref l0), (1, .int l1)], [.int (12 : Int32), .int l1, .ref l0], (jE0, M13))) 2 rfl ?_
      refine g_ic_ne (tgt := 117) rfl rfl (fun q17 => ?_) (fun q17 => ?_)
      · refine g_weakk (lv := [(0, .ref l0)]) ⟨rfl, trivial⟩ [0] rfl (by decide) [0, 1] rfl (by decide) ?_
        exact (c140_113 l0 l0 M13 pl0 pl0)
      · refine g_pure (c' := (118, [(0, .ref l0), (1, .int l1)], [.int l1, .ref l0], (jE0, M13))) 1 rfl ?_
        refine g_cI rfl (jc_s rfl rfl) (c137 l1) (by decide) (fun v18 qv18 => ?_)
        refine g_if_eq (tgt := 133) rfl rfl (fun q19 => ?_) (fun q19 => ?_)
        · refine g_pure (c' := (134, [(0, .ref l0), (1, .int l1)], [.ref l0, .ref l0], (jE0, M13))) 1 rfl ?_
          refine g_gf (ci := 7) (k := 21) rfl rfl rfl pl0 ?_
          refine g_weakk (lv := [(0, .ref l0)]) ⟨rfl, trivial⟩ [0] rfl (by decide) [0, 1] rfl (by decide) ?_
          exact (c140_137 l0 (M13 l0 21) l0 M13 pl0 pl0)
        · refine g_pure (c' := (125, [(0, .ref l0), (1, .int l1)], [.ref l0, .ref l0], (jE0, M13))) 1 rfl ?_
          refine g_gf (ci := 7) (k := 21) rfl rfl rfl pl0 ?_
          refine g_pure (c' := (137, [(0, .ref l0), (1, .int l1)], [.int ((M13 l0 21) + (1 : Int32)), .ref l0], (jE0, M13))) 3 rfl ?_
          refine g_weakk (lv := [(0, .ref l0)]) ⟨rfl, trivial⟩ [0] rfl (by decide) [0, 1] rfl (by decide) ?_
          exact (c140_137 l0 ((M13 l0 21) + (1 : Int32)) l0 M13 pl0 pl0)
def f140_44  (l0 : Nat) (l1 : Int32) (M : JM) : Option (Int32 × JM) := ((f131 l0 M).bind fun M7 => ((jsa (jpt l0 5) ((4 : Int32) * (M7 l0 6)) l1 M7).bind fun M8 => ((f139 l0 l1 M8).bind fun z22 => (if z22.1 = (0 : Int32) then (some ((0 : Int32), z22.2)) else (if l1 = (0 : Int32) then (f140_99 l0 l1 (0 : Int32) l0 z22.2) else ((f138 l1).bind fun v20 => (if v20 = (0 : Int32) then (f140_99 l0 l1 (z22.2 l0 20) l0 z22.2) else (f140_99 l0 l1 ((z22.2 l0 20) + (1 : Int32)) l0 z22.2))))))))
set_option maxRecDepth 100000 in
theorem c140_44 {xs : Option (List Int32)} : ∀ (l0 : Nat) (l1 : Int32) (M : JM) (pl0 : jok jE0 l0 7 = true), JG xs 4 140 (f140_44 l0 l1 M) (fun x r => r = (some (.int x.1), (jE0, x.2))) (44, [(0, .ref l0), (1, .int l1)], [], (jE0, M)) := by
    intro l0 l1 M pl0
    unfold f140_44
    refine g_pure (c' := (45, [(0, .ref l0), (1, .int l1)], [.ref l0], (jE0, M))) 1 rfl ?_
    refine g_wV rfl (jc_v rfl rfl (jv_o pl0 rfl) rfl) (c131 l0 M pl0) (by decide) (fun M7 => ?_)
    refine g_pure (c' := (49, [(0, .ref l0), (1, .int l1)], [.ref l0], (jE0, M7))) 1 rfl ?_
    refine g_gp rfl rfl rfl pl0 (jp_ok (kd := 8) pl0 (by decide) (by decide) rfl rfl).1 ?_
    refine g_pure (c' := (54, [(0, .ref l0), (1, .int l1)], [.ref l0, .int (4 : Int32), .ref (jpt l0 5)], (jE0, M7))) 2 rfl ?_
    refine g_gf (ci := 7) (k := 6) rfl rfl rfl pl0 ?_
    refine g_pure (c' := (59, [(0, .ref l0), (1, .int l1)], [.int l1, .int ((4 : Int32) * (M7 l0 6)), .ref (jpt l0 5)], (jE0, M7))) 2 rfl ?_
    refine g_is rfl (jk_ok (kd := 8) pl0 (by decide) (by decide) rfl rfl) (fun M8 => ?_)
    refine g_pure (c' := (62, [(0, .ref l0), (1, .int l1)], [.int l1, .ref l0], (jE0, M8))) 2 rfl ?_
    refine g_wI rfl (jc_v rfl rfl (jv_o pl0 rfl) rfl) (c139 l0 l1 M8 pl0) (by decide) (fun v10 M9 qv10 => ?_)
    refine g_if_ne (tgt := 70) rfl rfl (fun q11 => ?_) (fun q11 => ?_)
    · refine g_pure (c' := (69, [(0, .ref l0), (1, .int l1)], [.int (0 : Int32)], (jE0, M9))) 1 rfl ?_
      exact g_ret rfl rfl (fun _ h => h)
    · refine g_pure (c' := (72, [(0, .ref l0), (1, .int l1)], [.int l1, .ref l0], (jE0, M9))) 2 rfl ?_
      refine g_if_ne (tgt := 79) rfl rfl (fun q12 => ?_) (fun q12 => ?_)
      · refine g_pure (c' := (99, [(0, .ref l0), (1, .int l1)], [.int (0 : Int32), .ref l0], (jE0, M9))) 2 rfl ?_
        exact (c140_99 l0 l1 (0 : Int32) l0 M9 pl0 pl0)
      · refine g_pure (c' := (80, [(0, .ref l0), (1, .int l1)], [.int l1, .ref l0], (jE0, M9))) 1 rfl ?_
        refine g_cI rfl (jc_s rfl rfl) (c138 l1) (by decide) (fun v20 qv20 => ?_)
        refine g_if_eq (tgt := 95) rfl rfl (fun q21 => ?_) (fun q21 => ?_)
        · refine g_pure (c' := (96, [(0, .ref l0), (1, .int l1)], [.ref l0, .ref l0], (jE0, M9))) 1 rfl ?_
          refine g_gf (ci := 7) (k := 20) rfl rfl rfl pl0 ?_
          exact (c140_99 l0 l1 (M9 l0 20) l0 M9 pl0 pl0)
        · refine g_pure (c' := (87, [(0, .ref l0), (1, .int l1)], [.ref l0, .ref l0], (jE0, M9))) 1 rfl ?_
          refine g_gf (ci := 7) (k := 20) rfl rfl rfl pl0 ?_
          refine g_pure (c' := (99, [(0, .ref l0), (1, .int l1)], [.int ((M9 l0 20) + (1 : Int32)), .ref l0], (jE0, M9))) 3 rfl ?_
          exact (c140_99 l0 l1 ((M9 l0 20) + (1 : Int32)) l0 M9 pl0 pl0)
def f140_26  (l0 : Nat) (l1 : Int32) (M : JM) : Option (Int32 × JM) := ((f137 l1).bind fun v5 => (if v5 = (0 : Int32) then (f140_44 l0 l1 M) else (if (M l0 21) = (6 : Int32) then (some ((0 : Int32), M)) else (f140_44 l0 l1 M))))
set_option maxRecDepth 100000 in
theorem c140_26 {xs : Option (List Int32)} : ∀ (l0 : Nat) (l1 : Int32) (M : JM) (pl0 : jok jE0 l0 7 = true), JG xs 4 140 (f140_26 l0 l1 M) (fun x r => r = (some (.int x.1), (jE0, x.2))) (26, [(0, .ref l0), (1, .int l1)], [], (jE0, M)) := by
    intro l0 l1 M pl0
    unfold f140_26
    refine g_pure (c' := (27, [(0, .ref l0), (1, .int l1)], [.int l1], (jE0, M))) 1 rfl ?_
    refine g_cI rfl (jc_s rfl rfl) (c137 l1) (by decide) (fun v5 qv5 => ?_)
    refine g_if_eq (tgt := 44) rfl rfl (fun q6 => ?_) (fun q6 => ?_)
    · exact (c140_44 l0 l1 M pl0)
    · refine g_pure (c' := (34, [(0, .ref l0), (1, .int l1)], [.ref l0], (jE0, M))) 1 rfl ?_
      refine g_gf (ci := 7) (k := 21) rfl rfl rfl pl0 ?_
      refine g_pure (c' := (39, [(0, .ref l0), (1, .int l1)], [.int (6 : Int32), .int (M l0 21)], (jE0, M))) 1 rfl ?_
      refine g_ic_ne (tgt := 44) rfl rfl (fun q23 => ?_) (fun q23 => ?_)
      · refine g_pure (c' := (43, [(0, .ref l0), (1, .int l1)], [.int (0 : Int32)], (jE0, M))) 1 rfl ?_
        exact g_ret rfl rfl (fun _ h => h)
      · exact (c140_44 l0 l1 M pl0)
/-- CometKinModel.readsClause -/
def f140  (l0 : Nat) (M : JM) : Option (Int32 × JM) := ((f135 M l0).bind fun v1 => (if v1 = (-1 : Int32) then (some ((0 : Int32), M)) else ((f138 v1).bind fun v3 => (if v3 = (0 : Int32) then (f140_26 l0 v1 M) else (if (M l0 20) = (9 : Int32) then (some ((0 : Int32), M)) else (f140_26 l0 v1 M))))))
set_option maxRecDepth 100000 in
theorem c140 {xs : Option (List Int32)} (l0 : Nat) (M : JM) (pl0 : jok jE0 l0 7 = true) : JG xs 4 140 (f140 l0 M) (fun x r => r = (some (.int x.1), (jE0, x.2))) (0, [(0, .ref l0)], [], (jE0, M)) := by
    unfold f140
    refine g_pure (c' := (1, [(0, .ref l0)], [.ref l0], (jE0, M))) 1 rfl ?_
    refine g_cI rfl (jc_v rfl rfl (jv_o pl0 rfl) rfl) (c135 l0 pl0) (by decide) (fun v1 qv1 => ?_)
    refine g_pure (c' := (7, [(1, .int v1), (0, .ref l0)], [.int (-1 : Int32), .int v1], (jE0, M))) 3 rfl ?_
    refine g_ic_eq (tgt := 42) rfl rfl (fun q2 => ?_) (fun q2 => ?_)
    · refine g_pure (c' := (43, [(1, .int v1), (0, .ref l0)], [.int (0 : Int32)], (jE0, M))) 1 rfl ?_
      exact g_ret rfl rfl (fun _ h => h)
    · refine g_pure (c' := (11, [(1, .int v1), (0, .ref l0)], [.int v1], (jE0, M))) 1 rfl ?_
      refine g_cI rfl (jc_s rfl rfl) (c138 v1) (by decide) (fun v3 qv3 => ?_)
      refine g_if_eq (tgt := 26) rfl rfl (fun q4 => ?_) (fun q4 => ?_)
      · refine g_weakk (lv := [(0, .ref l0), (1, .int v1)]) ⟨rfl, rfl, trivial⟩ [0, 1] rfl (by decide) [1, 0] rfl (by decide) ?_
        exact (c140_26 l0 v1 M pl0)
      · refine g_pure (c' := (18, [(1, .int v1), (0, .ref l0)], [.ref l0], (jE0, M))) 1 rfl ?_
        refine g_gf (ci := 7) (k := 20) rfl rfl rfl pl0 ?_
        refine g_pure (c' := (23, [(1, .int v1), (0, .ref l0)], [.int (9 : Int32), .int (M l0 20)], (jE0, M))) 1 rfl ?_
        refine g_ic_eq (tgt := 42) rfl rfl (fun q24 => ?_) (fun q24 => ?_)
        · refine g_pure (c' := (43, [(1, .int v1), (0, .ref l0)], [.int (0 : Int32)], (jE0, M))) 1 rfl ?_
          exact g_ret rfl rfl (fun _ h => h)
        · refine g_weakk (lv := [(0, .ref l0), (1, .int v1)]) ⟨rfl, rfl, trivial⟩ [0, 1] rfl (by decide) [1, 0] rfl (by decide) ?_
          exact (c140_26 l0 v1 M pl0)
