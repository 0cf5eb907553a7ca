/-- Math.min -/
def f209  (l0 : Int32) (l1 : Int32) : Option Int32 := (if l1 < l0 then (some l1) else (some l0))
set_option maxRecDepth 100000 in
theorem c209 {xs : Option (List Int32)} {M : JM} (l0 : Int32) (l1 : Int32) : JG xs 0 209 (f209 l0 l1) (fun x r => r = (some (.int x), (jE0, M))) (0, [(0, .int l0), (1, .int l1)], [], (jE0, M)) := by
    unfold f209
    refine g_pure (c' := (2, [(0, .int l0), (1, .int l1)], [.int l1, .int l0], (jE0, M))) 2 rfl ?_
    refine g_ic_gt (tgt := 9) rfl rfl (fun q1 => ?_) (fun q1 => ?_)
    · refine g_pure (c' := (10, [(0, .int l0), (1, .int l1)], [.int l1], (jE0, M))) 1 rfl ?_
      exact g_ret rfl rfl (fun _ h => h)
    · refine g_pure (c' := (10, [(0, .int l0), (1, .int l1)], [.int l0], (jE0, M))) 2 rfl ?_
      exact g_ret rfl rfl (fun _ h => h)
/-- CometKin.remember -/
def f105  (l0 : Nat) (M : JM) : Option JM := ((f49 (jpt l0 4) (M l0 5) (jpt l0 3) M).bind fun M1 => ((jir ((M1 l0 5) + (1 : Int32)) (8 : Int32)).bind fun v2 => ((some (jup M1 l0 5 v2)).bind fun M3 => ((f209 ((M3 l0 6) + (1 : Int32)) (8 : Int32)).bind fun v4 => ((some (jup M3 l0 6 v4)).bind fun M5 => (some M5))))))
set_option maxRecDepth 100000 in
theorem c105 {xs : Option (List Int32)} (l0 : Nat) (M : JM) (pl0 : jok jE0 l0 6 = true) : JG xs 4 105 (f105 l0 M) (fun x r => r = (none, (jE0, x))) (0, [(0, .ref l0)], [], (jE0, M)) := by
    unfold f105
    refine g_pure (c' := (1, [(0, .ref l0)], [.ref l0], (jE0, M))) 1 rfl ?_
    refine g_gp rfl rfl rfl pl0 (jp_ok (kd := 4) pl0 (by decide) (by decide) rfl rfl).1 ?_
    refine g_pure (c' := (5, [(0, .ref l0)], [.ref l0, .ref (jpt l0 4)], (jE0, M))) 1 rfl ?_
    refine g_gf (ci := 6) (k := 5) rfl rfl rfl pl0 ?_
    refine g_pure (c' := (9, [(0, .ref l0)], [.ref l0, .int (M l0 5), .ref (jpt l0 4)], (jE0, M))) 1 rfl ?_
    refine g_gp rfl rfl rfl pl0 (jp_ok (kd := 2) pl0 (by decide) (by decide) rfl rfl).1 ?_
    refine g_wV rfl (jc_v rfl rfl (jv_o (jk_ok (kd := 4) pl0 (by decide) (by decide) rfl rfl) rfl) rfl) (c49 (jpt l0 4) (M l0 5) (jpt l0 3) M (jk_ok (kd := 4) pl0 (by decide) (by decide) rfl rfl) (jk_ok (kd := 2) pl0 (by decide) (by decide) rfl rfl)) (by decide) (fun M1 => ?_)
    refine g_pure (c' := (17, [(0, .ref l0)], [.ref l0, .ref l0], (jE0, M1))) 2 rfl ?_
    refine g_gf (ci := 6) (k := 5) rfl rfl rfl pl0 ?_
    refine g_pure (c' := (24, [(0, .ref l0)], [.int (8 : Int32), .int ((M1 l0 5) + (1 : Int32)), .ref l0], (jE0, M1))) 3 rfl ?_
    refine g_d2 rfl (fun v2 => ?_)
    refine g_pf (ci := 6) (k := 5) rfl rfl rfl rfl pl0 (fun M3 => ?_)
    refine g_pure (c' := (30, [(0, .ref l0)], [.ref l0, .ref l0], (jE0, M3))) 2 rfl ?_
    refine g_gf (ci := 6) (k := 6) rfl rfl rfl pl0 ?_
    refine g_pure (c' := (37, [(0, .ref l0)], [.int (8 : Int32), .int ((M3 l0 6) + (1 : Int32)), .ref l0], (jE0, M3))) 3 rfl ?_
    refine g_cI rfl (jc_s rfl rfl) (c209 ((M3 l0 6) + (1 : Int32)) (8 : Int32)) (by decide) (fun v4 qv4 => ?_)
    refine g_pf (ci := 6) (k := 6) rfl rfl rfl rfl pl0 (fun M5 => ?_)
    exact g_ret rfl rfl (fun _ h => h)
/-- CometKin.go -/
def f78  (l0 : Nat) (l1 : Int32) (M : JM) : Option (Int32 × JM) := (if l1 < (1 : Int32) then (some ((-3 : Int32), M)) else (if (99 : Int32) < l1 then (some ((-3 : Int32), M)) else (if (99 : Int32) < ((M (jpt l0 3) 0) + l1) then (some ((-5 : Int32), M)) else ((f105 l0 M).bind fun M4 => ((some (jup M4 (jpt l0 3) 0 ((M4 (jpt l0 3) 0) + l1))).bind fun M5 => (some ((M5 (jpt l0 3) 0), M5)))))))
set_option maxRecDepth 100000 in
theorem c78 {xs : Option (List Int32)} (l0 : Nat) (l1 : Int32) (M : JM) (pl0 : jok jE0 l0 6 = true) : JG xs 5 78 (f78 l0 l1 M) (fun x r => r = (some (.int x.1), (jE0, x.2))) (0, [(0, .ref l0), (1, .int l1)], [], (jE0, M)) := by
    unfold f78
    refine g_pure (c' := (2, [(0, .ref l0), (1, .int l1)], [.int (1 : Int32), .int l1], (jE0, M))) 2 rfl ?_
    refine g_ic_lt (tgt := 11) rfl rfl (fun q1 => ?_) (fun q1 => ?_)
    · refine g_pure (c' := (13, [(0, .ref l0), (1, .int l1)], [.int (-3 : Int32)], (jE0, M))) 1 rfl ?_
      exact g_ret rfl rfl (fun _ h => h)
    · refine g_pure (c' := (8, [(0, .ref l0), (1, .int l1)], [.int (99 : Int32), .int l1], (jE0, M))) 2 rfl ?_
      refine g_ic_le (tgt := 14) rfl rfl (fun q2 => ?_) (fun q2 => ?_)
      · refine g_pure (c' := (13, [(0, .ref l0), (1, .int l1)], [.int (-3 : Int32)], (jE0, M))) 1 rfl ?_
        exact g_ret rfl rfl (fun _ h => h)
      · refine g_pure (c' := (15, [(0, .ref l0), (1, .int l1)], [.ref l0], (jE0, M))) 1 rfl ?_
        refine g_gp rfl rfl rfl pl0 (jp_ok (kd := 2) pl0 (by decide) (by decide) rfl rfl).1 ?_
        refine g_gf (ci := 2) (k := 0) rfl rfl rfl (jk_ok (kd := 2) pl0 (by decide) (by decide) rfl rfl) ?_
        refine g_pure (c' := (25, [(0, .ref l0), (1, .int l1)], [.int (99 : Int32), .int ((M (jpt l0 3) 0) + l1)], (jE0, M))) 3 rfl ?_
        refine g_ic_le (tgt := 31) rfl rfl (fun q3 => ?_) (fun q3 => ?_)
        · refine g_pure (c' := (30, [(0, .ref l0), (1, .int l1)], [.int (-5 : Int32)], (jE0, M))) 1 rfl ?_
          exact g_ret rfl rfl (fun _ h => h)
        · refine g_pure (c' := (32, [(0, .ref l0), (1, .int l1)], [.ref l0], (jE0, M))) 1 rfl ?_
          refine g_wV rfl (jc_v rfl rfl (jv_o pl0 rfl) rfl) (c105 l0 M pl0) (by decide) (fun M4 => ?_)
          refine g_pure (c' := (36, [(0, .ref l0), (1, .int l1)], [.ref l0], (jE0, M4))) 1 rfl ?_
          refine g_gp rfl rfl rfl pl0 (jp_ok (kd := 2) pl0 (by decide) (by decide) rfl rfl).1 ?_
          refine g_pure (c' := (40, [(0, .ref l0), (1, .int l1)], [.ref (jpt l0 3), .ref (jpt l0 3)], (jE0, M4))) 1 rfl ?_
          refine g_gf (ci := 2) (k := 0) rfl rfl rfl (jk_ok (kd := 2) pl0 (by decide) (by decide) rfl rfl) ?_
          refine g_pure (c' := (45, [(0, .ref l0), (1, .int l1)], [.int ((M4 (jpt l0 3) 0) + l1), .ref (jpt l0 3)], (jE0, M4))) 2 rfl ?_
          refine g_pf (ci := 2) (k := 0) rfl rfl rfl rfl (jk_ok (kd := 2) pl0 (by decide) (by decide) rfl rfl) (fun M5 => ?_)
          refine g_pure (c' := (49, [(0, .ref l0), (1, .int l1)], [.ref l0], (jE0, M5))) 1 rfl ?_
          refine g_gp rfl rfl rfl pl0 (jp_ok (kd := 2) pl0 (by decide) (by decide) rfl rfl).1 ?_
          refine g_gf (ci := 2) (k := 0) rfl rfl rfl (jk_ok (kd := 2) pl0 (by decide) (by decide) rfl rfl) ?_
          exact g_ret rfl rfl (fun _ h => h)
def f169_2  : Nat → Nat → Int32 → Int32 → Int32 → JM → Option JM
  | 0, _, _, _, _, _ => none
  | n + 1, l0, l1, l2, l3, M => (if l3 < (61 : Int32) then ((jla (jpt l0 0) (l1 + l3) M).bind fun v2 => ((jsa (jpt l0 0) (l2 + l3) v2 M).bind fun M3 => ((f169_2 n) l0 l1 l2 (l3 + (1 : Int32)) M3))) else (some M))
set_option maxRecDepth 100000 in
theorem c169_2 {xs : Option (List Int32)} : ∀ (n : Nat) (l0 : Nat) (l1 : Int32) (l2 : Int32) (l3 : Int32) (M : JM) (pl0 : jok jE0 l0 7 = true), JG xs 0 169 (f169_2 n l0 l1 l2 l3 M) (fun x r => r = (none, (jE0, x))) (2, [(0, .ref l0), (1, .int l1), (2, .int l2), (3, .int l3)], [], (jE0, M))
  | 0, _, _, _, _, _, _ => by rw [f169_2]; exact g_none
  | n + 1, l0, l1, l2, l3, M, pl0 => by
    rw [f169_2]
    refine g_pure (c' := (5, [(0, .ref l0), (1, .int l1), (2, .int l2), (3, .int l3)], [.int (61 : Int32), .int l3], (jE0, M))) 2 rfl ?_
    refine g_ic_ge (tgt := 30) rfl rfl (fun q1 => ?_) (fun q1 => ?_)
    · refine g_pure (c' := (9, [(0, .ref l0), (1, .int l1), (2, .int l2), (3, .int l3)], [.ref l0], (jE0, M))) 1 rfl ?_
      refine g_gp rfl rfl rfl pl0 (jp_ok (kd := 8) pl0 (by decide) (by decide) rfl rfl).1 ?_
      refine g_pure (c' := (16, [(0, .ref l0), (1, .int l1), (2, .int l2), (3, .int l3)], [.ref l0, .int (l2 + l3), .ref (jpt l0 0)], (jE0, M))) 4 rfl ?_
      refine g_gp rfl rfl rfl pl0 (jp_ok (kd := 8) pl0 (by decide) (by decide) rfl rfl).1 ?_
      refine g_pure (c' := (22, [(0, .ref l0), (1, .int l1), (2, .int l2), (3, .int l3)], [.int (l1 + l3), .ref (jpt l0 0), .int (l2 + l3), .ref (jpt l0 0)], (jE0, M))) 3 rfl ?_
      refine g_ia rfl (jk_ok (kd := 8) pl0 (by decide) (by decide) rfl rfl) (fun v2 => ?_)
      refine g_is rfl (jk_ok (kd := 8) pl0 (by decide) (by decide) rfl rfl) (fun M3 => ?_)
      refine g_pure (c' := (2, [(3, .int (l3 + (1 : Int32))), (0, .ref l0), (1, .int l1), (2, .int l2)], [], (jE0, M3))) 2 rfl ?_
      refine g_weakk (lv := [(0, .ref l0), (1, .int l1), (2, .int l2), (3, .int (l3 + (1 : Int32)))]) ⟨rfl, rfl, rfl, rfl, trivial⟩ [0, 1, 2, 3] rfl (by decide) [3, 0, 1, 2] rfl (by decide) ?_
      exact ((c169_2 n) l0 l1 l2 (l3 + (1 : Int32)) M3 pl0)
    · exact g_ret rfl rfl (fun _ h => h)
/-- CometKinModel.copy -/
def f169  (l0 : Nat) (l1 : Int32) (l2 : Int32) (M : JM) : Option JM := (f169_2 1000 l0 l1 l2 (0 : Int32) M)
set_option maxRecDepth 100000 in
theorem c169 {xs : Option (List Int32)} (l0 : Nat) (l1 : Int32) (l2 : Int32) (M : JM) (pl0 : jok jE0 l0 7 = true) : JG xs 0 169 (f169 l0 l1 l2 M) (fun x r => r = (none, (jE0, x))) (0, [(0, .ref l0), (1, .int l1), (2, .int l2)], [], (jE0, M)) := by
    unfold f169
    refine g_pure (c' := (2, [(3, .int (0 : Int32)), (0, .ref l0), (1, .int l1), (2, .int l2)], [], (jE0, M))) 2 rfl ?_
    refine g_weakk (lv := [(0, .ref l0), (1, .int l1), (2, .int l2), (3, .int (0 : Int32))]) ⟨rfl, rfl, rfl, rfl, trivial⟩ [0, 1, 2, 3] rfl (by decide) [3, 0, 1, 2] rfl (by decide) ?_
    exact (c169_2 1000 l0 l1 l2 (0 : Int32) M pl0)
def f170_66  (l0 : Nat) (s0 : Int32) (s1 : Int32) (s2 : Nat) (M : JM) : Option JM := ((some (jup M s2 1 (s1 - s0))).bind fun M6 => ((f169 l0 (0 : Int32) ((183 : Int32) + ((61 : Int32) * (M6 l0 1))) M6).bind fun M7 => ((some (jup M7 l0 1 ((M7 l0 1) + (1 : Int32)))).bind fun M8 => (some M8))))
set_option maxRecDepth 100000 in
theorem c170_66 {xs : Option (List Int32)} : ∀ (l0 : Nat) (s0 : Int32) (s1 : Int32) (s2 : Nat) (M : JM) (pl0 : jok jE0 l0 7 = true) (ps2 : jok jE0 s2 7 = true), JG xs 1 170 (f170_66 l0 s0 s1 s2 M) (fun x r => r = (none, (jE0, x))) (66, [(0, .ref l0)], [.int s0, .int s1, .ref s2], (jE0, M)) := by
    intro l0 s0 s1 s2 M pl0 ps2
    unfold f170_66
    refine g_pure (c' := (67, [(0, .ref l0)], [.int (s1 - s0), .ref s2], (jE0, M))) 1 rfl ?_
    refine g_pf (ci := 7) (k := 1) rfl rfl rfl rfl ps2 (fun M6 => ?_)
    refine g_pure (c' := (78, [(0, .ref l0)], [.ref l0, .int (61 : Int32), .int (183 : Int32), .int (0 : Int32), .ref l0], (jE0, M6))) 5 rfl ?_
    refine g_gf (ci := 7) (k := 1) rfl rfl rfl pl0 ?_
    refine g_pure (c' := (83, [(0, .ref l0)], [.int ((183 : Int32) + ((61 : Int32) * (M6 l0 1))), .int (0 : Int32), .ref l0], (jE0, M6))) 2 rfl ?_
    refine g_wV rfl (jc_v rfl rfl (jv_o pl0 rfl) rfl) (c169 l0 (0 : Int32) ((183 : Int32) + ((61 : Int32) * (M6 l0 1))) M6 pl0) (by decide) (fun M7 => ?_)
    refine g_pure (c' := (88, [(0, .ref l0)], [.ref l0, .ref l0], (jE0, M7))) 2 rfl ?_
    refine g_gf (ci := 7) (k := 1) rfl rfl rfl pl0 ?_
    refine g_pure (c' := (93, [(0, .ref l0)], [.int ((M7 l0 1) + (1 : Int32)), .ref l0], (jE0, M7))) 2 rfl ?_
    refine g_pf (ci := 7) (k := 1) rfl rfl rfl rfl pl0 (fun M8 => ?_)
    exact g_ret rfl rfl (fun _ h => h)
def f170_47  (l0 : Nat) (M : JM) : Option JM := (if (M l0 1) = (8 : Int32) then (f170_66 l0 (1 : Int32) (M l0 1) l0 M) else (f170_66 l0 (0 : Int32) (M l0 1) l0 M))
set_option maxRecDepth 100000 in
theorem c170_47 {xs : Option (List Int32)} : ∀ (l0 : Nat) (M : JM) (pl0 : jok jE0 l0 7 = true), JG xs 1 170 (f170_47 l0 M) (fun x r => r = (none, (jE0, x))) (47, [(0, .ref l0)], [], (jE0, M)) := by
    intro l0 M pl0
    unfold f170_47
    refine g_pure (c' := (49, [(0, .ref l0)], [.ref l0, .ref l0], (jE0, M))) 2 rfl ?_
    refine g_gf (ci := 7) (k := 1) rfl rfl rfl pl0 ?_
    refine g_pure (c' := (53, [(0, .ref l0)], [.ref l0, .int (M l0 1), .ref l0], (jE0, M))) 1 rfl ?_
    refine g_gf (ci := 7) (k := 1) rfl rfl rfl pl0 ?_
    refine g_pure (c' := (58, [(0, .ref l0)], [.int (8 : Int32), .int (M l0 1), .int (M l0 1), .ref l0], (jE0, M))) 1 rfl ?_
    refine g_ic_ne (tgt := 65) rfl rfl (fun q5 => ?_) (fun q5 => ?_)
    · refine g_pure (c' := (66, [(0, .ref l0)], [.int (1 : Int32), .int (M l0 1), .ref l0], (jE0, M))) 2 rfl ?_
      exact (c170_66 l0 (1 : Int32) (M l0 1) l0 M pl0 pl0)
    · refine g_pure (c' := (66, [(0, .ref l0)], [.int (0 : Int32), .int (M l0 1), .ref l0], (jE0, M))) 1 rfl ?_
      exact (c170_66 l0 (0 : Int32) (M l0 1) l0 M pl0 pl0)
def f170_2  : Nat → Nat → Int32 → JM → Option JM
  | 0, _, _, _ => none
  | n + 1, l0, l1, M => (if l1 < (427 : Int32) then (if (M l0 1) = (8 : Int32) then ((jla (jpt l0 0) (((183 : Int32) + l1) + (61 : Int32)) M).bind fun v3 => ((jsa (jpt l0 0) ((183 : Int32) + l1) v3 M).bind fun M4 => ((f170_2 n) l0 (l1 + (1 : Int32)) M4))) else (f170_47 l0 M)) else (f170_47 l0 M))
set_option maxRecDepth 100000 in
theorem c170_2 {xs : Option (List Int32)} : ∀ (n : Nat) (l0 : Nat) (l1 : Int32) (M : JM) (pl0 : jok jE0 l0 7 = true), JG xs 1 170 (f170_2 n l0 l1 M) (fun x r => r = (none, (jE0, x))) (2, [(0, .ref l0), (1, .int l1)], [], (jE0, M))
  | 0, _, _, _, _ => by rw [f170_2]; exact g_none
  | n + 1, l0, l1, M, pl0 => by
    rw [f170_2]
    refine g_pure (c' := (6, [(0, .ref l0), (1, .int l1)], [.int (427 : Int32), .int l1], (jE0, M))) 2 rfl ?_
    refine g_ic_ge (tgt := 47) rfl rfl (fun q1 => ?_) (fun q1 => ?_)
    · refine g_pure (c' := (10, [(0, .ref l0), (1, .int l1)], [.ref l0], (jE0, M))) 1 rfl ?_
      refine g_gf (ci := 7) (k := 1) rfl rfl rfl pl0 ?_
      refine g_pure (c' := (15, [(0, .ref l0), (1, .int l1)], [.int (8 : Int32), .int (M l0 1)], (jE0, M))) 1 rfl ?_
      refine g_ic_ne (tgt := 47) rfl rfl (fun q2 => ?_) (fun q2 => ?_)
      · refine g_pure (c' := (19, [(0, .ref l0), (1, .int l1)], [.ref l0], (jE0, M))) 1 rfl ?_
        refine g_gp rfl rfl rfl pl0 (jp_ok (kd := 8) pl0 (by decide) (by decide) rfl rfl).1 ?_
        refine g_pure (c' := (28, [(0, .ref l0), (1, .int l1)], [.ref l0, .int ((183 : Int32) + l1), .ref (jpt l0 0)], (jE0, M))) 4 rfl ?_
        refine g_gp rfl rfl rfl pl0 (jp_ok (kd := 8) pl0 (by decide) (by decide) rfl rfl).1 ?_
        refine g_pure (c' := (39, [(0, .ref l0), (1, .int l1)], [.int (((183 : Int32) + l1) + (61 : Int32)), .ref (jpt l0 0), .int ((183 : Int32) + l1), .ref (jpt l0 0)], (jE0, M))) 5 rfl ?_
        refine g_ia rfl (jk_ok (kd := 8) pl0 (by decide) (by decide) rfl rfl) (fun v3 => ?_)
        refine g_is rfl (jk_ok (kd := 8) pl0 (by decide) (by decide) rfl rfl) (fun M4 => ?_)
        refine g_pure (c' := (2, [(1, .int (l1 + (1 : Int32))), (0, .ref l0)], [], (jE0, M4))) 2 rfl ?_
        refine g_weakk (lv := [(0, .ref l0), (1, .int (l1 + (1 : Int32)))]) ⟨rfl, rfl, trivial⟩ [0, 1] rfl (by decide) [1, 0] rfl (by decide) ?_
        exact ((c170_2 n) l0 (l1 + (1 : Int32)) M4 pl0)
      · refine g_weakk (lv := [(0, .ref l0)]) ⟨rfl, trivial⟩ [0] rfl (by decide) [0, 1] rfl (by decide) ?_
        exact (c170_47 l0 M pl0)
    · refine g_weakk (lv := [(0, .ref l0)]) ⟨rfl, trivial⟩ [0] rfl (by decide) [0, 1] rfl (by decide) ?_
      exact (c170_47 l0 M pl0)
/-- CometKinModel.keepPast -/
def f170  (l0 : Nat) (M : JM) : Option JM := (f170_2 1000 l0 (0 : Int32) M)
set_option maxRecDepth 100000 in
theorem c170 {xs : Option (List Int32)} (l0 : Nat) (M : JM) (pl0 : jok jE0 l0 7 = true) : JG xs 1 170 (f170 l0 M) (fun x r => r = (none, (jE0, x))) (0, [(0, .ref l0)], [], (jE0, M)) := by
    unfold f170
    refine g_pure (c' := (2, [(1, .int (0 : Int32)), (0, .ref l0)], [], (jE0, M))) 2 rfl ?_
    refine g_weakk (lv := [(0, .ref l0), (1, .int (0 : Int32))]) ⟨rfl, rfl, trivial⟩ [0, 1] rfl (by decide) [1, 0] rfl (by decide) ?_
    exact (c170_2 1000 l0 (0 : Int32) M pl0)
/-- CometKinModel.go -/
def f171  (l0 : Nat) (l1 : Int32) (M : JM) : Option (Int32 × JM) := ((f125 ((l1).toInt64) (1 : Int64) (99 : Int64)).bind fun v1 => (if v1 = (0 : Int32) then (some ((-3 : Int32), M)) else ((jla (jpt l0 0) (0 : Int32) M).bind fun v3 => (if (99 : Int32) < (v3 + l1) then (some ((-5 : Int32), M)) else ((f170 l0 M).bind fun M5 => ((jla (jpt l0 0) (0 : Int32) M5).bind fun v6 => ((jsa (jpt l0 0) (0 : Int32) (v6 + l1) M5).bind fun M7 => ((jla (jpt l0 0) (0 : Int32) M7).bind fun v8 => (some (v8, M7))))))))))
set_option maxRecDepth 100000 in
theorem c171 {xs : Option (List Int32)} (l0 : Nat) (l1 : Int32) (M : JM) (pl0 : jok jE0 l0 7 = true) : JG xs 2 171 (f171 l0 l1 M) (fun x r => r = (some (.int x.1), (jE0, x.2))) (0, [(0, .ref l0), (1, .int l1)], [], (jE0, M)) := by
    unfold f171
    refine g_pure (c' := (6, [(0, .ref l0), (1, .int l1)], [.long (99 : Int64), .long (1 : Int64), .long ((l1).toInt64)], (jE0, M))) 4 rfl ?_
    refine g_cI rfl (jc_s rfl rfl) (c125 ((l1).toInt64) (1 : Int64) (99 : Int64)) (by decide) (fun v1 qv1 => ?_)
    refine g_if_ne (tgt := 15) rfl rfl (fun q2 => ?_) (fun q2 => ?_)
    · refine g_pure (c' := (14, [(0, .ref l0), (1, .int l1)], [.int (-3 : Int32)], (jE0, M))) 1 rfl ?_
      exact g_ret rfl rfl (fun _ h => h)
    · refine g_pure (c' := (16, [(0, .ref l0), (1, .int l1)], [.ref l0], (jE0, M))) 1 rfl ?_
      refine g_gp rfl rfl rfl pl0 (jp_ok (kd := 8) pl0 (by decide) (by decide) rfl rfl).1 ?_
      refine g_pure (c' := (20, [(0, .ref l0), (1, .int l1)], [.int (0 : Int32), .ref (jpt l0 0)], (jE0, M))) 1 rfl ?_
      refine g_ia rfl (jk_ok (kd := 8) pl0 (by decide) (by decide) rfl rfl) (fun v3 => ?_)
      refine g_pure (c' := (25, [(0, .ref l0), (1, .int l1)], [.int (99 : Int32), .int (v3 + l1)], (jE0, M))) 3 rfl ?_
      refine g_ic_le (tgt := 31) rfl rfl (fun q4 => ?_) (fun q4 => ?_)
      · refine g_pure (c' := (30, [(0, .ref l0), (1, .int l1)], [.int (-5 : Int32)], (jE0, M))) 1 rfl ?_
        exact g_ret rfl rfl (fun _ h => h)
      · refine g_pure (c' := (32, [(0, .ref l0), (1, .int l1)], [.ref l0], (jE0, M))) 1 rfl ?_
        refine g_wV rfl (jc_v rfl rfl (jv_o pl0 rfl) rfl) (c170 l0 M pl0) (by decide) (fun M5 => ?_)
        refine g_pure (c' := (36, [(0, .ref l0), (1, .int l1)], [.ref l0], (jE0, M5))) 1 rfl ?_
        refine g_gp rfl rfl rfl pl0 (jp_ok (kd := 8) pl0 (by decide) (by decide) rfl rfl).1 ?_
        refine g_pure (c' := (41, [(0, .ref l0), (1, .int l1)], [.int (0 : Int32), .ref (jpt l0 0), .int (0 : Int32), .ref (jpt l0 0)], (jE0, M5))) 2 rfl ?_
        refine g_ia rfl (jk_ok (kd := 8) pl0 (by decide) (by decide) rfl rfl) (fun v6 => ?_)
        refine g_pure (c' := (44, [(0, .ref l0), (1, .int l1)], [.int (v6 + l1), .int (0 : Int32), .ref (jpt l0 0)], (jE0, M5))) 2 rfl ?_
        refine g_is rfl (jk_ok (kd := 8) pl0 (by decide) (by decide) rfl rfl) (fun M7 => ?_)
        refine g_pure (c' := (46, [(0, .ref l0), (1, .int l1)], [.ref l0], (jE0, M7))) 1 rfl ?_
        refine g_gp rfl rfl rfl pl0 (jp_ok (kd := 8) pl0 (by decide) (by decide) rfl rfl).1 ?_
        refine g_pure (c' := (50, [(0, .ref l0), (1, .int l1)], [.int (0 : Int32), .ref (jpt l0 0)], (jE0, M7))) 1 rfl ?_
        refine g_ia rfl (jk_ok (kd := 8) pl0 (by decide) (by decide) rfl rfl) (fun v8 => ?_)
        exact g_ret rfl rfl (fun _ h => h)
/-- CometKin$Country.hasTwo -/
def f4 (M : JM) (l0 : Nat) (l1 : Int32) (l2 : Int32) : Option Int32 := ((f3 M l0 l1).bind fun v1 => (if v1 = (0 : Int32) then (some (0 : Int32)) else ((f3 M l0 l2).bind fun v3 => (if v3 = (0 : Int32) then (some (0 : Int32)) else (if l1 = l2 then (some (0 : Int32)) else (some (1 : Int32)))))))
set_option maxRecDepth 100000 in
theorem c4 {xs : Option (List Int32)} {M : JM} (l0 : Nat) (l1 : Int32) (l2 : Int32) (pl0 : jok jE0 l0 0 = true) : JG xs 1 4 (f4 M l0 l1 l2) (fun x r => r = (some (.int x), (jE0, M))) (0, [(0, .ref l0), (1, .int l1), (2, .int l2)], [], (jE0, M)) := by
    unfold f4
    refine g_pure (c' := (2, [(0, .ref l0), (1, .int l1), (2, .int l2)], [.int l1, .ref l0], (jE0, M))) 2 rfl ?_
    refine g_cI rfl (jc_v rfl rfl (jv_o pl0 rfl) rfl) (c3 l0 l1 pl0) (by decide) (fun v1 qv1 => ?_)
    refine g_if_eq (tgt := 25) rfl rfl (fun q2 => ?_) (fun q2 => ?_)
    · refine g_pure (c' := (26, [(0, .ref l0), (1, .int l1), (2, .int l2)], [.int (0 : Int32)], (jE0, M))) 1 rfl ?_
      exact g_ret rfl rfl (fun _ h => h)
    · refine g_pure (c' := (10, [(0, .ref l0), (1, .int l1), (2, .int l2)], [.int l2, .ref l0], (jE0, M))) 2 rfl ?_
      refine g_cI rfl (jc_v rfl rfl (jv_o pl0 rfl) rfl) (c3 l0 l2 pl0) (by decide) (fun v3 qv3 => ?_)
      refine g_if_eq (tgt := 25) rfl rfl (fun q4 => ?_) (fun q4 => ?_)
      · refine g_pure (c' := (26, [(0, .ref l0), (1, .int l1), (2, .int l2)], [.int (0 : Int32)], (jE0, M))) 1 rfl ?_
        exact g_ret rfl rfl (fun _ h => h)
      · refine g_pure (c' := (18, [(0, .ref l0), (1, .int l1), (2, .int l2)], [.int l2, .int l1], (jE0, M))) 2 rfl ?_
        refine g_ic_eq (tgt := 25) rfl rfl (fun q5 => ?_) (fun q5 => ?_)
        · refine g_pure (c' := (26, [(0, .ref l0), (1, .int l1), (2, .int l2)], [.int (0 : Int32)], (jE0, M))) 1 rfl ?_
          exact g_ret rfl rfl (fun _ h => h)
        · refine g_pure (c' := (26, [(0, .ref l0), (1, .int l1), (2, .int l2)], [.int (1 : Int32)], (jE0, M))) 2 rfl ?_
          exact g_ret rfl rfl (fun _ h => h)
/-- CometKin.isFree -/
def f108 (M : JM) (l0 : Nat) (l1 : Int32) : Option Int32 := ((f101 (M (jpt l0 3) 1) l1).bind fun v1 => (if v1 = (0 : Int32) then (some (0 : Int32)) else ((f42 M (jpt (jpt l0 1) 4) l1).bind fun v3 => (if (M (jpt l0 3) 0) < v3 then (some (0 : Int32)) else ((f42 M (jpt (jpt l0 3) 4) l1).bind fun v5 => (if v5 = (-1 : Int32) then (some (1 : Int32)) else (some (0 : Int32))))))))
set_option maxRecDepth 100000 in
theorem c108 {xs : Option (List Int32)} {M : JM} (l0 : Nat) (l1 : Int32) (pl0 : jok jE0 l0 6 = true) : JG xs 1 108 (f108 M l0 l1) (fun x r => r = (some (.int x), (jE0, M))) (0, [(0, .ref l0), (1, .int l1)], [], (jE0, M)) := by
    unfold f108
    refine g_pure (c' := (1, [(0, .ref l0), (1, .int l1)], [.ref l0], (jE0, M))) 1 rfl ?_
    refine g_gp rfl rfl rfl pl0 (jp_ok (kd := 2) pl0 (by decide) (by decide) rfl rfl).1 ?_
    refine g_gf (ci := 2) (k := 1) rfl rfl rfl (jk_ok (kd := 2) pl0 (by decide) (by decide) rfl rfl) ?_
    refine g_pure (c' := (8, [(0, .ref l0), (1, .int l1)], [.int l1, .int (M (jpt l0 3) 1)], (jE0, M))) 1 rfl ?_
    refine g_cI rfl (jc_s rfl rfl) (c101 (M (jpt l0 3) 1) l1) (by decide) (fun v1 qv1 => ?_)
    refine g_if_eq (tgt := 54) rfl rfl (fun q2 => ?_) (fun q2 => ?_)
    · refine g_pure (c' := (55, [(0, .ref l0), (1, .int l1)], [.int (0 : Int32)], (jE0, M))) 1 rfl ?_
      exact g_ret rfl rfl (fun _ h => h)
    · refine g_pure (c' := (15, [(0, .ref l0), (1, .int l1)], [.ref l0], (jE0, M))) 1 rfl ?_
      refine g_gp rfl rfl rfl pl0 (jp_ok (kd := 0) pl0 (by decide) (by decide) rfl rfl).1 ?_
      refine g_gp rfl rfl rfl (jk_ok (kd := 0) pl0 (by decide) (by decide) rfl rfl) (jp_ok (kd := 3) (jk_ok (kd := 0) pl0 (by decide) (by decide) rfl rfl) (by decide) (by decide) rfl rfl).1 ?_
      refine g_pure (c' := (22, [(0, .ref l0), (1, .int l1)], [.int l1, .ref (jpt (jpt l0 1) 4)], (jE0, M))) 1 rfl ?_
      refine g_cI rfl (jc_v rfl rfl (jv_o (jk_ok (kd := 3) (jk_ok (kd := 0) pl0 (by decide) (by decide) rfl rfl) (by decide) (by decide) rfl rfl) rfl) rfl) (c42 (jpt (jpt l0 1) 4) l1 (jk_ok (kd := 3) (jk_ok (kd := 0) pl0 (by decide) (by decide) rfl rfl) (by decide) (by decide) rfl rfl)) (by decide) (fun v3 qv3 => ?_)
      refine g_pure (c' := (26, [(0, .ref l0), (1, .int l1)], [.ref l0, .int v3], (jE0, M))) 1 rfl ?_
      refine g_gp rfl rfl rfl pl0 (jp_ok (kd := 2) pl0 (by decide) (by decide) rfl rfl).1 ?_
      refine g_gf (ci := 2) (k := 0) rfl rfl rfl (jk_ok (kd := 2) pl0 (by decide) (by decide) rfl rfl) ?_
      refine g_ic_gt (tgt := 54) rfl rfl (fun q4 => ?_) (fun q4 => ?_)
      · refine g_pure (c' := (55, [(0, .ref l0), (1, .int l1)], [.int (0 : Int32)], (jE0, M))) 1 rfl ?_
        exact g_ret rfl rfl (fun _ h => h)
      · refine g_pure (c' := (36, [(0, .ref l0), (1, .int l1)], [.ref l0], (jE0, M))) 1 rfl ?_
        refine g_gp rfl rfl rfl pl0 (jp_ok (kd := 2) pl0 (by decide) (by decide) rfl rfl).1 ?_
        refine g_gp rfl rfl rfl (jk_ok (kd := 2) pl0 (by decide) (by decide) rfl rfl) (jp_ok (kd := 3) (jk_ok (kd := 2) pl0 (by decide) (by decide) rfl rfl) (by decide) (by decide) rfl rfl).1 ?_
        refine g_pure (c' := (43, [(0, .ref l0), (1, .int l1)], [.int l1, .ref (jpt (jpt l0 3) 4)], (jE0, M))) 1 rfl ?_
        refine g_cI rfl (jc_v rfl rfl (jv_o (jk_ok (kd := 3) (jk_ok (kd := 2) pl0 (by decide) (by decide) rfl rfl) (by decide) (by decide) rfl rfl) rfl) rfl) (c42 (jpt (jpt l0 3) 4) l1 (jk_ok (kd := 3) (jk_ok (kd := 2) pl0 (by decide) (by decide) rfl rfl) (by decide) (by decide) rfl rfl)) (by decide) (fun v5 qv5 => ?_)
        refine g_pure (c' := (47, [(0, .ref l0), (1, .int l1)], [.int (-1 : Int32), .int v5], (jE0, M))) 1 rfl ?_
        refine g_ic_ne (tgt := 54) rfl rfl (fun q6 => ?_) (fun q6 => ?_)
        · refine g_pure (c' := (55, [(0, .ref l0), (1, .int l1)], [.int (1 : Int32)], (jE0, M))) 2 rfl ?_
          exact g_ret rfl rfl (fun _ h => h)
        · refine g_pure (c' := (55, [(0, .ref l0), (1, .int l1)], [.int (0 : Int32)], (jE0, M))) 1 rfl ?_
          exact g_ret rfl rfl (fun _ h => h)
/-- CometKin.areKinWithin -/
def f107 (M : JM) (l0 : Nat) (l1 : Int32) (l2 : Int32) (l3 : Int32) (l4 : Int32) : Option Int32 := ((f20 M (jpt l0 1) l1 l2 l4).bind fun v1 => (if v1 = (-1 : Int32) then (some (0 : Int32)) else (if l3 < v1 then (some (0 : Int32)) else (some (1 : Int32)))))
set_option maxRecDepth 100000 in
theorem c107 {xs : Option (List Int32)} {M : JM} (l0 : Nat) (l1 : Int32) (l2 : Int32) (l3 : Int32) (l4 : Int32) (pl0 : jok jE0 l0 6 = true) : JG xs 3 107 (f107 M l0 l1 l2 l3 l4) (fun x r => r = (some (.int x), (jE0, M))) (0, [(0, .ref l0), (1, .int l1), (2, .int l2), (3, .int l3), (4, .int l4)], [], (jE0, M)) := by
    unfold f107
    refine g_pure (c' := (1, [(0, .ref l0), (1, .int l1), (2, .int l2), (3, .int l3), (4, .int l4)], [.ref l0], (jE0, M))) 1 rfl ?_
    refine g_gp rfl rfl rfl pl0 (jp_ok (kd := 0) pl0 (by decide) (by decide) rfl rfl).1 ?_
    refine g_pure (c' := (8, [(0, .ref l0), (1, .int l1), (2, .int l2), (3, .int l3), (4, .int l4)], [.int l4, .int l2, .int l1, .ref (jpt l0 1)], (jE0, M))) 3 rfl ?_
    refine g_cI rfl (jc_v rfl rfl (jv_o (jk_ok (kd := 0) pl0 (by decide) (by decide) rfl rfl) rfl) rfl) (c20 (jpt l0 1) l1 l2 l4 (jk_ok (kd := 0) pl0 (by decide) (by decide) rfl rfl)) (by decide) (fun v1 qv1 => ?_)
    refine g_pure (c' := (16, [(5, .int v1), (0, .ref l0), (1, .int l1), (2, .int l2), (3, .int l3), (4, .int l4)], [.int (-1 : Int32), .int v1], (jE0, M))) 3 rfl ?_
    refine g_ic_eq (tgt := 29) rfl rfl (fun q2 => ?_) (fun q2 => ?_)
    · refine g_pure (c' := (30, [(5, .int v1), (0, .ref l0), (1, .int l1), (2, .int l2), (3, .int l3), (4, .int l4)], [.int (0 : Int32)], (jE0, M))) 1 rfl ?_
      exact g_ret rfl rfl (fun _ h => h)
    · refine g_pure (c' := (22, [(5, .int v1), (0, .ref l0), (1, .int l1), (2, .int l2), (3, .int l3), (4, .int l4)], [.int l3, .int v1], (jE0, M))) 2 rfl ?_
      refine g_ic_gt (tgt := 29) rfl rfl (fun q3 => ?_) (fun q3 => ?_)
      · refine g_pure (c' := (30, [(5, .int v1), (0, .ref l0), (1, .int l1), (2, .int l2), (3, .int l3), (4, .int l4)], [.int (0 : Int32)], (jE0, M))) 1 rfl ?_
        exact g_ret rfl rfl (fun _ h => h)
      · refine g_pure (c' := (30, [(5, .int v1), (0, .ref l0), (1, .int l1), (2, .int l2), (3, .int l3), (4, .int l4)], [.int (1 : Int32)], (jE0, M))) 2 rfl ?_
        exact g_ret rfl rfl (fun _ h => h)
/-- CometKin.mayMarry -/
def f109 (M : JM) (l0 : Nat) (l1 : Int32) (l2 : Int32) : Option Int32 := ((f108 M l0 l1).bind fun v1 => (if v1 = (0 : Int32) then (some (0 : Int32)) else ((f108 M l0 l2).bind fun v3 => (if v3 = (0 : Int32) then (some (0 : Int32)) else ((f107 M l0 l1 l2 (M (jpt l0 1) 2) (M (jpt l0 3) 0)).bind fun v5 => (if v5 = (0 : Int32) then (some (1 : Int32)) else (some (0 : Int32))))))))
set_option maxRecDepth 100000 in
theorem c109 {xs : Option (List Int32)} {M : JM} (l0 : Nat) (l1 : Int32) (l2 : Int32) (pl0 : jok jE0 l0 6 = true) : JG xs 4 109 (f109 M l0 l1 l2) (fun x r => r = (some (.int x), (jE0, M))) (0, [(0, .ref l0), (1, .int l1), (2, .int l2)], [], (jE0, M)) := by
    unfold f109
    refine g_pure (c' := (2, [(0, .ref l0), (1, .int l1), (2, .int l2)], [.int l1, .ref l0], (jE0, M))) 2 rfl ?_
    refine g_cI rfl (jc_v rfl rfl (jv_o pl0 rfl) rfl) (c108 l0 l1 pl0) (by decide) (fun v1 qv1 => ?_)
    refine g_if_eq (tgt := 43) rfl rfl (fun q2 => ?_) (fun q2 => ?_)
    · refine g_pure (c' := (44, [(0, .ref l0), (1, .int l1), (2, .int l2)], [.int (0 : Int32)], (jE0, M))) 1 rfl ?_
      exact g_ret rfl rfl (fun _ h => h)
    · refine g_pure (c' := (10, [(0, .ref l0), (1, .int l1), (2, .int l2)], [.int l2, .ref l0], (jE0, M))) 2 rfl ?_
      refine g_cI rfl (jc_v rfl rfl (jv_o pl0 rfl) rfl) (c108 l0 l2 pl0) (by decide) (fun v3 qv3 => ?_)
      refine g_if_eq (tgt := 43) rfl rfl (fun q4 => ?_) (fun q4 => ?_)
      · refine g_pure (c' := (44, [(0, .ref l0), (1, .int l1), (2, .int l2)], [.int (0 : Int32)], (jE0, M))) 1 rfl ?_
        exact g_ret rfl rfl (fun _ h => h)
      · refine g_pure (c' := (20, [(0, .ref l0), (1, .int l1), (2, .int l2)], [.ref l0, .int l2, .int l1, .ref l0], (jE0, M))) 4 rfl ?_
        refine g_gp rfl rfl rfl pl0 (jp_ok (kd := 0) pl0 (by decide) (by decide) rfl rfl).1 ?_
        refine g_gf (ci := 0) (k := 2) rfl rfl rfl (jk_ok (kd := 0) pl0 (by decide) (by decide) rfl rfl) ?_
        refine g_pure (c' := (27, [(0, .ref l0), (1, .int l1), (2, .int l2)], [.ref l0, .int (M (jpt l0 1) 2), .int l2, .int l1, .ref l0], (jE0, M))) 1 rfl ?_
        refine g_gp rfl rfl rfl pl0 (jp_ok (kd := 2) pl0 (by decide) (by decide) rfl rfl).1 ?_
        refine g_gf (ci := 2) (k := 0) rfl rfl rfl (jk_ok (kd := 2) pl0 (by decide) (by decide) rfl rfl) ?_
        refine g_cI rfl (jc_v rfl rfl (jv_o pl0 rfl) rfl) (c107 l0 l1 l2 (M (jpt l0 1) 2) (M (jpt l0 3) 0) pl0) (by decide) (fun v5 qv5 => ?_)
        refine g_if_ne (tgt := 43) rfl rfl (fun q6 => ?_) (fun q6 => ?_)
        · refine g_pure (c' := (44, [(0, .ref l0), (1, .int l1), (2, .int l2)], [.int (1 : Int32)], (jE0, M))) 2 rfl ?_
          exact g_ret rfl rfl (fun _ h => h)
        · refine g_pure (c' := (44, [(0, .ref l0), (1, .int l1), (2, .int l2)], [.int (0 : Int32)], (jE0, M))) 1 rfl ?_
          exact g_ret rfl rfl (fun _ h => h)
/-- CometKin.may -/
def f79 (M : JM) (l0 : Nat) (l1 : Int32) (l2 : Int32) : Option Int32 := ((f4 M (jpt l0 1) l1 l2).bind fun v1 => (if v1 = (0 : Int32) then (some (-2 : Int32)) else ((f109 M l0 l1 l2).bind fun v3 => (if v3 = (0 : Int32) then (some (0 : Int32)) else (some (1 : Int32))))))
set_option maxRecDepth 100000 in
theorem c79 {xs : Option (List Int32)} {M : JM} (l0 : Nat) (l1 : Int32) (l2 : Int32) (pl0 : jok jE0 l0 6 = true) : JG xs 5 79 (f79 M l0 l1 l2) (fun x r => r = (some (.int x), (jE0, M))) (0, [(0, .ref l0), (1, .int l1), (2, .int l2)], [], (jE0, M)) := by
    unfold f79
    refine g_pure (c' := (1, [(0, .ref l0), (1, .int l1), (2, .int l2)], [.ref l0], (jE0, M))) 1 rfl ?_
    refine g_gp rfl rfl rfl pl0 (jp_ok (kd := 0) pl0 (by decide) (by decide) rfl rfl).1 ?_
    refine g_pure (c' := (6, [(0, .ref l0), (1, .int l1), (2, .int l2)], [.int l2, .int l1, .ref (jpt l0 1)], (jE0, M))) 2 rfl ?_
    refine g_cI rfl (jc_v rfl rfl (jv_o (jk_ok (kd := 0) pl0 (by decide) (by decide) rfl rfl) rfl) rfl) (c4 (jpt l0 1) l1 l2 (jk_ok (kd := 0) pl0 (by decide) (by decide) rfl rfl)) (by decide) (fun v1 qv1 => ?_)
    refine g_if_ne (tgt := 15) rfl rfl (fun q2 => ?_) (fun q2 => ?_)
    · refine g_pure (c' := (14, [(0, .ref l0), (1, .int l1), (2, .int l2)], [.int (-2 : Int32)], (jE0, M))) 1 rfl ?_
      exact g_ret rfl rfl (fun _ h => h)
    · refine g_pure (c' := (18, [(0, .ref l0), (1, .int l1), (2, .int l2)], [.int l2, .int l1, .ref l0], (jE0, M))) 3 rfl ?_
      refine g_cI rfl (jc_v rfl rfl (jv_o pl0 rfl) rfl) (c109 l0 l1 l2 pl0) (by decide) (fun v3 qv3 => ?_)
      refine g_if_eq (tgt := 28) rfl rfl (fun q4 => ?_) (fun q4 => ?_)
      · refine g_pure (c' := (29, [(0, .ref l0), (1, .int l1), (2, .int l2)], [.int (0 : Int32)], (jE0, M))) 1 rfl ?_
        exact g_ret rfl rfl (fun _ h => h)
      · refine g_pure (c' := (29, [(0, .ref l0), (1, .int l1), (2, .int l2)], [.int (1 : Int32)], (jE0, M))) 2 rfl ?_
        exact g_ret rfl rfl (fun _ h => h)
/-- CometKinModel.areTwo -/
def f160 (M : JM) (l0 : Nat) (l1 : Int32) (l2 : Int32) : Option Int32 := ((f159 M l0 l1).bind fun v1 => (if v1 = (0 : Int32) then (some (0 : Int32)) else ((f159 M l0 l2).bind fun v3 => (if v3 = (0 : Int32) then (some (0 : Int32)) else (if l1 = l2 then (some (0 : Int32)) else (some (1 : Int32)))))))
set_option maxRecDepth 100000 in
theorem c160 {xs : Option (List Int32)} {M : JM} (l0 : Nat) (l1 : Int32) (l2 : Int32) (pl0 : jok jE0 l0 7 = true) : JG xs 2 160 (f160 M l0 l1 l2) (fun x r => r = (some (.int x), (jE0, M))) (0, [(0, .ref l0), (1, .int l1), (2, .int l2)], [], (jE0, M)) := by
    unfold f160
    refine g_pure (c' := (2, [(0, .ref l0), (1, .int l1), (2, .int l2)], [.int l1, .ref l0], (jE0, M))) 2 rfl ?_
    refine g_cI rfl (jc_v rfl rfl (jv_o pl0 rfl) rfl) (c159 l0 l1 pl0) (by decide) (fun v1 qv1 => ?_)
    refine g_if_eq (tgt := 25) rfl rfl (fun q2 => ?_) (fun q2 => ?_)
    · refine g_pure (c' := (26, [(0, .ref l0), (1, .int l1), (2, .int l2)], [.int (0 : Int32)], (jE0, M))) 1 rfl ?_
      exact g_ret rfl rfl (fun _ h => h)
    · refine g_pure (c' := (10, [(0, .ref l0), (1, .int l1), (2, .int l2)], [.int l2, .ref l0], (jE0, M))) 2 rfl ?_
      refine g_cI rfl (jc_v rfl rfl (jv_o pl0 rfl) rfl) (c159 l0 l2 pl0) (by decide) (fun v3 qv3 => ?_)
      refine g_if_eq (tgt := 25) rfl rfl (fun q4 => ?_) (fun q4 => ?_)
      · refine g_pure (c' := (26, [(0, .ref l0), (1, .int l1), (2, .int l2)], [.int (0 : Int32)], (jE0, M))) 1 rfl ?_
        exact g_ret rfl rfl (fun _ h => h)
      · refine g_pure (c' := (18, [(0, .ref l0), (1, .int l1), (2, .int l2)], [.int l2, .int l1], (jE0, M))) 2 rfl ?_
        refine g_ic_eq (tgt := 25) rfl rfl (fun q5 => ?_) (fun q5 => ?_)
        · refine g_pure (c' := (26, [(0, .ref l0), (1, .int l1), (2, .int l2)], [.int (0 : Int32)], (jE0, M))) 1 rfl ?_
          exact g_ret rfl rfl (fun _ h => h)
        · refine g_pure (c' := (26, [(0, .ref l0), (1, .int l1), (2, .int l2)], [.int (1 : Int32)], (jE0, M))) 2 rfl ?_
          exact g_ret rfl rfl (fun _ h => h)
/-- CometKinModel.isFree -/
def f172 (M : JM) (l0 : Nat) (l1 : Int32) : Option Int32 := ((jla (jpt l0 0) (10 : Int32) M).bind fun v1 => ((f126 v1 l1).bind fun v2 => (if v2 = (0 : Int32) then (some (0 : Int32)) else ((jla (jpt l0 9) l1 M).bind fun v4 => ((jla (jpt l0 0) (0 : Int32) M).bind fun v5 => (if v5 < v4 then (some (0 : Int32)) else ((jla (jpt l0 0) ((11 : Int32) + l1) M).bind fun v7 => (if v7 = (-1 : Int32) then (some (1 : Int32)) else (some (0 : Int32))))))))))
set_option maxRecDepth 100000 in
theorem c172 {xs : Option (List Int32)} {M : JM} (l0 : Nat) (l1 : Int32) (pl0 : jok jE0 l0 7 = true) : JG xs 1 172 (f172 M l0 l1) (fun x r => r = (some (.int x), (jE0, M))) (0, [(0, .ref l0), (1, .int l1)], [], (jE0, M)) := by
    unfold f172
    refine g_pure (c' := (1, [(0, .ref l0), (1, .int l1)], [.ref l0], (jE0, M))) 1 rfl ?_
    refine g_gp rfl rfl rfl pl0 (jp_ok (kd := 8) pl0 (by decide) (by decide) rfl rfl).1 ?_
    refine g_pure (c' := (6, [(0, .ref l0), (1, .int l1)], [.int (10 : Int32), .ref (jpt l0 0)], (jE0, M))) 1 rfl ?_
    refine g_ia rfl (jk_ok (kd := 8) pl0 (by decide) (by decide) rfl rfl) (fun v1 => ?_)
    refine g_pure (c' := (8, [(0, .ref l0), (1, .int l1)], [.int l1, .int v1], (jE0, M))) 1 rfl ?_
    refine g_cI rfl (jc_s rfl rfl) (c126 v1 l1) (by decide) (fun v2 qv2 => ?_)
    refine g_if_eq (tgt := 46) rfl rfl (fun q3 => ?_) (fun q3 => ?_)
    · refine g_pure (c' := (47, [(0, .ref l0), (1, .int l1)], [.int (0 : Int32)], (jE0, M))) 1 rfl ?_
      exact g_ret rfl rfl (fun _ h => h)
    · refine g_pure (c' := (15, [(0, .ref l0), (1, .int l1)], [.ref l0], (jE0, M))) 1 rfl ?_
      refine g_gp rfl rfl rfl pl0 (jp_ok (kd := 8) pl0 (by decide) (by decide) rfl rfl).1 ?_
      refine g_pure (c' := (19, [(0, .ref l0), (1, .int l1)], [.int l1, .ref (jpt l0 9)], (jE0, M))) 1 rfl ?_
      refine g_ia rfl (jk_ok (kd := 8) pl0 (by decide) (by decide) rfl rfl) (fun v4 => ?_)
      refine g_pure (c' := (21, [(0, .ref l0), (1, .int l1)], [.ref l0, .int v4], (jE0, M))) 1 rfl ?_
      refine g_gp rfl rfl rfl pl0 (jp_ok (kd := 8) pl0 (by decide) (by decide) rfl rfl).1 ?_
      refine g_pure (c' := (25, [(0, .ref l0), (1, .int l1)], [.int (0 : Int32), .ref (jpt l0 0), .int v4], (jE0, M))) 1 rfl ?_
      refine g_ia rfl (jk_ok (kd := 8) pl0 (by decide) (by decide) rfl rfl) (fun v5 => ?_)
      refine g_ic_gt (tgt := 46) rfl rfl (fun q6 => ?_) (fun q6 => ?_)
      · refine g_pure (c' := (47, [(0, .ref l0), (1, .int l1)], [.int (0 : Int32)], (jE0, M))) 1 rfl ?_
        exact g_ret rfl rfl (fun _ h => h)
      · refine g_pure (c' := (30, [(0, .ref l0), (1, .int l1)], [.ref l0], (jE0, M))) 1 rfl ?_
        refine g_gp rfl rfl rfl pl0 (jp_ok (kd := 8) pl0 (by decide) (by decide) rfl rfl).1 ?_
        refine g_pure (c' := (37, [(0, .ref l0), (1, .int l1)], [.int ((11 : Int32) + l1), .ref (jpt l0 0)], (jE0, M))) 3 rfl ?_
        refine g_ia rfl (jk_ok (kd := 8) pl0 (by decide) (by decide) rfl rfl) (fun v7 => ?_)
        refine g_pure (c' := (39, [(0, .ref l0), (1, .int l1)], [.int (-1 : Int32), .int v7], (jE0, M))) 1 rfl ?_
        refine g_ic_ne (tgt := 46) rfl rfl (fun q8 => ?_) (fun q8 => ?_)
        · refine g_pure (c' := (47, [(0, .ref l0), (1, .int l1)], [.int (1 : Int32)], (jE0, M))) 2 rfl ?_
          exact g_ret rfl rfl (fun _ h => h)
        · refine g_pure (c' := (47, [(0, .ref l0), (1, .int l1)], [.int (0 : Int32)], (jE0, M))) 1 rfl ?_
          exact g_ret rfl rfl (fun _ h => h)
/-- CometKinModel.areNear -/
def f158  (l0 : Nat) (l1 : Int32) (l2 : Int32) (l3 : Int32) (M : JM) : Option (Int32 × JM) := ((f156 l0 l1 l2 l3 M).bind fun z5 => (if z5.1 = (-1 : Int32) then (some ((0 : Int32), z5.2)) else (if (z5.2 l0 16) < z5.1 then (some ((0 : Int32), z5.2)) else (some ((1 : Int32), z5.2)))))
set_option maxRecDepth 100000 in
theorem c158 {xs : Option (List Int32)} (l0 : Nat) (l1 : Int32) (l2 : Int32) (l3 : Int32) (M : JM) (pl0 : jok jE0 l0 7 = true) : JG xs 6 158 (f158 l0 l1 l2 l3 M) (fun x r => r = (some (.int x.1), (jE0, x.2))) (0, [(0, .ref l0), (1, .int l1), (2, .int l2), (3, .int l3)], [], (jE0, M)) := by
    unfold f158
    refine g_pure (c' := (4, [(0, .ref l0), (1, .int l1), (2, .int l2), (3, .int l3)], [.int l3, .int l2, .int l1, .ref l0], (jE0, M))) 4 rfl ?_
    refine g_wI rfl (jc_v rfl rfl (jv_o pl0 rfl) rfl) (c156 l0 l1 l2 l3 M pl0) (by decide) (fun v2 M1 qv2 => ?_)
    refine g_pure (c' := (12, [(4, .int v2), (0, .ref l0), (1, .int l1), (2, .int l2), (3, .int l3)], [.int (-1 : Int32), .int v2], (jE0, M1))) 3 rfl ?_
    refine g_ic_eq (tgt := 28) rfl rfl (fun q3 => ?_) (fun q3 => ?_)
    · refine g_pure (c' := (29, [(4, .int v2), (0, .ref l0), (1, .int l1), (2, .int l2), (3, .int l3)], [.int (0 : Int32)], (jE0, M1))) 1 rfl ?_
      exact g_ret rfl rfl (fun _ h => h)
    · refine g_pure (c' := (18, [(4, .int v2), (0, .ref l0), (1, .int l1), (2, .int l2), (3, .int l3)], [.ref l0, .int v2], (jE0, M1))) 2 rfl ?_
      refine g_gf (ci := 7) (k := 16) rfl rfl rfl pl0 ?_
      refine g_ic_gt (tgt := 28) rfl rfl (fun q4 => ?_) (fun q4 => ?_)
      · refine g_pure (c' := (29, [(4, .int v2), (0, .ref l0), (1, .int l1), (2, .int l2), (3, .int l3)], [.int (0 : Int32)], (jE0, M1))) 1 rfl ?_
        exact g_ret rfl rfl (fun _ h => h)
      · refine g_pure (c' := (29, [(4, .int v2), (0, .ref l0), (1, .int l1), (2, .int l2), (3, .int l3)], [.int (1 : Int32)], (jE0, M1))) 2 rfl ?_
        exact g_ret rfl rfl (fun _ h => h)
/-- CometKinModel.mayMarry -/
def f173  (l0 : Nat) (l1 : Int32) (l2 : Int32) (M : JM) : Option (Int32 × JM) := ((f172 M l0 l1).bind fun v1 => (if v1 = (0 : Int32) then (some ((0 : Int32), M)) else ((f172 M l0 l2).bind fun v3 => (if v3 = (0 : Int32) then (some ((0 : Int32), M)) else ((jla (jpt l0 0) (0 : Int32) M).bind fun v5 => ((f158 l0 l1 l2 v5 M).bind fun z9 => (if z9.1 = (0 : Int32) then (some ((1 : Int32), z9.2)) else (some ((0 : Int32), z9.2)))))))))
set_option maxRecDepth 100000 in
theorem c173 {xs : Option (List Int32)} (l0 : Nat) (l1 : Int32) (l2 : Int32) (M : JM) (pl0 : jok jE0 l0 7 = true) : JG xs 7 173 (f173 l0 l1 l2 M) (fun x r => r = (some (.int x.1), (jE0, x.2))) (0, [(0, .ref l0), (1, .int l1), (2, .int l2)], [], (jE0, M)) := by
    unfold f173
    refine g_pure (c' := (2, [(0, .ref l0), (1, .int l1), (2, .int l2)], [.int l1, .ref l0], (jE0, M))) 2 rfl ?_
    refine g_cI rfl (jc_v rfl rfl (jv_o pl0 rfl) rfl) (c172 l0 l1 pl0) (by decide) (fun v1 qv1 => ?_)
    refine g_if_eq (tgt := 35) rfl rfl (fun q2 => ?_) (fun q2 => ?_)
    · refine g_pure (c' := (36, [(0, .ref l0), (1, .int l1), (2, .int l2)], [.int (0 : Int32)], (jE0, M))) 1 rfl ?_
      exact g_ret rfl rfl (fun _ h => h)
    · refine g_pure (c' := (10, [(0, .ref l0), (1, .int l1), (2, .int l2)], [.int l2, .ref l0], (jE0, M))) 2 rfl ?_
      refine g_cI rfl (jc_v rfl rfl (jv_o pl0 rfl) rfl) (c172 l0 l2 pl0) (by decide) (fun v3 qv3 => ?_)
      refine g_if_eq (tgt := 35) rfl rfl (fun q4 => ?_) (fun q4 => ?_)
      · refine g_pure (c' := (36, [(0, .ref l0), (1, .int l1), (2, .int l2)], [.int (0 : Int32)], (jE0, M))) 1 rfl ?_
        exact g_ret rfl rfl (fun _ h => h)
      · refine g_pure (c' := (20, [(0, .ref l0), (1, .int l1), (2, .int l2)], [.ref l0, .int l2, .int l1, .ref l0], (jE0, M))) 4 rfl ?_
        refine g_gp rfl rfl rfl pl0 (jp_ok (kd := 8) pl0 (by decide) (by decide) rfl rfl).1 ?_
        refine g_pure (c' := (24, [(0, .ref l0), (1, .int l1), (2, .int l2)], [.int (0 : Int32), .ref (jpt l0 0), .int l2, .int l1, .ref l0], (jE0, M))) 1 rfl ?_
        refine g_ia rfl (jk_ok (kd := 8) pl0 (by decide) (by decide) rfl rfl) (fun v5 => ?_)
        refine g_wI rfl (jc_v rfl rfl (jv_o pl0 rfl) rfl) (c158 l0 l1 l2 v5 M pl0) (by decide) (fun v7 M6 qv7 => ?_)
        refine g_if_ne (tgt := 35) rfl rfl (fun q8 => ?_) (fun q8 => ?_)
        · refine g_pure (c' := (36, [(0, .ref l0), (1, .int l1), (2, .int l2)], [.int (1 : Int32)], (jE0, M6))) 2 rfl ?_
          exact g_ret rfl rfl (fun _ h => h)
        · refine g_pure (c' := (36, [(0, .ref l0), (1, .int l1), (2, .int l2)], [.int (0 : Int32)], (jE0, M6))) 1 rfl ?_
          exact g_ret rfl rfl (fun _ h => h)
/-- CometKinModel.may -/
def f174  (l0 : Nat) (l1 : Int32) (l2 : Int32) (M : JM) : Option (Int32 × JM) := ((f160 M l0 l1 l2).bind fun v1 => (if v1 = (0 : Int32) then (some ((-2 : Int32), M)) else ((f173 l0 l1 l2 M).bind fun z6 => (if z6.1 = (0 : Int32) then (some ((0 : Int32), z6.2)) else (some ((1 : Int32), z6.2))))))
set_option maxRecDepth 100000 in
theorem c174 {xs : Option (List Int32)} (l0 : Nat) (l1 : Int32) (l2 : Int32) (M : JM) (pl0 : jok jE0 l0 7 = true) : JG xs 8 174 (f174 l0 l1 l2 M) (fun x r => r = (some (.int x.1), (jE0, x.2))) (0, [(0, .ref l0), (1, .int l1), (2, .int l2)], [], (jE0, M)) := by
    unfold f174
    refine g_pure (c' := (3, [(0, .ref l0), (1, .int l1), (2, .int l2)], [.int l2, .int l1, .ref l0], (jE0, M))) 3 rfl ?_
    refine g_cI rfl (jc_v rfl rfl (jv_o pl0 rfl) rfl) (c160 l0 l1 l2 pl0) (by decide) (fun v1 qv1 => ?_)
    refine g_if_ne (tgt := 14) rfl rfl (fun q2 => ?_) (fun q2 => ?_)
    · refine g_pure (c' := (28, [(0, .ref l0), (1, .int l1), (2, .int l2)], [.int (-2 : Int32)], (jE0, M))) 2 rfl ?_
      exact g_ret rfl rfl (fun _ h => h)
    · refine g_pure (c' := (17, [(0, .ref l0), (1, .int l1), (2, .int l2)], [.int l2, .int l1, .ref l0], (jE0, M))) 3 rfl ?_
      refine g_wI rfl (jc_v rfl rfl (jv_o pl0 rfl) rfl) (c173 l0 l1 l2 M pl0) (by decide) (fun v4 M3 qv4 => ?_)
      refine g_if_eq (tgt := 27) rfl rfl (fun q5 => ?_) (fun q5 => ?_)
      · refine g_pure (c' := (28, [(0, .ref l0), (1, .int l1), (2, .int l2)], [.int (0 : Int32)], (jE0, M3))) 1 rfl ?_
        exact g_ret rfl rfl (fun _ h => h)
      · refine g_pure (c' := (28, [(0, .ref l0), (1, .int l1), (2, .int l2)], [.int (1 : Int32)], (jE0, M3))) 2 rfl ?_
        exact g_ret rfl rfl (fun _ h => h)
def f110_33 (M : JM) (h4 : Nat → Int32 → Int32 → Option Int32) (l0 : Nat) (l1 : Int32) (l2 : Int32) : Option Int32 := (h4 l0 l1 (l2 + (1 : Int32)))
set_option maxRecDepth 100000 in
theorem c110_33 {xs : Option (List Int32)} {M : JM} (h4 : Nat → Int32 → Int32 → Option Int32) (H4 : ∀ (l0 : Nat) (l1 : Int32) (l2 : Int32) (pl0 : jok jE0 l0 6 = true), JG xs 1 110 (h4 l0 l1 l2) (fun x r => r = (some (.int x), (jE0, M))) (4, [(0, .ref l0), (1, .int l1), (2, .int l2)], [], (jE0, M))) : ∀ (l0 : Nat) (l1 : Int32) (l2 : Int32) (pl0 : jok jE0 l0 6 = true), JG xs 1 110 (f110_33 M h4 l0 l1 l2) (fun x r => r = (some (.int x), (jE0, M))) (33, [(0, .ref l0), (1, .int l1), (2, .int l2)], [], (jE0, M)) := by
    intro l0 l1 l2 pl0
    unfold f110_33
    refine g_pure (c' := (4, [(2, .int (l2 + (1 : Int32))), (0, .ref l0), (1, .int l1)], [], (jE0, M))) 2 rfl ?_
    refine g_weakk (lv := [(0, .ref l0), (1, .int l1), (2, .int (l2 + (1 : Int32)))]) ⟨rfl, rfl, rfl, trivial⟩ [0, 1, 2] rfl (by decide) [2, 0, 1] rfl (by decide) ?_
    exact (H4 l0 l1 (l2 + (1 : Int32)) pl0)
def f110_4 (M : JM) : Nat → Nat → Int32 → Int32 → Option Int32
  | 0, _, _, _ => none
  | n + 1, l0, l1, l2 => (if l2 < (M (jpt l0 1) 0) then ((f42 M (jpt (jpt l0 3) 4) l2).bind fun v2 => (if v2 = (-1 : Int32) then (f110_33 M (f110_4 M n) l0 l1 l2) else (f110_33 M (f110_4 M n) l0 (l1 + (1 : Int32)) l2))) else ((jdv l1 (2 : Int32)).bind fun v4 => (some v4)))
set_option maxRecDepth 100000 in
theorem c110_4 {xs : Option (List Int32)} {M : JM} : ∀ (n : Nat) (l0 : Nat) (l1 : Int32) (l2 : Int32) (pl0 : jok jE0 l0 6 = true), JG xs 1 110 (f110_4 M n l0 l1 l2) (fun x r => r = (some (.int x), (jE0, M))) (4, [(0, .ref l0), (1, .int l1), (2, .int l2)], [], (jE0, M))
  | 0, _, _, _, _ => by rw [f110_4]; exact g_none
  | n + 1, l0, l1, l2, pl0 => by
    rw [f110_4]
    refine g_pure (c' := (6, [(0, .ref l0), (1, .int l1), (2, .int l2)], [.ref l0, .int l2], (jE0, M))) 2 rfl ?_
    refine g_gp rfl rfl rfl pl0 (jp_ok (kd := 0) pl0 (by decide) (by decide) rfl rfl).1 ?_
    refine g_gf (ci := 0) (k := 0) rfl rfl rfl (jk_ok (kd := 0) pl0 (by decide) (by decide) rfl rfl) ?_
    refine g_ic_ge (tgt := 39) rfl rfl (fun q1 => ?_) (fun q1 => ?_)
    · refine g_pure (c' := (16, [(0, .ref l0), (1, .int l1), (2, .int l2)], [.ref l0], (jE0, M))) 1 rfl ?_
      refine g_gp rfl rfl rfl pl0 (jp_ok (kd := 2) pl0 (by decide) (by decide) rfl rfl).1 ?_
      refine g_gp rfl rfl rfl (jk_ok (kd := 2) pl0 (by decide) (by decide) rfl rfl) (jp_ok (kd := 3) (jk_ok (kd := 2) pl0 (by decide) (by decide) rfl rfl) (by decide) (by decide) rfl rfl).1 ?_
      refine g_pure (c' := (23, [(0, .ref l0), (1, .int l1), (2, .int l2)], [.int l2, .ref (jpt (jpt l0 3) 4)], (jE0, M))) 1 rfl ?_
      refine g_cI rfl (jc_v rfl rfl (jv_o (jk_ok (kd := 3) (jk_ok (kd := 2) pl0 (by decide) (by decide) rfl rfl) (by decide) (by decide) rfl rfl) rfl) rfl) (c42 (jpt (jpt l0 3) 4) l2 (jk_ok (kd := 3) (jk_ok (kd := 2) pl0 (by decide) (by decide) rfl rfl) (by decide) (by decide) rfl rfl)) (by decide) (fun v2 qv2 => ?_)
      refine g_pure (c' := (27, [(0, .ref l0), (1, .int l1), (2, .int l2)], [.int (-1 : Int32), .int v2], (jE0, M))) 1 rfl ?_
      refine g_ic_eq (tgt := 33) rfl rfl (fun q3 => ?_) (fun q3 => ?_)
      · exact (c110_33 (f110_4 M n) (c110_4 n) l0 l1 l2 pl0)
      · refine g_pure (c' := (33, [(1, .int (l1 + (1 : Int32))), (0, .ref l0), (2, .int l2)], [], (jE0, M))) 1 rfl ?_
        refine g_weakk (lv := [(0, .ref l0), (1, .int (l1 + (1 : Int32))), (2, .int l2)]) ⟨rfl, rfl, rfl, trivial⟩ [0, 1, 2] rfl (by decide) [1, 0, 2] rfl (by decide) ?_
        exact (c110_33 (f110_4 M n) (c110_4 n) l0 (l1 + (1 : Int32)) l2 pl0)
    · refine g_pure (c' := (41, [(0, .ref l0), (1, .int l1), (2, .int l2)], [.int (2 : Int32), .int l1], (jE0, M))) 2 rfl ?_
      refine g_d1 rfl (fun v4 => ?_)
      exact g_ret rfl rfl (fun _ h => h)
/-- CometKin.marriages -/
def f110 (M : JM) (l0 : Nat) : Option Int32 := (f110_4 M 1000 l0 (0 : Int32) (0 : Int32))
set_option maxRecDepth 100000 in
theorem c110 {xs : Option (List Int32)} {M : JM} (l0 : Nat) (pl0 : jok jE0 l0 6 = true) : JG xs 1 110 (f110 M l0) (fun x r => r = (some (.int x), (jE0, M))) (0, [(0, .ref l0)], [], (jE0, M)) := by
    unfold f110
    refine g_pure (c' := (4, [(2, .int (0 : Int32)), (1, .int (0 : Int32)), (0, .ref l0)], [], (jE0, M))) 4 rfl ?_
    refine g_weakk (lv := [(0, .ref l0), (1, .int (0 : Int32)), (2, .int (0 : Int32))]) ⟨rfl, rfl, rfl, trivial⟩ [0, 1, 2] rfl (by decide) [2, 1, 0] rfl (by decide) ?_
    exact (c110_4 1000 l0 (0 : Int32) (0 : Int32) pl0)
/-- CometKin.wed -/
def f80  (l0 : Nat) (l1 : Int32) (l2 : Int32) (M : JM) : Option (Int32 × JM) := ((f4 M (jpt l0 1) l1 l2).bind fun v1 => (if v1 = (0 : Int32) then (some ((-2 : Int32), M)) else ((f109 M l0 l1 l2).bind fun v3 => (if v3 = (0 : Int32) then (some ((-4 : Int32), M)) else ((f105 l0 M).bind fun M5 => ((f43 (jpt (jpt l0 3) 4) l1 l2 M5).bind fun M6 => ((f43 (jpt (jpt l0 3) 4) l2 l1 M6).bind fun M7 => ((f110 M7 l0).bind fun v8 => (some (v8, M7))))))))))
set_option maxRecDepth 100000 in
theorem c80 {xs : Option (List Int32)} (l0 : Nat) (l1 : Int32) (l2 : Int32) (M : JM) (pl0 : jok jE0 l0 6 = true) : JG xs 5 80 (f80 l0 l1 l2 M) (fun x r => r = (some (.int x.1), (jE0, x.2))) (0, [(0, .ref l0), (1, .int l1), (2, .int l2)], [], (jE0, M)) := by
    unfold f80
    refine g_pure (c' := (1, [(0, .ref l0), (1, .int l1), (2, .int l2)], [.ref l0], (jE0, M))) 1 rfl ?_
    refine g_gp rfl rfl rfl pl0 (jp_ok (kd := 0) pl0 (by decide) (by decide) rfl rfl).1 ?_
    refine g_pure (c' := (6, [(0, .ref l0), (1, .int l1), (2, .int l2)], [.int l2, .int l1, .ref (jpt l0 1)], (jE0, M))) 2 rfl ?_
    refine g_cI rfl (jc_v rfl rfl (jv_o (jk_ok (kd := 0) pl0 (by decide) (by decide) rfl rfl) rfl) rfl) (c4 (jpt l0 1) l1 l2 (jk_ok (kd := 0) pl0 (by decide) (by decide) rfl rfl)) (by decide) (fun v1 qv1 => ?_)
    refine g_if_ne (tgt := 15) rfl rfl (fun q2 => ?_) (fun q2 => ?_)
    · refine g_pure (c' := (14, [(0, .ref l0), (1, .int l1), (2, .int l2)], [.int (-2 : Int32)], (jE0, M))) 1 rfl ?_
      exact g_ret rfl rfl (fun _ h => h)
    · refine g_pure (c' := (18, [(0, .ref l0), (1, .int l1), (2, .int l2)], [.int l2, .int l1, .ref l0], (jE0, M))) 3 rfl ?_
      refine g_cI rfl (jc_v rfl rfl (jv_o pl0 rfl) rfl) (c109 l0 l1 l2 pl0) (by decide) (fun v3 qv3 => ?_)
      refine g_if_ne (tgt := 27) rfl rfl (fun q4 => ?_) (fun q4 => ?_)
      · refine g_pure (c' := (26, [(0, .ref l0), (1, .int l1), (2, .int l2)], [.int (-4 : Int32)], (jE0, M))) 1 rfl ?_
        exact g_ret rfl rfl (fun _ h => h)
      · refine g_pure (c' := (28, [(0, .ref l0), (1, .int l1), (2, .int l2)], [.ref l0], (jE0, M))) 1 rfl ?_
        refine g_wV rfl (jc_v rfl rfl (jv_o pl0 rfl) rfl) (c105 l0 M pl0) (by decide) (fun M5 => ?_)
        refine g_pure (c' := (32, [(0, .ref l0), (1, .int l1), (2, .int l2)], [.ref l0], (jE0, M5))) 1 rfl ?_
        refine g_gp rfl rfl rfl pl0 (jp_ok (kd := 2) pl0 (by decide) (by decide) rfl rfl).1 ?_
        refine g_gp rfl rfl rfl (jk_ok (kd := 2) pl0 (by decide) (by decide) rfl rfl) (jp_ok (kd := 3) (jk_ok (kd := 2) pl0 (by decide) (by decide) rfl rfl) (by decide) (by decide) rfl rfl).1 ?_
        refine g_pure (c' := (40, [(0, .ref l0), (1, .int l1), (2, .int l2)], [.int l2, .int l1, .ref (jpt (jpt l0 3) 4)], (jE0, M5))) 2 rfl ?_
        refine g_wV rfl (jc_v rfl rfl (jv_o (jk_ok (kd := 3) (jk_ok (kd := 2) pl0 (by decide) (by decide) rfl rfl) (by decide) (by decide) rfl rfl) rfl) rfl) (c43 (jpt (jpt l0 3) 4) l1 l2 M5 (jk_ok (kd := 3) (jk_ok (kd := 2) pl0 (by decide) (by decide) rfl rfl) (by decide) (by decide) rfl rfl)) (by decide) (fun M6 => ?_)
        refine g_pure (c' := (44, [(0, .ref l0), (1, .int l1), (2, .int l2)], [.ref l0], (jE0, M6))) 1 rfl ?_
        refine g_gp rfl rfl rfl pl0 (jp_ok (kd := 2) pl0 (by decide) (by decide) rfl rfl).1 ?_
        refine g_gp rfl rfl rfl (jk_ok (kd := 2) pl0 (by decide) (by decide) rfl rfl) (jp_ok (kd := 3) (jk_ok (kd := 2) pl0 (by decide) (by decide) rfl rfl) (by decide) (by decide) rfl rfl).1 ?_
        refine g_pure (c' := (52, [(0, .ref l0), (1, .int l1), (2, .int l2)], [.int l1, .int l2, .ref (jpt (jpt l0 3) 4)], (jE0, M6))) 2 rfl ?_
        refine g_wV rfl (jc_v rfl rfl (jv_o (jk_ok (kd := 3) (jk_ok (kd := 2) pl0 (by decide) (by decide) rfl rfl) (by decide) (by decide) rfl rfl) rfl) rfl) (c43 (jpt (jpt l0 3) 4) l2 l1 M6 (jk_ok (kd := 3) (jk_ok (kd := 2) pl0 (by decide) (by decide) rfl rfl) (by decide) (by decide) rfl rfl)) (by decide) (fun M7 => ?_)
        refine g_pure (c' := (56, [(0, .ref l0), (1, .int l1), (2, .int l2)], [.ref l0], (jE0, M7))) 1 rfl ?_
        refine g_cI rfl (jc_v rfl rfl (jv_o pl0 rfl) rfl) (c110 l0 pl0) (by decide) (fun v8 qv8 => ?_)
        exact g_ret rfl rfl (fun _ h => h)
def f175_31 (M : JM) (h4 : Nat → Int32 → Int32 → Option Int32) (l0 : Nat) (l2 : Int32) (s0 : Int32) (s1 : Int32) : Option Int32 := (h4 l0 (s1 + s0) (l2 + (1 : Int32)))
set_option maxRecDepth 100000 in
theorem c175_31 {xs : Option (List Int32)} {M : JM} (h4 : Nat → Int32 → Int32 → Option Int32) (H4 : ∀ (l0 : Nat) (l1 : Int32) (l2 : Int32) (pl0 : jok jE0 l0 7 = true), JG xs 0 175 (h4 l0 l1 l2) (fun x r => r = (some (.int x), (jE0, M))) (4, [(0, .ref l0), (1, .int l1), (2, .int l2)], [], (jE0, M))) : ∀ (l0 : Nat) (l2 : Int32) (s0 : Int32) (s1 : Int32) (pl0 : jok jE0 l0 7 = true), JG xs 0 175 (f175_31 M h4 l0 l2 s0 s1) (fun x r => r = (some (.int x), (jE0, M))) (31, [(0, .ref l0), (2, .int l2)], [.int s0, .int s1], (jE0, M)) := by
    intro l0 l2 s0 s1 pl0
    unfold f175_31
    refine g_pure (c' := (4, [(2, .int (l2 + (1 : Int32))), (1, .int (s1 + s0)), (0, .ref l0)], [], (jE0, M))) 4 rfl ?_
    refine g_weakk (lv := [(0, .ref l0), (1, .int (s1 + s0)), (2, .int (l2 + (1 : Int32)))]) ⟨rfl, rfl, rfl, trivial⟩ [0, 1, 2] rfl (by decide) [2, 1, 0] rfl (by decide) ?_
    exact (H4 l0 (s1 + s0) (l2 + (1 : Int32)) pl0)
def f175_4 (M : JM) : Nat → Nat → Int32 → Int32 → Option Int32
  | 0, _, _, _ => none
  | n + 1, l0, l1, l2 => (if l2 < (M l0 7) then ((jla (jpt l0 0) ((11 : Int32) + l2) M).bind fun v2 => (if l2 < v2 then (f175_31 M (f175_4 M n) l0 l2 (1 : Int32) l1) else (f175_31 M (f175_4 M n) l0 l2 (0 : Int32) l1))) else (some l1))
set_option maxRecDepth 100000 in
theorem c175_4 {xs : Option (List Int32)} {M : JM} : ∀ (n : Nat) (l0 : Nat) (l1 : Int32) (l2 : Int32) (pl0 : jok jE0 l0 7 = true), JG xs 0 175 (f175_4 M n l0 l1 l2) (fun x r => r = (some (.int x), (jE0, M))) (4, [(0, .ref l0), (1, .int l1), (2, .int l2)], [], (jE0, M))
  | 0, _, _, _, _ => by rw [f175_4]; exact g_none
  | n + 1, l0, l1, l2, pl0 => by
    rw [f175_4]
    refine g_pure (c' := (6, [(0, .ref l0), (1, .int l1), (2, .int l2)], [.ref l0, .int l2], (jE0, M))) 2 rfl ?_
    refine g_gf (ci := 7) (k := 7) rfl rfl rfl pl0 ?_
    refine g_ic_ge (tgt := 39) rfl rfl (fun q1 => ?_) (fun q1 => ?_)
    · refine g_pure (c' := (14, [(0, .ref l0), (1, .int l1), (2, .int l2)], [.ref l0, .int l1], (jE0, M))) 2 rfl ?_
      refine g_gp rfl rfl rfl pl0 (jp_ok (kd := 8) pl0 (by decide) (by decide) rfl rfl).1 ?_
      refine g_pure (c' := (21, [(0, .ref l0), (1, .int l1), (2, .int l2)], [.int ((11 : Int32) + l2), .ref (jpt l0 0), .int l1], (jE0, M))) 3 rfl ?_
      refine g_ia rfl (jk_ok (kd := 8) pl0 (by decide) (by decide) rfl rfl) (fun v2 => ?_)
      refine g_pure (c' := (23, [(0, .ref l0), (1, .int l1), (2, .int l2)], [.int l2, .int v2, .int l1], (jE0, M))) 1 rfl ?_
      refine g_ic_le (tgt := 30) rfl rfl (fun q3 => ?_) (fun q3 => ?_)
      · refine g_pure (c' := (31, [(0, .ref l0), (1, .int l1), (2, .int l2)], [.int (1 : Int32), .int l1], (jE0, M))) 2 rfl ?_
        refine g_weakk (lv := [(0, .ref l0), (2, .int l2)]) ⟨rfl, rfl, trivial⟩ [0, 2] rfl (by decide) [0, 1, 2] rfl (by decide) ?_
        exact (c175_31 (f175_4 M n) (c175_4 n) l0 l2 (1 : Int32) l1 pl0)
      · refine g_pure (c' := (31, [(0, .ref l0), (1, .int l1), (2, .int l2)], [.int (0 : Int32), .int l1], (jE0, M))) 1 rfl ?_
        refine g_weakk (lv := [(0, .ref l0), (2, .int l2)]) ⟨rfl, rfl, trivial⟩ [0, 2] rfl (by decide) [0, 1, 2] rfl (by decide) ?_
        exact (c175_31 (f175_4 M n) (c175_4 n) l0 l2 (0 : Int32) l1 pl0)
    · refine g_pure (c' := (40, [(0, .ref l0), (1, .int l1), (2, .int l2)], [.int l1], (jE0, M))) 1 rfl ?_
      exact g_ret rfl rfl (fun _ h => h)
/-- CometKinModel.marriages -/
def f175 (M : JM) (l0 : Nat) : Option Int32 := (f175_4 M 1000 l0 (0 : Int32) (0 : Int32))
set_option maxRecDepth 100000 in
theorem c175 {xs : Option (List Int32)} {M : JM} (l0 : Nat) (pl0 : jok jE0 l0 7 = true) : JG xs 0 175 (f175 M l0) (fun x r => r = (some (.int x), (jE0, M))) (0, [(0, .ref l0)], [], (jE0, M)) := by
    unfold f175
    refine g_pure (c' := (4, [(2, .int (0 : Int32)), (1, .int (0 : Int32)), (0, .ref l0)], [], (jE0, M))) 4 rfl ?_
    refine g_weakk (lv := [(0, .ref l0), (1, .int (0 : Int32)), (2, .int (0 : Int32))]) ⟨rfl, rfl, rfl, trivial⟩ [0, 1, 2] rfl (by decide) [2, 1, 0] rfl (by decide) ?_
    exact (c175_4 1000 l0 (0 : Int32) (0 : Int32) pl0)
/-- CometKinModel.wed -/
def f176  (l0 : Nat) (l1 : Int32) (l2 : Int32) (M : JM) : Option (Int32 × JM) := ((f160 M l0 l1 l2).bind fun v1 => (if v1 = (0 : Int32) then (some ((-2 : Int32), M)) else ((f173 l0 l1 l2 M).bind fun z10 => (if z10.1 = (0 : Int32) then (some ((-4 : Int32), z10.2)) else ((f170 l0 z10.2).bind fun M6 => ((jsa (jpt l0 0) ((11 : Int32) + l1) l2 M6).bind fun M7 => ((jsa (jpt l0 0) ((11 : Int32) + l2) l1 M7).bind fun M8 => ((f175 M8 l0).bind fun v9 => (some (v9, M8))))))))))
set_option maxRecDepth 100000 in
theorem c176 {xs : Option (List Int32)} (l0 : Nat) (l1 : Int32) (l2 : Int32) (M : JM) (pl0 : jok jE0 l0 7 = true) : JG xs 8 176 (f176 l0 l1 l2 M) (fun x r => r = (some (.int x.1), (jE0, x.2))) (0, [(0, .ref l0), (1, .int l1), (2, .int l2)], [], (jE0, M)) := by
    unfold f176
    refine g_pure (c' := (3, [(0, .ref l0), (1, .int l1), (2, .int l2)], [.int l2, .int l1, .ref l0], (jE0, M))) 3 rfl ?_
    refine g_cI rfl (jc_v rfl rfl (jv_o pl0 rfl) rfl) (c160 l0 l1 l2 pl0) (by decide) (fun v1 qv1 => ?_)
    refine g_if_ne (tgt := 12) rfl rfl (fun q2 => ?_) (fun q2 => ?_)
    · refine g_pure (c' := (11, [(0, .ref l0), (1, .int l1), (2, .int l2)], [.int (-2 : Int32)], (jE0, M))) 1 rfl ?_
      exact g_ret rfl rfl (fun _ h => h)
    · refine g_pure (c' := (15, [(0, .ref l0), (1, .int l1), (2, .int l2)], [.int l2, .int l1, .ref l0], (jE0, M))) 3 rfl ?_
      refine g_wI rfl (jc_v rfl rfl (jv_o pl0 rfl) rfl) (c173 l0 l1 l2 M pl0) (by decide) (fun v4 M3 qv4 => ?_)
      refine g_if_ne (tgt := 24) rfl rfl (fun q5 => ?_) (fun q5 => ?_)
      · refine g_pure (c' := (23, [(0, .ref l0), (1, .int l1), (2, .int l2)], [.int (-4 : Int32)], (jE0, M3))) 1 rfl ?_
        exact g_ret rfl rfl (fun _ h => h)
      · refine g_pure (c' := (25, [(0, .ref l0), (1, .int l1), (2, .int l2)], [.ref l0], (jE0, M3))) 1 rfl ?_
        refine g_wV rfl (jc_v rfl rfl (jv_o pl0 rfl) rfl) (c170 l0 M3 pl0) (by decide) (fun M6 => ?_)
        refine g_pure (c' := (29, [(0, .ref l0), (1, .int l1), (2, .int l2)], [.ref l0], (jE0, M6))) 1 rfl ?_
        refine g_gp rfl rfl rfl pl0 (jp_ok (kd := 8) pl0 (by decide) (by decide) rfl rfl).1 ?_
        refine g_pure (c' := (37, [(0, .ref l0), (1, .int l1), (2, .int l2)], [.int l2, .int ((11 : Int32) + l1), .ref (jpt l0 0)], (jE0, M6))) 4 rfl ?_
        refine g_is rfl (jk_ok (kd := 8) pl0 (by decide) (by decide) rfl rfl) (fun M7 => ?_)
        refine g_pure (c' := (39, [(0, .ref l0), (1, .int l1), (2, .int l2)], [.ref l0], (jE0, M7))) 1 rfl ?_
        refine g_gp rfl rfl rfl pl0 (jp_ok (kd := 8) pl0 (by decide) (by decide) rfl rfl).1 ?_
        refine g_pure (c' := (47, [(0, .ref l0), (1, .int l1), (2, .int l2)], [.int l1, .int ((11 : Int32) + l2), .ref (jpt l0 0)], (jE0, M7))) 4 rfl ?_
        refine g_is rfl (jk_ok (kd := 8) pl0 (by decide) (by decide) rfl rfl) (fun M8 => ?_)
        refine g_pure (c' := (49, [(0, .ref l0), (1, .int l1), (2, .int l2)], [.ref l0], (jE0, M8))) 1 rfl ?_
        refine g_cI rfl (jc_v rfl rfl (jv_o pl0 rfl) rfl) (c175 l0 pl0) (by decide) (fun v9 qv9 => ?_)
        exact g_ret rfl rfl (fun _ h => h)
/-- CometKin$Life.bury -/
def f40  (l0 : Nat) (l1 : Int32) (M : JM) : Option JM := ((f100 l1).bind fun v1 => ((some (jup M l0 1 ((M l0 1) &&& (v1 ^^^ (-1 : Int32))))).bind fun M2 => ((f42 M2 (jpt l0 4) l1).bind fun v3 => ((f43 (jpt l0 4) v3 (-1 : Int32) M2).bind fun M4 => ((f43 (jpt l0 4) l1 (-1 : Int32) M4).bind fun M5 => ((f43 (jpt l0 5) l1 (0 : Int32) M5).bind fun M6 => (some M6)))))))
set_option maxRecDepth 100000 in
theorem c40 {xs : Option (List Int32)} (l0 : Nat) (l1 : Int32) (M : JM) (pl0 : jok jE0 l0 2 = true) : JG xs 1 40 (f40 l0 l1 M) (fun x r => r = (none, (jE0, x))) (0, [(0, .ref l0), (1, .int l1)], [], (jE0, M)) := by
    unfold f40
    refine g_pure (c' := (2, [(0, .ref l0), (1, .int l1)], [.ref l0, .ref l0], (jE0, M))) 2 rfl ?_
    refine g_gf (ci := 2) (k := 1) rfl rfl rfl pl0 ?_
    refine g_pure (c' := (6, [(0, .ref l0), (1, .int l1)], [.int l1, .int (M l0 1), .ref l0], (jE0, M))) 1 rfl ?_
    refine g_cI rfl (jc_s rfl rfl) (c100 l1) (by decide) (fun v1 qv1 => ?_)
    refine g_pure (c' := (12, [(0, .ref l0), (1, .int l1)], [.int ((M l0 1) &&& (v1 ^^^ (-1 : Int32))), .ref l0], (jE0, M))) 3 rfl ?_
    refine g_pf (ci := 2) (k := 1) rfl rfl rfl rfl pl0 (fun M2 => ?_)
    refine g_pure (c' := (16, [(0, .ref l0), (1, .int l1)], [.ref l0], (jE0, M2))) 1 rfl ?_
    refine g_gp rfl rfl rfl pl0 (jp_ok (kd := 3) pl0 (by decide) (by decide) rfl rfl).1 ?_
    refine g_pure (c' := (20, [(0, .ref l0), (1, .int l1)], [.ref l0, .ref (jpt l0 4)], (jE0, M2))) 1 rfl ?_
    refine g_gp rfl rfl rfl pl0 (jp_ok (kd := 3) pl0 (by decide) (by decide) rfl rfl).1 ?_
    refine g_pure (c' := (24, [(0, .ref l0), (1, .int l1)], [.int l1, .ref (jpt l0 4), .ref (jpt l0 4)], (jE0, M2))) 1 rfl ?_
    refine g_cI rfl (jc_v rfl rfl (jv_o (jk_ok (kd := 3) pl0 (by decide) (by decide) rfl rfl) rfl) rfl) (c42 (jpt l0 4) l1 (jk_ok (kd := 3) pl0 (by decide) (by decide) rfl rfl)) (by decide) (fun v3 qv3 => ?_)
    refine g_pure (c' := (28, [(0, .ref l0), (1, .int l1)], [.int (-1 : Int32), .int v3, .ref (jpt l0 4)], (jE0, M2))) 1 rfl ?_
    refine g_wV rfl (jc_v rfl rfl (jv_o (jk_ok (kd := 3) pl0 (by decide) (by decide) rfl rfl) rfl) rfl) (c43 (jpt l0 4) v3 (-1 : Int32) M2 (jk_ok (kd := 3) pl0 (by decide) (by decide) rfl rfl)) (by decide) (fun M4 => ?_)
    refine g_pure (c' := (32, [(0, .ref l0), (1, .int l1)], [.ref l0], (jE0, M4))) 1 rfl ?_
    refine g_gp rfl rfl rfl pl0 (jp_ok (kd := 3) pl0 (by decide) (by decide) rfl rfl).1 ?_
    refine g_pure (c' := (37, [(0, .ref l0), (1, .int l1)], [.int (-1 : Int32), .int l1, .ref (jpt l0 4)], (jE0, M4))) 2 rfl ?_
    refine g_wV rfl (jc_v rfl rfl (jv_o (jk_ok (kd := 3) pl0 (by decide) (by decide) rfl rfl) rfl) rfl) (c43 (jpt l0 4) l1 (-1 : Int32) M4 (jk_ok (kd := 3) pl0 (by decide) (by decide) rfl rfl)) (by decide) (fun M5 => ?_)
    refine g_pure (c' := (41, [(0, .ref l0), (1, .int l1)], [.ref l0], (jE0, M5))) 1 rfl ?_
    refine g_gp rfl rfl rfl pl0 (jp_ok (kd := 3) pl0 (by decide) (by decide) rfl rfl).1 ?_
    refine g_pure (c' := (46, [(0, .ref l0), (1, .int l1)], [.int (0 : Int32), .int l1, .ref (jpt l0 5)], (jE0, M5))) 2 rfl ?_
    refine g_wV rfl (jc_v rfl rfl (jv_o (jk_ok (kd := 3) pl0 (by decide) (by decide) rfl rfl) rfl) rfl) (c43 (jpt l0 5) l1 (0 : Int32) M5 (jk_ok (kd := 3) pl0 (by decide) (by decide) rfl rfl)) (by decide) (fun M6 => ?_)
    exact g_ret rfl rfl (fun _ h => h)
