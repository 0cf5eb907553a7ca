def f141_108 (h42 : Nat → JM → Option (Int32 × JM)) (l0 : Nat) (l1 : Int32) (M : JM) : Option (Int32 × JM) := (if l1 = (0 : Int32) then (some ((M l0 18), M)) else (h42 l0 M))
set_option maxRecDepth 100000 in
theorem c141_108 {xs : Option (List Int32)} (h42 : Nat → JM → Option (Int32 × JM)) (H42 : ∀ (l0 : Nat) (M : JM) (pl0 : jok jE0 l0 7 = true), JG xs 5 141 (h42 l0 M) (fun x r => r = (some (.int x.1), (jE0, x.2))) (42, [(0, .ref l0)], [], (jE0, M))) : ∀ (l0 : Nat) (l1 : Int32) (M : JM) (pl0 : jok jE0 l0 7 = true), JG xs 5 141 (f141_108 h42 l0 l1 M) (fun x r => r = (some (.int x.1), (jE0, x.2))) (108, [(0, .ref l0), (1, .int l1)], [], (jE0, M)) := by
    intro l0 l1 M pl0
    unfold f141_108
    refine g_pure (c' := (109, [(0, .ref l0), (1, .int l1)], [.int l1], (jE0, M))) 1 rfl ?_
    refine g_if_ne (tgt := 117) rfl rfl (fun q15 => ?_) (fun q15 => ?_)
    · refine g_pure (c' := (113, [(0, .ref l0), (1, .int l1)], [.ref l0], (jE0, M))) 1 rfl ?_
      refine g_gf (ci := 7) (k := 18) rfl rfl rfl pl0 ?_
      exact g_ret rfl rfl (fun _ h => h)
    · refine g_pure (c' := (42, [(0, .ref l0), (1, .int l1)], [], (jE0, M))) 1 rfl ?_
      refine g_weakk (lv := [(0, .ref l0)]) ⟨rfl, trivial⟩ [0] rfl (by decide) [0, 1] rfl (by decide) ?_
      exact (H42 l0 M pl0)
def f141_94 (h42 : Nat → JM → Option (Int32 × JM)) (l0 : Nat) (s0 : Int32) (M : JM) : Option (Int32 × JM) := (if s0 = (0 : Int32) then (f141_108 h42 l0 s0 M) else ((f131 l0 M).bind fun M16 => ((f140 l0 M16).bind fun z19 => (f141_108 h42 l0 z19.1 z19.2))))
set_option maxRecDepth 100000 in
theorem c141_94 {xs : Option (List Int32)} (h42 : Nat → JM → Option (Int32 × JM)) (H42 : ∀ (l0 : Nat) (M : JM) (pl0 : jok jE0 l0 7 = true), JG xs 5 141 (h42 l0 M) (fun x r => r = (some (.int x.1), (jE0, x.2))) (42, [(0, .ref l0)], [], (jE0, M))) : ∀ (l0 : Nat) (s0 : Int32) (M : JM) (pl0 : jok jE0 l0 7 = true), JG xs 5 141 (f141_94 h42 l0 s0 M) (fun x r => r = (some (.int x.1), (jE0, x.2))) (94, [(0, .ref l0)], [.int s0], (jE0, M)) := by
    intro l0 s0 M pl0
    unfold f141_94
    refine g_pure (c' := (96, [(1, .int s0), (0, .ref l0)], [.int s0], (jE0, M))) 2 rfl ?_
    refine g_if_eq (tgt := 108) rfl rfl (fun q14 => ?_) (fun q14 => ?_)
    · refine g_weakk (lv := [(0, .ref l0), (1, .int s0)]) ⟨rfl, rfl, trivial⟩ [0, 1] rfl (by decide) [1, 0] rfl (by decide) ?_
      exact (c141_108 h42 H42 l0 s0 M pl0)
    · refine g_pure (c' := (100, [(1, .int s0), (0, .ref l0)], [.ref l0], (jE0, M))) 1 rfl ?_
      refine g_wV rfl (jc_v rfl rfl (jv_o pl0 rfl) rfl) (c131 l0 M pl0) (by decide) (fun M16 => ?_)
      refine g_pure (c' := (104, [(1, .int s0), (0, .ref l0)], [.ref l0], (jE0, M16))) 1 rfl ?_
      refine g_wI rfl (jc_v rfl rfl (jv_o pl0 rfl) rfl) (c140 l0 M16 pl0) (by decide) (fun v18 M17 qv18 => ?_)
      refine g_pure (c' := (108, [(1, .int v18), (0, .ref l0)], [], (jE0, M17))) 1 rfl ?_
      refine g_weakk (lv := [(0, .ref l0), (1, .int v18)]) ⟨rfl, rfl, trivial⟩ [0, 1] rfl (by decide) [1, 0] rfl (by decide) ?_
      exact (c141_108 h42 H42 l0 v18 M17 pl0)
def f141_93 (h42 : Nat → JM → Option (Int32 × JM)) (l0 : Nat) (M : JM) : Option (Int32 × JM) := (f141_94 h42 l0 (0 : Int32) M)
set_option maxRecDepth 100000 in
theorem c141_93 {xs : Option (List Int32)} (h42 : Nat → JM → Option (Int32 × JM)) (H42 : ∀ (l0 : Nat) (M : JM) (pl0 : jok jE0 l0 7 = true), JG xs 5 141 (h42 l0 M) (fun x r => r = (some (.int x.1), (jE0, x.2))) (42, [(0, .ref l0)], [], (jE0, M))) : ∀ (l0 : Nat) (M : JM) (pl0 : jok jE0 l0 7 = true), JG xs 5 141 (f141_93 h42 l0 M) (fun x r => r = (some (.int x.1), (jE0, x.2))) (93, [(0, .ref l0)], [], (jE0, M)) := by
    intro l0 M pl0
    unfold f141_93
    refine g_pure (c' := (94, [(0, .ref l0)], [.int (0 : Int32)], (jE0, M))) 1 rfl ?_
    exact (c141_94 h42 H42 l0 (0 : Int32) M pl0)
def f141_42  : Nat → Nat → JM → Option (Int32 × JM)
  | 0, _, _ => none
  | n + 1, l0, M => (if (M l0 18) < (M l0 4) then (if ((M l0 19) - (M l0 18)) = (1 : Int32) then ((jla (jpt l0 3) (M l0 18) M).bind fun v11 => (if v11 = (59 : Int32) then (if (M l0 6) < (14 : Int32) then (f141_94 (f141_42 n) l0 (1 : Int32) M) else (f141_93 (f141_42 n) l0 M)) else (f141_93 (f141_42 n) l0 M))) else (f141_93 (f141_42 n) l0 M)) else (some ((-1 : Int32), M)))
set_option maxRecDepth 100000 in
theorem c141_42 {xs : Option (List Int32)} : ∀ (n : Nat) (l0 : Nat) (M : JM) (pl0 : jok jE0 l0 7 = true), JG xs 5 141 (f141_42 n l0 M) (fun x r => r = (some (.int x.1), (jE0, x.2))) (42, [(0, .ref l0)], [], (jE0, M))
  | 0, _, _, _ => by rw [f141_42]; exact g_none
  | n + 1, l0, M, pl0 => by
    rw [f141_42]
    refine g_pure (c' := (43, [(0, .ref l0)], [.ref l0], (jE0, M))) 1 rfl ?_
    refine g_gf (ci := 7) (k := 18) rfl rfl rfl pl0 ?_
    refine g_pure (c' := (47, [(0, .ref l0)], [.ref l0, .int (M l0 18)], (jE0, M))) 1 rfl ?_
    refine g_gf (ci := 7) (k := 4) rfl rfl rfl pl0 ?_
    refine g_ic_ge (tgt := 120) rfl rfl (fun q9 => ?_) (fun q9 => ?_)
    · refine g_pure (c' := (54, [(0, .ref l0)], [.ref l0], (jE0, M))) 1 rfl ?_
      refine g_gf (ci := 7) (k := 19) rfl rfl rfl pl0 ?_
      refine g_pure (c' := (58, [(0, .ref l0)], [.ref l0, .int (M l0 19)], (jE0, M))) 1 rfl ?_
      refine g_gf (ci := 7) (k := 18) rfl rfl rfl pl0 ?_
      refine g_pure (c' := (63, [(0, .ref l0)], [.int (1 : Int32), .int ((M l0 19) - (M l0 18))], (jE0, M))) 2 rfl ?_
      refine g_ic_ne (tgt := 93) rfl rfl (fun q10 => ?_) (fun q10 => ?_)
      · refine g_pure (c' := (67, [(0, .ref l0)], [.ref l0], (jE0, M))) 1 rfl ?_
        refine g_gp rfl rfl rfl pl0 (jp_ok (kd := 8) pl0 (by decide) (by decide) rfl rfl).1 ?_
        refine g_pure (c' := (71, [(0, .ref l0)], [.ref l0, .ref (jpt l0 3)], (jE0, M))) 1 rfl ?_
        refine g_gf (ci := 7) (k := 18) rfl rfl rfl pl0 ?_
        refine g_ia rfl (jk_ok (kd := 8) pl0 (by decide) (by decide) rfl rfl) (fun v11 => ?_)
        refine g_pure (c' := (77, [(0, .ref l0)], [.int (59 : Int32), .int v11], (jE0, M))) 1 rfl ?_
        refine g_ic_ne (tgt := 93) rfl rfl (fun q12 => ?_) (fun q12 => ?_)
        · refine g_pure (c' := (81, [(0, .ref l0)], [.ref l0], (jE0, M))) 1 rfl ?_
          refine g_gf (ci := 7) (k := 6) rfl rfl rfl pl0 ?_
          refine g_pure (c' := (86, [(0, .ref l0)], [.int (14 : Int32), .int (M l0 6)], (jE0, M))) 1 rfl ?_
          refine g_ic_ge (tgt := 93) rfl rfl (fun q13 => ?_) (fun q13 => ?_)
          · refine g_pure (c' := (94, [(0, .ref l0)], [.int (1 : Int32)], (jE0, M))) 2 rfl ?_
            exact (c141_94 (f141_42 n) (c141_42 n) l0 (1 : Int32) M pl0)
          · exact (c141_93 (f141_42 n) (c141_42 n) l0 M pl0)
        · exact (c141_93 (f141_42 n) (c141_42 n) l0 M pl0)
      · exact (c141_93 (f141_42 n) (c141_42 n) l0 M pl0)
    · refine g_pure (c' := (121, [(0, .ref l0)], [.int (-1 : Int32)], (jE0, M))) 1 rfl ?_
      exact g_ret rfl rfl (fun _ h => h)
/-- CometKinModel.fault -/
def f141  (l0 : Nat) (M : JM) : Option (Int32 × JM) := ((some (jup M l0 17 (0 : Int32))).bind fun M1 => ((some (jup M1 l0 6 (0 : Int32))).bind fun M2 => ((some (jup M2 l0 20 (M2 l0 7))).bind fun M3 => ((some (jup M3 l0 21 (M3 l0 13))).bind fun M4 => ((f131 l0 M4).bind fun M5 => ((f140 l0 M5).bind fun z20 => (if z20.1 = (0 : Int32) then (some ((z20.2 l0 18), z20.2)) else (f141_42 1000 l0 z20.2))))))))
set_option maxRecDepth 100000 in
theorem c141 {xs : Option (List Int32)} (l0 : Nat) (M : JM) (pl0 : jok jE0 l0 7 = true) : JG xs 5 141 (f141 l0 M) (fun x r => r = (some (.int x.1), (jE0, x.2))) (0, [(0, .ref l0)], [], (jE0, M)) := by
    unfold f141
    refine g_pure (c' := (2, [(0, .ref l0)], [.int (0 : Int32), .ref l0], (jE0, M))) 2 rfl ?_
    refine g_pf (ci := 7) (k := 17) rfl rfl rfl rfl pl0 (fun M1 => ?_)
    refine g_pure (c' := (7, [(0, .ref l0)], [.int (0 : Int32), .ref l0], (jE0, M1))) 2 rfl ?_
    refine g_pf (ci := 7) (k := 6) rfl rfl rfl rfl pl0 (fun M2 => ?_)
    refine g_pure (c' := (12, [(0, .ref l0)], [.ref l0, .ref l0], (jE0, M2))) 2 rfl ?_
    refine g_gf (ci := 7) (k := 7) rfl rfl rfl pl0 ?_
    refine g_pf (ci := 7) (k := 20) rfl rfl rfl rfl pl0 (fun M3 => ?_)
    refine g_pure (c' := (20, [(0, .ref l0)], [.ref l0, .ref l0], (jE0, M3))) 2 rfl ?_
    refine g_gf (ci := 7) (k := 13) rfl rfl rfl pl0 ?_
    refine g_pf (ci := 7) (k := 21) rfl rfl rfl rfl pl0 (fun M4 => ?_)
    refine g_pure (c' := (27, [(0, .ref l0)], [.ref l0], (jE0, M4))) 1 rfl ?_
    refine g_wV rfl (jc_v rfl rfl (jv_o pl0 rfl) rfl) (c131 l0 M4 pl0) (by decide) (fun M5 => ?_)
    refine g_pure (c' := (31, [(0, .ref l0)], [.ref l0], (jE0, M5))) 1 rfl ?_
    refine g_wI rfl (jc_v rfl rfl (jv_o pl0 rfl) rfl) (c140 l0 M5 pl0) (by decide) (fun v7 M6 qv7 => ?_)
    refine g_if_ne (tgt := 42) rfl rfl (fun q8 => ?_) (fun q8 => ?_)
    · refine g_pure (c' := (38, [(0, .ref l0)], [.ref l0], (jE0, M6))) 1 rfl ?_
      refine g_gf (ci := 7) (k := 18) rfl rfl rfl pl0 ?_
      exact g_ret rfl rfl (fun _ h => h)
    · exact (c141_42 1000 l0 M6 pl0)
/-- CometKin.lowest -/
def f102  (l0 : Int32) : Option Int32 := ((f100 l0).bind fun v1 => (some (v1 - (1 : Int32))))
set_option maxRecDepth 100000 in
theorem c102 {xs : Option (List Int32)} {M : JM} (l0 : Int32) : JG xs 1 102 (f102 l0) (fun x r => r = (some (.int x), (jE0, M))) (0, [(0, .int l0)], [], (jE0, M)) := by
    unfold f102
    refine g_pure (c' := (1, [(0, .int l0)], [.int l0], (jE0, M))) 1 rfl ?_
    refine g_cI rfl (jc_s rfl rfl) (c100 l0) (by decide) (fun v1 qv1 => ?_)
    refine g_pure (c' := (6, [(0, .int l0)], [.int (v1 - (1 : Int32))], (jE0, M))) 2 rfl ?_
    exact g_ret rfl rfl (fun _ h => h)
def f45_2  : Nat → Nat → Int32 → Int32 → JM → Option JM
  | 0, _, _, _, _ => none
  | n + 1, l0, l1, l2, M => (if l2 < (Int32.ofNat (jlen jE0 (jpt l0 0))) then ((jsa (jpt l0 0) l2 l1 M).bind fun M2 => ((f45_2 n) l0 l1 (l2 + (1 : Int32)) M2)) else (some M))
set_option maxRecDepth 100000 in
theorem c45_2 {xs : Option (List Int32)} : ∀ (n : Nat) (l0 : Nat) (l1 : Int32) (l2 : Int32) (M : JM) (pl0 : jok jE0 l0 3 = true), JG xs 0 45 (f45_2 n l0 l1 l2 M) (fun x r => r = (none, (jE0, x))) (2, [(0, .ref l0), (1, .int l1), (2, .int l2)], [], (jE0, M))
  | 0, _, _, _, _, _ => by rw [f45_2]; exact g_none
  | n + 1, l0, l1, l2, M, pl0 => by
    rw [f45_2]
    refine g_pure (c' := (4, [(0, .ref l0), (1, .int l1), (2, .int l2)], [.ref l0, .int l2], (jE0, M))) 2 rfl ?_
    refine g_gp rfl rfl rfl pl0 (jp_ok (kd := 8) pl0 (by decide) (by decide) rfl rfl).1 ?_
    refine g_al rfl (by rw [(jk_ok (kd := 8) pl0 (by decide) (by decide) rfl rfl)]; simp) ?_
    refine g_ic_ge (tgt := 24) rfl rfl (fun q1 => ?_) (fun q1 => ?_)
    · refine g_pure (c' := (12, [(0, .ref l0), (1, .int l1), (2, .int l2)], [.ref l0], (jE0, M))) 1 rfl ?_
      refine g_gp rfl rfl rfl pl0 (jp_ok (kd := 8) pl0 (by decide) (by decide) rfl rfl).1 ?_
      refine g_pure (c' := (17, [(0, .ref l0), (1, .int l1), (2, .int l2)], [.int l1, .int l2, .ref (jpt l0 0)], (jE0, M))) 2 rfl ?_
      refine g_is rfl (jk_ok (kd := 8) pl0 (by decide) (by decide) rfl rfl) (fun M2 => ?_)
      refine g_pure (c' := (2, [(2, .int (l2 + (1 : Int32))), (0, .ref l0), (1, .int l1)], [], (jE0, M2))) 2 rfl ?_
      refine g_weakk (lv := [(0, .ref l0), (1, .int l1), (2, .int (l2 + (1 : Int32)))]) ⟨rfl, rfl, rfl, trivial⟩ [0, 1, 2] rfl (by decide) [2, 0, 1] rfl (by decide) ?_
      exact ((c45_2 n) l0 l1 (l2 + (1 : Int32)) M2 pl0)
    · exact g_ret rfl rfl (fun _ h => h)
/-- CometKin$Row.fill -/
def f45  (l0 : Nat) (l1 : Int32) (M : JM) : Option JM := (f45_2 1000 l0 l1 (0 : Int32) M)
set_option maxRecDepth 100000 in
theorem c45 {xs : Option (List Int32)} (l0 : Nat) (l1 : Int32) (M : JM) (pl0 : jok jE0 l0 3 = true) : JG xs 0 45 (f45 l0 l1 M) (fun x r => r = (none, (jE0, x))) (0, [(0, .ref l0), (1, .int l1)], [], (jE0, M)) := by
    unfold f45
    refine g_pure (c' := (2, [(2, .int (0 : Int32)), (0, .ref l0), (1, .int l1)], [], (jE0, M))) 2 rfl ?_
    refine g_weakk (lv := [(0, .ref l0), (1, .int l1), (2, .int (0 : Int32))]) ⟨rfl, rfl, rfl, trivial⟩ [0, 1, 2] rfl (by decide) [2, 0, 1] rfl (by decide) ?_
    exact (c45_2 1000 l0 l1 (0 : Int32) M pl0)
/-- CometKin$Life.beginIn -/
def f34  (l0 : Nat) (l1 : Nat) (M : JM) : Option JM := ((some (jup M l0 0 (0 : Int32))).bind fun M1 => ((f102 (M1 l1 0)).bind fun v2 => ((some (jup M1 l0 1 v2)).bind fun M3 => ((some (jup M3 l0 2 (0 : Int32))).bind fun M4 => ((some (jup M4 l0 3 (0 : Int32))).bind fun M5 => ((f45 (jpt l0 4) (-1 : Int32) M5).bind fun M6 => ((f46 (jpt l0 5) (jpt l1 7) M6).bind fun M7 => (some M7))))))))
set_option maxRecDepth 100000 in
theorem c34 {xs : Option (List Int32)} (l0 : Nat) (l1 : Nat) (M : JM) (pl0 : jok jE0 l0 2 = true) (pl1 : jok jE0 l1 0 = true) : JG xs 2 34 (f34 l0 l1 M) (fun x r => r = (none, (jE0, x))) (0, [(0, .ref l0), (1, .ref l1)], [], (jE0, M)) := by
    unfold f34
    refine g_pure (c' := (2, [(0, .ref l0), (1, .ref l1)], [.int (0 : Int32), .ref l0], (jE0, M))) 2 rfl ?_
    refine g_pf (ci := 2) (k := 0) rfl rfl rfl rfl pl0 (fun M1 => ?_)
    refine g_pure (c' := (7, [(0, .ref l0), (1, .ref l1)], [.ref l1, .ref l0], (jE0, M1))) 2 rfl ?_
    refine g_gf (ci := 0) (k := 0) rfl rfl rfl pl1 ?_
    refine g_cI rfl (jc_s rfl rfl) (c102 (M1 l1 0)) (by decide) (fun v2 qv2 => ?_)
    refine g_pf (ci := 2) (k := 1) rfl rfl rfl rfl pl0 (fun M3 => ?_)
    refine g_pure (c' := (18, [(0, .ref l0), (1, .ref l1)], [.int (0 : Int32), .ref l0], (jE0, M3))) 2 rfl ?_
    refine g_pf (ci := 2) (k := 2) rfl rfl rfl rfl pl0 (fun M4 => ?_)
    refine g_pure (c' := (23, [(0, .ref l0), (1, .ref l1)], [.int (0 : Int32), .ref l0], (jE0, M4))) 2 rfl ?_
    refine g_pf (ci := 2) (k := 3) rfl rfl rfl rfl pl0 (fun M5 => ?_)
    refine g_pure (c' := (27, [(0, .ref l0), (1, .ref l1)], [.ref l0], (jE0, M5))) 1 rfl ?_
    refine g_gp rfl rfl rfl pl0 (jp_ok (kd := 3) pl0 (by decide) (by decide) rfl rfl).1 ?_
    refine g_pure (c' := (31, [(0, .ref l0), (1, .ref l1)], [.int (-1 : Int32), .ref (jpt l0 4)], (jE0, M5))) 1 rfl ?_
    refine g_wV rfl (jc_v rfl rfl (jv_o (jk_ok (kd := 3) pl0 (by decide) (by decide) rfl rfl) rfl) rfl) (c45 (jpt l0 4) (-1 : Int32) M5 (jk_ok (kd := 3) pl0 (by decide) (by decide) rfl rfl)) (by decide) (fun M6 => ?_)
    refine g_pure (c' := (35, [(0, .ref l0), (1, .ref l1)], [.ref l0], (jE0, M6))) 1 rfl ?_
    refine g_gp rfl rfl rfl pl0 (jp_ok (kd := 3) pl0 (by decide) (by decide) rfl rfl).1 ?_
    refine g_pure (c' := (39, [(0, .ref l0), (1, .ref l1)], [.ref l1, .ref (jpt l0 5)], (jE0, M6))) 1 rfl ?_
    refine g_gp rfl rfl rfl pl1 (jp_ok (kd := 3) pl1 (by decide) (by decide) rfl rfl).1 ?_
    refine g_wV rfl (jc_v rfl rfl (jv_o (jk_ok (kd := 3) pl0 (by decide) (by decide) rfl rfl) rfl) rfl) (c46 (jpt l0 5) (jpt l1 7) M6 (jk_ok (kd := 3) pl0 (by decide) (by decide) rfl rfl) (jk_ok (kd := 3) pl1 (by decide) (by decide) rfl rfl)) (by decide) (fun M7 => ?_)
    exact g_ret rfl rfl (fun _ h => h)
/-- CometKin$Feasts.clear -/
def f26  (l0 : Nat) (M : JM) : Option (Int32 × JM) := ((some (jup M l0 0 (0 : Int32))).bind fun M1 => (some ((M l0 0), M1)))
set_option maxRecDepth 100000 in
theorem c26 {xs : Option (List Int32)} (l0 : Nat) (M : JM) (pl0 : jok jE0 l0 1 = true) : JG xs 0 26 (f26 l0 M) (fun x r => r = (some (.int x.1), (jE0, x.2))) (0, [(0, .ref l0)], [], (jE0, M)) := by
    unfold f26
    refine g_pure (c' := (1, [(0, .ref l0)], [.ref l0], (jE0, M))) 1 rfl ?_
    refine g_gf (ci := 1) (k := 0) rfl rfl rfl pl0 ?_
    refine g_pure (c' := (7, [(1, .int (M l0 0)), (0, .ref l0)], [.int (0 : Int32), .ref l0], (jE0, M))) 3 rfl ?_
    refine g_pf (ci := 1) (k := 0) rfl rfl rfl rfl pl0 (fun M1 => ?_)
    refine g_pure (c' := (11, [(1, .int (M l0 0)), (0, .ref l0)], [.int (M l0 0)], (jE0, M1))) 1 rfl ?_
    exact g_ret rfl rfl (fun _ h => h)
/-- CometKin.land -/
def f71 (xs : Option (List Int32)) (l0 : Nat) (M : JM) : Option (Int32 × JM) := ((f1 (jpt l0 2) (jpt l0 1) M).bind fun M1 => ((f54 xs (jpt l0 0) (jpt l0 2) M1).bind fun M2 => (if (M2 (jpt l0 0) 3) = (-1 : Int32) then ((f1 (jpt l0 1) (jpt l0 2) M2).bind fun M4 => ((f53 (jpt l0 0) M4).bind fun z13 => ((f34 (jpt l0 3) (jpt l0 1) z13.2).bind fun M7 => ((f26 (jpt l0 9) M7).bind fun z12 => ((some (jup z12.2 l0 8 (0 : Int32))).bind fun M10 => ((some (jup M10 l0 6 (0 : Int32))).bind fun M11 => (some ((M11 (jpt l0 0) 4), M11)))))))) else (some ((-4 : Int32), M2)))))
set_option maxRecDepth 100000 in
theorem c71 {xs : Option (List Int32)} (l0 : Nat) (M : JM) (pl0 : jok jE0 l0 6 = true) : JG xs 8 71 (f71 xs l0 M) (fun x r => r = (some (.int x.1), (jE0, x.2))) (0, [(0, .ref l0)], [], (jE0, M)) := by
    unfold f71
    refine g_pure (c' := (1, [(0, .ref l0)], [.ref l0], (jE0, M))) 1 rfl ?_
    refine g_gp rfl rfl rfl pl0 (jp_ok (kd := 0) pl0 (by decide) (by decide) rfl rfl).1 ?_
    refine g_pure (c' := (5, [(0, .ref l0)], [.ref l0, .ref (jpt l0 2)], (jE0, M))) 1 rfl ?_
    refine g_gp rfl rfl rfl pl0 (jp_ok (kd := 0) pl0 (by decide) (by decide) rfl rfl).1 ?_
    refine g_wV rfl (jc_v rfl rfl (jv_o (jk_ok (kd := 0) pl0 (by decide) (by decide) rfl rfl) rfl) rfl) (c1 (jpt l0 2) (jpt l0 1) M (jk_ok (kd := 0) pl0 (by decide) (by decide) rfl rfl) (jk_ok (kd := 0) pl0 (by decide) (by decide) rfl rfl)) (by decide) (fun M1 => ?_)
    refine g_pure (c' := (12, [(0, .ref l0)], [.ref l0], (jE0, M1))) 1 rfl ?_
    refine g_gp rfl rfl rfl pl0 (jp_ok (kd := 5) pl0 (by decide) (by decide) rfl rfl).1 ?_
    refine g_pure (c' := (16, [(0, .ref l0)], [.ref l0, .ref (jpt l0 0)], (jE0, M1))) 1 rfl ?_
    refine g_gp rfl rfl rfl pl0 (jp_ok (kd := 0) pl0 (by decide) (by decide) rfl rfl).1 ?_
    refine g_wV rfl (jc_v rfl rfl (jv_o (jk_ok (kd := 5) pl0 (by decide) (by decide) rfl rfl) rfl) rfl) (c54 (jpt l0 0) (jpt l0 2) M1 (jk_ok (kd := 5) pl0 (by decide) (by decide) rfl rfl) (jk_ok (kd := 0) pl0 (by decide) (by decide) rfl rfl)) (by decide) (fun M2 => ?_)
    refine g_pure (c' := (23, [(0, .ref l0)], [.ref l0], (jE0, M2))) 1 rfl ?_
    refine g_gp rfl rfl rfl pl0 (jp_ok (kd := 5) pl0 (by decide) (by decide) rfl rfl).1 ?_
    refine g_gf (ci := 5) (k := 3) rfl rfl rfl (jk_ok (kd := 5) pl0 (by decide) (by decide) rfl rfl) ?_
    refine g_pure (c' := (30, [(0, .ref l0)], [.int (-1 : Int32), .int (M2 (jpt l0 0) 3)], (jE0, M2))) 1 rfl ?_
    refine g_ic_eq (tgt := 36) rfl rfl (fun q3 => ?_) (fun q3 => ?_)
    · refine g_pure (c' := (37, [(0, .ref l0)], [.ref l0], (jE0, M2))) 1 rfl ?_
      refine g_gp rfl rfl rfl pl0 (jp_ok (kd := 0) pl0 (by decide) (by decide) rfl rfl).1 ?_
      refine g_pure (c' := (41, [(0, .ref l0)], [.ref l0, .ref (jpt l0 1)], (jE0, M2))) 1 rfl ?_
      refine g_gp rfl rfl rfl pl0 (jp_ok (kd := 0) pl0 (by decide) (by decide) rfl rfl).1 ?_
      refine g_wV rfl (jc_v rfl rfl (jv_o (jk_ok (kd := 0) pl0 (by decide) (by decide) rfl rfl) rfl) rfl) (c1 (jpt l0 1) (jpt l0 2) M2 (jk_ok (kd := 0) pl0 (by decide) (by decide) rfl rfl) (jk_ok (kd := 0) pl0 (by decide) (by decide) rfl rfl)) (by decide) (fun M4 => ?_)
      refine g_pure (c' := (48, [(0, .ref l0)], [.ref l0], (jE0, M4))) 1 rfl ?_
      refine g_gp rfl rfl rfl pl0 (jp_ok (kd := 5) pl0 (by decide) (by decide) rfl rfl).1 ?_
      refine g_wI rfl (jc_v rfl rfl (jv_o (jk_ok (kd := 5) pl0 (by decide) (by decide) rfl rfl) rfl) rfl) (c53 (jpt l0 0) M4 (jk_ok (kd := 5) pl0 (by decide) (by decide) rfl rfl)) (by decide) (fun v6 M5 qv6 => ?_)
      refine g_pure (c' := (56, [(0, .ref l0)], [.ref l0], (jE0, M5))) 2 rfl ?_
      refine g_gp rfl rfl rfl pl0 (jp_ok (kd := 2) pl0 (by decide) (by decide) rfl rfl).1 ?_
      refine g_pure (c' := (60, [(0, .ref l0)], [.ref l0, .ref (jpt l0 3)], (jE0, M5))) 1 rfl ?_
      refine g_gp rfl rfl rfl pl0 (jp_ok (kd := 0) pl0 (by decide) (by decide) rfl rfl).1 ?_
      refine g_wV rfl (jc_v rfl rfl (jv_o (jk_ok (kd := 2) pl0 (by decide) (by decide) rfl rfl) rfl) rfl) (c34 (jpt l0 3) (jpt l0 1) M5 (jk_ok (kd := 2) pl0 (by decide) (by decide) rfl rfl) (jk_ok (kd := 0) pl0 (by decide) (by decide) rfl rfl)) (by decide) (fun M7 => ?_)
      refine g_pure (c' := (67, [(0, .ref l0)], [.ref l0], (jE0, M7))) 1 rfl ?_
      refine g_gp rfl rfl rfl pl0 (jp_ok (kd := 1) pl0 (by decide) (by decide) rfl rfl).1 ?_
      refine g_wI rfl (jc_v rfl rfl (jv_o (jk_ok (kd := 1) pl0 (by decide) (by decide) rfl rfl) rfl) rfl) (c26 (jpt l0 9) M7 (jk_ok (kd := 1) pl0 (by decide) (by decide) rfl rfl)) (by decide) (fun v9 M8 qv9 => ?_)
      refine g_pure (c' := (76, [(0, .ref l0)], [.int (0 : Int32), .ref l0], (jE0, M8))) 3 rfl ?_
      refine g_pf (ci := 6) (k := 8) rfl rfl rfl rfl pl0 (fun M10 => ?_)
      refine g_pure (c' := (81, [(0, .ref l0)], [.int (0 : Int32), .ref l0], (jE0, M10))) 2 rfl ?_
      refine g_pf (ci := 6) (k := 6) rfl rfl rfl rfl pl0 (fun M11 => ?_)
      refine g_pure (c' := (85, [(0, .ref l0)], [.ref l0], (jE0, M11))) 1 rfl ?_
      refine g_gp rfl rfl rfl pl0 (jp_ok (kd := 5) pl0 (by decide) (by decide) rfl rfl).1 ?_
      refine g_gf (ci := 5) (k := 4) rfl rfl rfl (jk_ok (kd := 5) pl0 (by decide) (by decide) rfl rfl) ?_
      exact g_ret rfl rfl (fun _ h => h)
    · refine g_pure (c' := (35, [(0, .ref l0)], [.int (-4 : Int32)], (jE0, M2))) 1 rfl ?_
      exact g_ret rfl rfl (fun _ h => h)
/-- CometKinModel.addComet -/
def f143  (l0 : Nat) (l1 : Int32) (l2 : Int32) (M : JM) : Option JM := ((jsa (jpt l0 14) (M l0 13) l1 M).bind fun M1 => ((jsa (jpt l0 15) (M1 l0 13) l2 M1).bind fun M2 => ((some (jup M2 l0 13 ((M2 l0 13) + (1 : Int32)))).bind fun M3 => (some M3))))
set_option maxRecDepth 100000 in
theorem c143 {xs : Option (List Int32)} (l0 : Nat) (l1 : Int32) (l2 : Int32) (M : JM) (pl0 : jok jE0 l0 7 = true) : JG xs 0 143 (f143 l0 l1 l2 M) (fun x r => r = (none, (jE0, x))) (0, [(0, .ref l0), (1, .int l1), (2, .int l2)], [], (jE0, M)) := by
    unfold f143
    refine g_pure (c' := (1, [(0, .ref l0), (1, .int l1), (2, .int l2)], [.ref l0], (jE0, M))) 1 rfl ?_
    refine g_gp rfl rfl rfl pl0 (jp_ok (kd := 8) pl0 (by decide) (by decide) rfl rfl).1 ?_
    refine g_pure (c' := (5, [(0, .ref l0), (1, .int l1), (2, .int l2)], [.ref l0, .ref (jpt l0 14)], (jE0, M))) 1 rfl ?_
    refine g_gf (ci := 7) (k := 13) rfl rfl rfl pl0 ?_
    refine g_pure (c' := (9, [(0, .ref l0), (1, .int l1), (2, .int l2)], [.int l1, .int (M l0 13), .ref (jpt l0 14)], (jE0, M))) 1 rfl ?_
    refine g_is rfl (jk_ok (kd := 8) pl0 (by decide) (by decide) rfl rfl) (fun M1 => ?_)
    refine g_pure (c' := (11, [(0, .ref l0), (1, .int l1), (2, .int l2)], [.ref l0], (jE0, M1))) 1 rfl ?_
    refine g_gp rfl rfl rfl pl0 (jp_ok (kd := 8) pl0 (by decide) (by decide) rfl rfl).1 ?_
    refine g_pure (c' := (15, [(0, .ref l0), (1, .int l1), (2, .int l2)], [.ref l0, .ref (jpt l0 15)], (jE0, M1))) 1 rfl ?_
    refine g_gf (ci := 7) (k := 13) rfl rfl rfl pl0 ?_
    refine g_pure (c' := (19, [(0, .ref l0), (1, .int l1), (2, .int l2)], [.int l2, .int (M1 l0 13), .ref (jpt l0 15)], (jE0, M1))) 1 rfl ?_
    refine g_is rfl (jk_ok (kd := 8) pl0 (by decide) (by decide) rfl rfl) (fun M2 => ?_)
    refine g_pure (c' := (22, [(0, .ref l0), (1, .int l1), (2, .int l2)], [.ref l0, .ref l0], (jE0, M2))) 2 rfl ?_
    refine g_gf (ci := 7) (k := 13) rfl rfl rfl pl0 ?_
    refine g_pure (c' := (27, [(0, .ref l0), (1, .int l1), (2, .int l2)], [.int ((M2 l0 13) + (1 : Int32)), .ref l0], (jE0, M2))) 2 rfl ?_
    refine g_pf (ci := 7) (k := 13) rfl rfl rfl rfl pl0 (fun M3 => ?_)
    exact g_ret rfl rfl (fun _ h => h)
/-- CometKinModel.addOne -/
def f142  (l0 : Nat) (l1 : Int32) (l2 : Int32) (M : JM) : Option JM := ((jsa (jpt l0 8) (M l0 7) l1 M).bind fun M1 => ((jsa (jpt l0 9) (M1 l0 7) l2 M1).bind fun M2 => ((jsa (jpt l0 10) (M2 l0 7) (-1 : Int32) M2).bind fun M3 => ((jsa (jpt l0 11) (M3 l0 7) (-1 : Int32) M3).bind fun M4 => ((jsa (jpt l0 12) (M4 l0 7) (0 : Int32) M4).bind fun M5 => ((some (jup M5 l0 7 ((M5 l0 7) + (1 : Int32)))).bind fun M6 => (some M6)))))))
set_option maxRecDepth 100000 in
theorem c142 {xs : Option (List Int32)} (l0 : Nat) (l1 : Int32) (l2 : Int32) (M : JM) (pl0 : jok jE0 l0 7 = true) : JG xs 0 142 (f142 l0 l1 l2 M) (fun x r => r = (none, (jE0, x))) (0, [(0, .ref l0), (1, .int l1), (2, .int l2)], [], (jE0, M)) := by
    unfold f142
    refine g_pure (c' := (1, [(0, .ref l0), (1, .int l1), (2, .int l2)], [.ref l0], (jE0, M))) 1 rfl ?_
    refine g_gp rfl rfl rfl pl0 (jp_ok (kd := 8) pl0 (by decide) (by decide) rfl rfl).1 ?_
    refine g_pure (c' := (5, [(0, .ref l0), (1, .int l1), (2, .int l2)], [.ref l0, .ref (jpt l0 8)], (jE0, M))) 1 rfl ?_
    refine g_gf (ci := 7) (k := 7) rfl rfl rfl pl0 ?_
    refine g_pure (c' := (9, [(0, .ref l0), (1, .int l1), (2, .int l2)], [.int l1, .int (M l0 7), .ref (jpt l0 8)], (jE0, M))) 1 rfl ?_
    refine g_is rfl (jk_ok (kd := 8) pl0 (by decide) (by decide) rfl rfl) (fun M1 => ?_)
    refine g_pure (c' := (11, [(0, .ref l0), (1, .int l1), (2, .int l2)], [.ref l0], (jE0, M1))) 1 rfl ?_
    refine g_gp rfl rfl rfl pl0 (jp_ok (kd := 8) pl0 (by decide) (by decide) rfl rfl).1 ?_
    refine g_pure (c' := (15, [(0, .ref l0), (1, .int l1), (2, .int l2)], [.ref l0, .ref (jpt l0 9)], (jE0, M1))) 1 rfl ?_
    refine g_gf (ci := 7) (k := 7) rfl rfl rfl pl0 ?_
    refine g_pure (c' := (19, [(0, .ref l0), (1, .int l1), (2, .int l2)], [.int l2, .int (M1 l0 7), .ref (jpt l0 9)], (jE0, M1))) 1 rfl ?_
    refine g_is rfl (jk_ok (kd := 8) pl0 (by decide) (by decide) rfl rfl) (fun M2 => ?_)
    refine g_pure (c' := (21, [(0, .ref l0), (1, .int l1), (2, .int l2)], [.ref l0], (jE0, M2))) 1 rfl ?_
    refine g_gp rfl rfl rfl pl0 (jp_ok (kd := 8) pl0 (by decide) (by decide) rfl rfl).1 ?_
    refine g_pure (c' := (25, [(0, .ref l0), (1, .int l1), (2, .int l2)], [.ref l0, .ref (jpt l0 10)], (jE0, M2))) 1 rfl ?_
    refine g_gf (ci := 7) (k := 7) rfl rfl rfl pl0 ?_
    refine g_pure (c' := (29, [(0, .ref l0), (1, .int l1), (2, .int l2)], [.int (-1 : Int32), .int (M2 l0 7), .ref (jpt l0 10)], (jE0, M2))) 1 rfl ?_
    refine g_is rfl (jk_ok (kd := 8) pl0 (by decide) (by decide) rfl rfl) (fun M3 => ?_)
    refine g_pure (c' := (31, [(0, .ref l0), (1, .int l1), (2, .int l2)], [.ref l0], (jE0, M3))) 1 rfl ?_
    refine g_gp rfl rfl rfl pl0 (jp_ok (kd := 8) pl0 (by decide) (by decide) rfl rfl).1 ?_
    refine g_pure (c' := (35, [(0, .ref l0), (1, .int l1), (2, .int l2)], [.ref l0, .ref (jpt l0 11)], (jE0, M3))) 1 rfl ?_
    refine g_gf (ci := 7) (k := 7) rfl rfl rfl pl0 ?_
    refine g_pure (c' := (39, [(0, .ref l0), (1, .int l1), (2, .int l2)], [.int (-1 : Int32), .int (M3 l0 7), .ref (jpt l0 11)], (jE0, M3))) 1 rfl ?_
    refine g_is rfl (jk_ok (kd := 8) pl0 (by decide) (by decide) rfl rfl) (fun M4 => ?_)
    refine g_pure (c' := (41, [(0, .ref l0), (1, .int l1), (2, .int l2)], [.ref l0], (jE0, M4))) 1 rfl ?_
    refine g_gp rfl rfl rfl pl0 (jp_ok (kd := 8) pl0 (by decide) (by decide) rfl rfl).1 ?_
    refine g_pure (c' := (45, [(0, .ref l0), (1, .int l1), (2, .int l2)], [.ref l0, .ref (jpt l0 12)], (jE0, M4))) 1 rfl ?_
    refine g_gf (ci := 7) (k := 7) rfl rfl rfl pl0 ?_
    refine g_pure (c' := (49, [(0, .ref l0), (1, .int l1), (2, .int l2)], [.int (0 : Int32), .int (M4 l0 7), .ref (jpt l0 12)], (jE0, M4))) 1 rfl ?_
    refine g_is rfl (jk_ok (kd := 8) pl0 (by decide) (by decide) rfl rfl) (fun M5 => ?_)
    refine g_pure (c' := (52, [(0, .ref l0), (1, .int l1), (2, .int l2)], [.ref l0, .ref l0], (jE0, M5))) 2 rfl ?_
    refine g_gf (ci := 7) (k := 7) rfl rfl rfl pl0 ?_
    refine g_pure (c' := (57, [(0, .ref l0), (1, .int l1), (2, .int l2)], [.int ((M5 l0 7) + (1 : Int32)), .ref l0], (jE0, M5))) 2 rfl ?_
    refine g_pf (ci := 7) (k := 7) rfl rfl rfl rfl pl0 (fun M6 => ?_)
    exact g_ret rfl rfl (fun _ h => h)
def f144_105  (s0 : Int32) (s1 : Int32) (s2 : Nat) (M : JM) : Option JM := ((jsa s2 s1 s0 M).bind fun M12 => (some M12))
set_option maxRecDepth 100000 in
theorem c144_105 {xs : Option (List Int32)} : ∀ (s0 : Int32) (s1 : Int32) (s2 : Nat) (M : JM) (ps2 : jok jE0 s2 8 = true), JG xs 2 144 (f144_105 s0 s1 s2 M) (fun x r => r = (none, (jE0, x))) (105, [], [.int s0, .int s1, .ref s2], (jE0, M)) := by
    intro s0 s1 s2 M ps2
    unfold f144_105
    refine g_is rfl ps2 (fun M12 => ?_)
    refine g_pure (c' := (169, [], [], (jE0, M12))) 1 rfl ?_
    exact g_ret rfl rfl (fun _ h => h)
def f144_74  (l0 : Nat) (l1 : Int32) (l2 : Int32) (l3 : Int32) (l4 : Int32) (M : JM) : Option JM := ((jsa (jpt l0 10) l3 l4 M).bind fun M9 => (if l2 = (8 : Int32) then ((jla (jpt l0 5) (l1 + (3 : Int32)) M9).bind fun v11 => (f144_105 v11 l3 (jpt l0 11) M9)) else (f144_105 (-1 : Int32) l3 (jpt l0 11) M9)))
set_option maxRecDepth 100000 in
theorem c144_74 {xs : Option (List Int32)} : ∀ (l0 : Nat) (l1 : Int32) (l2 : Int32) (l3 : Int32) (l4 : Int32) (M : JM) (pl0 : jok jE0 l0 7 = true), JG xs 2 144 (f144_74 l0 l1 l2 l3 l4 M) (fun x r => r = (none, (jE0, x))) (74, [(0, .ref l0), (1, .int l1), (2, .int l2), (3, .int l3), (4, .int l4)], [], (jE0, M)) := by
    intro l0 l1 l2 l3 l4 M pl0
    unfold f144_74
    refine g_pure (c' := (75, [(0, .ref l0), (1, .int l1), (2, .int l2), (3, .int l3), (4, .int l4)], [.ref l0], (jE0, M))) 1 rfl ?_
    refine g_gp rfl rfl rfl pl0 (jp_ok (kd := 8) pl0 (by decide) (by decide) rfl rfl).1 ?_
    refine g_pure (c' := (81, [(0, .ref l0), (1, .int l1), (2, .int l2), (3, .int l3), (4, .int l4)], [.int l4, .int l3, .ref (jpt l0 10)], (jE0, M))) 2 rfl ?_
    refine g_is rfl (jk_ok (kd := 8) pl0 (by decide) (by decide) rfl rfl) (fun M9 => ?_)
    refine g_pure (c' := (83, [(0, .ref l0), (1, .int l1), (2, .int l2), (3, .int l3), (4, .int l4)], [.ref l0], (jE0, M9))) 1 rfl ?_
    refine g_gp rfl rfl rfl pl0 (jp_ok (kd := 8) pl0 (by decide) (by decide) rfl rfl).1 ?_
    refine g_pure (c' := (90, [(0, .ref l0), (1, .int l1), (2, .int l2), (3, .int l3), (4, .int l4)], [.int (8 : Int32), .int l2, .int l3, .ref (jpt l0 11)], (jE0, M9))) 3 rfl ?_
    refine g_ic_ne (tgt := 104) rfl rfl (fun q10 => ?_) (fun q10 => ?_)
    · refine g_pure (c' := (94, [(0, .ref l0), (1, .int l1), (2, .int l2), (3, .int l3), (4, .int l4)], [.ref l0, .int l3, .ref (jpt l0 11)], (jE0, M9))) 1 rfl ?_
      refine g_gp rfl rfl rfl pl0 (jp_ok (kd := 8) pl0 (by decide) (by decide) rfl rfl).1 ?_
      refine g_pure (c' := (100, [(0, .ref l0), (1, .int l1), (2, .int l2), (3, .int l3), (4, .int l4)], [.int (l1 + (3 : Int32)), .ref (jpt l0 5), .int l3, .ref (jpt l0 11)], (jE0, M9))) 3 rfl ?_
      refine g_ia rfl (jk_ok (kd := 8) pl0 (by decide) (by decide) rfl rfl) (fun v11 => ?_)
      refine g_pure (c' := (105, [(0, .ref l0), (1, .int l1), (2, .int l2), (3, .int l3), (4, .int l4)], [.int v11, .int l3, .ref (jpt l0 11)], (jE0, M9))) 1 rfl ?_
      refine g_weakk (lv := []) trivial [] rfl (by decide) [0, 1, 2, 3, 4] rfl (by decide) ?_
      exact (c144_105 v11 l3 (jpt l0 11) M9 (jk_ok (kd := 8) pl0 (by decide) (by decide) rfl rfl))
    · refine g_pure (c' := (105, [(0, .ref l0), (1, .int l1), (2, .int l2), (3, .int l3), (4, .int l4)], [.int (-1 : Int32), .int l3, .ref (jpt l0 11)], (jE0, M9))) 1 rfl ?_
      refine g_weakk (lv := []) trivial [] rfl (by decide) [0, 1, 2, 3, 4] rfl (by decide) ?_
      exact (c144_105 (-1 : Int32) l3 (jpt l0 11) M9 (jk_ok (kd := 8) pl0 (by decide) (by decide) rfl rfl))
/-- CometKinModel.tell -/
def f144  (l0 : Nat) (l1 : Int32) (M : JM) : Option JM := ((jla (jpt l0 5) l1 M).bind fun v1 => ((jla (jpt l0 5) (l1 + (1 : Int32)) M).bind fun v2 => ((jla (jpt l0 5) (l1 + (2 : Int32)) M).bind fun v3 => ((f137 v1).bind fun v4 => (if v4 = (0 : Int32) then ((f138 v1).bind fun v6 => (if v6 = (0 : Int32) then (if v1 = (8 : Int32) then (f144_74 l0 l1 v1 v2 v3 M) else (if v1 = (9 : Int32) then (f144_74 l0 l1 v1 v2 v3 M) else (if v1 = (10 : Int32) then ((jsa (jpt l0 12) v2 v3 M).bind fun M15 => (some M15)) else (if v1 = (11 : Int32) then ((some (jup M l0 16 v2)).bind fun M17 => (some M17)) else (if v1 = (12 : Int32) then ((some (jup M l0 13 (0 : Int32))).bind fun M19 => (some M19)) else ((some (jup M l0 7 (0 : Int32))).bind fun M20 => ((some (jup M20 l0 13 (0 : Int32))).bind fun M21 => ((some (jup M21 l0 16 (2 : Int32))).bind fun M22 => (some M22))))))))) else ((f142 l0 (v1 - (5 : Int32)) v2 M).bind fun M23 => (some M23)))) else ((f143 l0 (v1 - (1 : Int32)) v2 M).bind fun M24 => (some M24)))))))
set_option maxRecDepth 100000 in
theorem c144 {xs : Option (List Int32)} (l0 : Nat) (l1 : Int32) (M : JM) (pl0 : jok jE0 l0 7 = true) : JG xs 2 144 (f144 l0 l1 M) (fun x r => r = (none, (jE0, x))) (0, [(0, .ref l0), (1, .int l1)], [], (jE0, M)) := by
    unfold f144
    refine g_pure (c' := (1, [(0, .ref l0), (1, .int l1)], [.ref l0], (jE0, M))) 1 rfl ?_
    refine g_gp rfl rfl rfl pl0 (jp_ok (kd := 8) pl0 (by decide) (by decide) rfl rfl).1 ?_
    refine g_pure (c' := (5, [(0, .ref l0), (1, .int l1)], [.int l1, .ref (jpt l0 5)], (jE0, M))) 1 rfl ?_
    refine g_ia rfl (jk_ok (kd := 8) pl0 (by decide) (by decide) rfl rfl) (fun v1 => ?_)
    refine g_pure (c' := (8, [(2, .int v1), (0, .ref l0), (1, .int l1)], [.ref l0], (jE0, M))) 2 rfl ?_
    refine g_gp rfl rfl rfl pl0 (jp_ok (kd := 8) pl0 (by decide) (by decide) rfl rfl).1 ?_
    refine g_pure (c' := (14, [(2, .int v1), (0, .ref l0), (1, .int l1)], [.int (l1 + (1 : Int32)), .ref (jpt l0 5)], (jE0, M))) 3 rfl ?_
    refine g_ia rfl (jk_ok (kd := 8) pl0 (by decide) (by decide) rfl rfl) (fun v2 => ?_)
    refine g_pure (c' := (17, [(3, .int v2), (2, .int v1), (0, .ref l0), (1, .int l1)], [.ref l0], (jE0, M))) 2 rfl ?_
    refine g_gp rfl rfl rfl pl0 (jp_ok (kd := 8) pl0 (by decide) (by decide) rfl rfl).1 ?_
    refine g_pure (c' := (23, [(3, .int v2), (2, .int v1), (0, .ref l0), (1, .int l1)], [.int (l1 + (2 : Int32)), .ref (jpt l0 5)], (jE0, M))) 3 rfl ?_
    refine g_ia rfl (jk_ok (kd := 8) pl0 (by decide) (by decide) rfl rfl) (fun v3 => ?_)
    refine g_pure (c' := (27, [(4, .int v3), (3, .int v2), (2, .int v1), (0, .ref l0), (1, .int l1)], [.int v1], (jE0, M))) 2 rfl ?_
    refine g_cI rfl (jc_s rfl rfl) (c137 v1) (by decide) (fun v4 qv4 => ?_)
    refine g_if_eq (tgt := 44) rfl rfl (fun q5 => ?_) (fun q5 => ?_)
    · refine g_pure (c' := (45, [(4, .int v3), (3, .int v2), (2, .int v1), (0, .ref l0), (1, .int l1)], [.int v1], (jE0, M))) 1 rfl ?_
      refine g_cI rfl (jc_s rfl rfl) (c138 v1) (by decide) (fun v6 qv6 => ?_)
      refine g_if_eq (tgt := 62) rfl rfl (fun q7 => ?_) (fun q7 => ?_)
      · refine g_pure (c' := (65, [(4, .int v3), (3, .int v2), (2, .int v1), (0, .ref l0), (1, .int l1)], [.int (8 : Int32), .int v1], (jE0, M))) 2 rfl ?_
        refine g_ic_eq (tgt := 74) rfl rfl (fun q8 => ?_) (fun q8 => ?_)
        · refine g_weakk (lv := [(0, .ref l0), (1, .int l1), (2, .int v1), (3, .int v2), (4, .int v3)]) ⟨rfl, rfl, rfl, rfl, rfl, trivial⟩ [0, 1, 2, 3, 4] rfl (by decide) [4, 3, 2, 0, 1] rfl (by decide) ?_
          exact (c144_74 l0 l1 v1 v2 v3 M pl0)
        · refine g_pure (c' := (71, [(4, .int v3), (3, .int v2), (2, .int v1), (0, .ref l0), (1, .int l1)], [.int (9 : Int32), .int v1], (jE0, M))) 2 rfl ?_
          refine g_ic_ne (tgt := 109) rfl rfl (fun q13 => ?_) (fun q13 => ?_)
          · refine g_weakk (lv := [(0, .ref l0), (1, .int l1), (2, .int v1), (3, .int v2), (4, .int v3)]) ⟨rfl, rfl, rfl, rfl, rfl, trivial⟩ [0, 1, 2, 3, 4] rfl (by decide) [4, 3, 2, 0, 1] rfl (by decide) ?_
            exact (c144_74 l0 l1 v1 v2 v3 M pl0)
          · refine g_pure (c' := (112, [(4, .int v3), (3, .int v2), (2, .int v1), (0, .ref l0), (1, .int l1)], [.int (10 : Int32), .int v1], (jE0, M))) 2 rfl ?_
            refine g_ic_ne (tgt := 126) rfl rfl (fun q14 => ?_) (fun q14 => ?_)
            · refine g_pure (c' := (116, [(4, .int v3), (3, .int v2), (2, .int v1), (0, .ref l0), (1, .int l1)], [.ref l0], (jE0, M))) 1 rfl ?_
              refine g_gp rfl rfl rfl pl0 (jp_ok (kd := 8) pl0 (by decide) (by decide) rfl rfl).1 ?_
              refine g_pure (c' := (122, [(4, .int v3), (3, .int v2), (2, .int v1), (0, .ref l0), (1, .int l1)], [.int v3, .int v2, .ref (jpt l0 12)], (jE0, M))) 2 rfl ?_
              refine g_is rfl (jk_ok (kd := 8) pl0 (by decide) (by decide) rfl rfl) (fun M15 => ?_)
              refine g_pure (c' := (169, [(4, .int v3), (3, .int v2), (2, .int v1), (0, .ref l0), (1, .int l1)], [], (jE0, M15))) 1 rfl ?_
              exact g_ret rfl rfl (fun _ h => h)
            · refine g_pure (c' := (129, [(4, .int v3), (3, .int v2), (2, .int v1), (0, .ref l0), (1, .int l1)], [.int (11 : Int32), .int v1], (jE0, M))) 2 rfl ?_
              refine g_ic_ne (tgt := 140) rfl rfl (fun q16 => ?_) (fun q16 => ?_)
              · refine g_pure (c' := (134, [(4, .int v3), (3, .int v2), (2, .int v1), (0, .ref l0), (1, .int l1)], [.int v2, .ref l0], (jE0, M))) 2 rfl ?_
                refine g_pf (ci := 7) (k := 16) rfl rfl rfl rfl pl0 (fun M17 => ?_)
                refine g_pure (c' := (169, [(4, .int v3), (3, .int v2), (2, .int v1), (0, .ref l0), (1, .int l1)], [], (jE0, M17))) 1 rfl ?_
                exact g_ret rfl rfl (fun _ h => h)
              · refine g_pure (c' := (143, [(4, .int v3), (3, .int v2), (2, .int v1), (0, .ref l0), (1, .int l1)], [.int (12 : Int32), .int v1], (jE0, M))) 2 rfl ?_
                refine g_ic_ne (tgt := 154) rfl rfl (fun q18 => ?_) (fun q18 => ?_)
                · refine g_pure (c' := (148, [(4, .int v3), (3, .int v2), (2, .int v1), (0, .ref l0), (1, .int l1)], [.int (0 : Int32), .ref l0], (jE0, M))) 2 rfl ?_
                  refine g_pf (ci := 7) (k := 13) rfl rfl rfl rfl pl0 (fun M19 => ?_)
                  refine g_pure (c' := (169, [(4, .int v3), (3, .int v2), (2, .int v1), (0, .ref l0), (1, .int l1)], [], (jE0, M19))) 1 rfl ?_
                  exact g_ret rfl rfl (fun _ h => h)
                · refine g_pure (c' := (156, [(4, .int v3), (3, .int v2), (2, .int v1), (0, .ref l0), (1, .int l1)], [.int (0 : Int32), .ref l0], (jE0, M))) 2 rfl ?_
                  refine g_pf (ci := 7) (k := 7) rfl rfl rfl rfl pl0 (fun M20 => ?_)
                  refine g_pure (c' := (161, [(4, .int v3), (3, .int v2), (2, .int v1), (0, .ref l0), (1, .int l1)], [.int (0 : Int32), .ref l0], (jE0, M20))) 2 rfl ?_
                  refine g_pf (ci := 7) (k := 13) rfl rfl rfl rfl pl0 (fun M21 => ?_)
                  refine g_pure (c' := (166, [(4, .int v3), (3, .int v2), (2, .int v1), (0, .ref l0), (1, .int l1)], [.int (2 : Int32), .ref l0], (jE0, M21))) 2 rfl ?_
                  refine g_pf (ci := 7) (k := 16) rfl rfl rfl rfl pl0 (fun M22 => ?_)
                  exact g_ret rfl rfl (fun _ h => h)
      · refine g_pure (c' := (56, [(4, .int v3), (3, .int v2), (2, .int v1), (0, .ref l0), (1, .int l1)], [.int v2, .int (v1 - (5 : Int32)), .ref l0], (jE0, M))) 5 rfl ?_
        refine g_wV rfl (jc_v rfl rfl (jv_o pl0 rfl) rfl) (c142 l0 (v1 - (5 : Int32)) v2 M pl0) (by decide) (fun M23 => ?_)
        refine g_pure (c' := (169, [(4, .int v3), (3, .int v2), (2, .int v1), (0, .ref l0), (1, .int l1)], [], (jE0, M23))) 1 rfl ?_
        exact g_ret rfl rfl (fun _ h => h)
    · refine g_pure (c' := (38, [(4, .int v3), (3, .int v2), (2, .int v1), (0, .ref l0), (1, .int l1)], [.int v2, .int (v1 - (1 : Int32)), .ref l0], (jE0, M))) 5 rfl ?_
      refine g_wV rfl (jc_v rfl rfl (jv_o pl0 rfl) rfl) (c143 l0 (v1 - (1 : Int32)) v2 M pl0) (by decide) (fun M24 => ?_)
      refine g_pure (c' := (169, [(4, .int v3), (3, .int v2), (2, .int v1), (0, .ref l0), (1, .int l1)], [], (jE0, M24))) 1 rfl ?_
      exact g_ret rfl rfl (fun _ h => h)
def f145_32 (h2 : Nat → Int32 → JM → Option JM) (l0 : Nat) (l1 : Int32) (s0 : Int32) (s1 : Int32) (s2 : Nat) (M : JM) : Option JM := ((jsa s2 s1 s0 M).bind fun M4 => (h2 l0 (l1 + (1 : Int32)) M4))
set_option maxRecDepth 100000 in
theorem c145_32 {xs : Option (List Int32)} (h2 : Nat → Int32 → JM → Option JM) (H2 : ∀ (l0 : Nat) (l1 : Int32) (M : JM) (pl0 : jok jE0 l0 7 = true), JG xs 1 145 (h2 l0 l1 M) (fun x r => r = (none, (jE0, x))) (2, [(0, .ref l0), (1, .int l1)], [], (jE0, M))) : ∀ (l0 : Nat) (l1 : Int32) (s0 : Int32) (s1 : Int32) (s2 : Nat) (M : JM) (pl0 : jok jE0 l0 7 = true) (ps2 : jok jE0 s2 8 = true), JG xs 1 145 (f145_32 h2 l0 l1 s0 s1 s2 M) (fun x r => r = (none, (jE0, x))) (32, [(0, .ref l0), (1, .int l1)], [.int s0, .int s1, .ref s2], (jE0, M)) := by
    intro l0 l1 s0 s1 s2 M pl0 ps2
    unfold f145_32
    refine g_is rfl ps2 (fun M4 => ?_)
    refine g_pure (c' := (2, [(1, .int (l1 + (1 : Int32))), (0, .ref l0)], [], (jE0, M4))) 2 rfl ?_
    refine g_weakk (lv := [(0, .ref l0), (1, .int (l1 + (1 : Int32)))]) ⟨rfl, rfl, trivial⟩ [0, 1] rfl (by decide) [1, 0] rfl (by decide) ?_
    exact (H2 l0 (l1 + (1 : Int32)) M4 pl0)
def f145_41  : Nat → Nat → Int32 → JM → Option JM
  | 0, _, _, _ => none
  | n + 1, l0, l1, M => (if l1 < (M l0 7) then ((jla (jpt l0 12) l1 M).bind fun v6 => ((jsa (jpt l0 0) ((1 : Int32) + l1) v6 M).bind fun M7 => ((f145_41 n) l0 (l1 + (1 : Int32)) M7))) else ((jsa (jpt l0 0) (10 : Int32) (((1 : Int32) <<< ((M l0 7) &&& (31 : Int32))) - (1 : Int32)) M).bind fun M8 => ((some (jup M8 l0 1 (0 : Int32))).bind fun M9 => ((jsa (jpt l0 2) (0 : Int32) ((0 : Int32) &&& 1) M9).bind fun M10 => ((jsa (jpt l0 2) (1 : Int32) ((0 : Int32) &&& 1) M10).bind fun M11 => ((some (jup M11 l0 27 (0 : Int32))).bind fun M12 => (some M12)))))))
set_option maxRecDepth 100000 in
theorem c145_41 {xs : Option (List Int32)} : ∀ (n : Nat) (l0 : Nat) (l1 : Int32) (M : JM) (pl0 : jok jE0 l0 7 = true), JG xs 1 145 (f145_41 n l0 l1 M) (fun x r => r = (none, (jE0, x))) (41, [(0, .ref l0), (1, .int l1)], [], (jE0, M))
  | 0, _, _, _, _ => by rw [f145_41]; exact g_none
  | n + 1, l0, l1, M, pl0 => by
    rw [f145_41]
    refine g_pure (c' := (43, [(0, .ref l0), (1, .int l1)], [.ref l0, .int l1], (jE0, M))) 2 rfl ?_
    refine g_gf (ci := 7) (k := 7) rfl rfl rfl pl0 ?_
    refine g_ic_ge (tgt := 69) rfl rfl (fun q5 => ?_) (fun q5 => ?_)
    · refine g_pure (c' := (50, [(0, .ref l0), (1, .int l1)], [.ref l0], (jE0, M))) 1 rfl ?_
      refine g_gp rfl rfl rfl pl0 (jp_ok (kd := 8) pl0 (by decide) (by decide) rfl rfl).1 ?_
      refine g_pure (c' := (57, [(0, .ref l0), (1, .int l1)], [.ref l0, .int ((1 : Int32) + l1), .ref (jpt l0 0)], (jE0, M))) 4 rfl ?_
      refine g_gp rfl rfl rfl pl0 (jp_ok (kd := 8) pl0 (by decide) (by decide) rfl rfl).1 ?_
      refine g_pure (c' := (61, [(0, .ref l0), (1, .int l1)], [.int l1, .ref (jpt l0 12), .int ((1 : Int32) + l1), .ref (jpt l0 0)], (jE0, M))) 1 rfl ?_
      refine g_ia rfl (jk_ok (kd := 8) pl0 (by decide) (by decide) rfl rfl) (fun v6 => ?_)
      refine g_is rfl (jk_ok (kd := 8) pl0 (by decide) (by decide) rfl rfl) (fun M7 => ?_)
      refine g_pure (c' := (41, [(1, .int (l1 + (1 : Int32))), (0, .ref l0)], [], (jE0, M7))) 2 rfl ?_
      refine g_weakk (lv := [(0, .ref l0), (1, .int (l1 + (1 : Int32)))]) ⟨rfl, rfl, trivial⟩ [0, 1] rfl (by decide) [1, 0] rfl (by decide) ?_
      exact ((c145_41 n) l0 (l1 + (1 : Int32)) M7 pl0)
    · refine g_pure (c' := (70, [(0, .ref l0), (1, .int l1)], [.ref l0], (jE0, M))) 1 rfl ?_
      refine g_gp rfl rfl rfl pl0 (jp_ok (kd := 8) pl0 (by decide) (by decide) rfl rfl).1 ?_
      refine g_pure (c' := (77, [(0, .ref l0), (1, .int l1)], [.ref l0, .int (1 : Int32), .int (10 : Int32), .ref (jpt l0 0)], (jE0, M))) 3 rfl ?_
      refine g_gf (ci := 7) (k := 7) rfl rfl rfl pl0 ?_
      refine g_pure (c' := (83, [(0, .ref l0), (1, .int l1)], [.int (((1 : Int32) <<< ((M l0 7) &&& (31 : Int32))) - (1 : Int32)), .int (10 : Int32), .ref (jpt l0 0)], (jE0, M))) 3 rfl ?_
      refine g_is rfl (jk_ok (kd := 8) pl0 (by decide) (by decide) rfl rfl) (fun M8 => ?_)
      refine g_pure (c' := (86, [(0, .ref l0), (1, .int l1)], [.int (0 : Int32), .ref l0], (jE0, M8))) 2 rfl ?_
      refine g_pf (ci := 7) (k := 1) rfl rfl rfl rfl pl0 (fun M9 => ?_)
      refine g_pure (c' := (90, [(0, .ref l0), (1, .int l1)], [.ref l0], (jE0, M9))) 1 rfl ?_
      refine g_gp rfl rfl rfl pl0 (jp_ok (kd := 9) pl0 (by decide) (by decide) rfl rfl).1 ?_
      refine g_pure (c' := (95, [(0, .ref l0), (1, .int l1)], [.int (0 : Int32), .int (0 : Int32), .ref (jpt l0 2)], (jE0, M9))) 2 rfl ?_
      refine g_zs rfl (jk_ok (kd := 9) pl0 (by decide) (by decide) rfl rfl) (fun M10 => ?_)
      refine g_pure (c' := (97, [(0, .ref l0), (1, .int l1)], [.ref l0], (jE0, M10))) 1 rfl ?_
      refine g_gp rfl rfl rfl pl0 (jp_ok (kd := 9) pl0 (by decide) (by decide) rfl rfl).1 ?_
      refine g_pure (c' := (102, [(0, .ref l0), (1, .int l1)], [.int (0 : Int32), .int (1 : Int32), .ref (jpt l0 2)], (jE0, M10))) 2 rfl ?_
      refine g_zs rfl (jk_ok (kd := 9) pl0 (by decide) (by decide) rfl rfl) (fun M11 => ?_)
      refine g_pure (c' := (105, [(0, .ref l0), (1, .int l1)], [.int (0 : Int32), .ref l0], (jE0, M11))) 2 rfl ?_
      refine g_pf (ci := 7) (k := 27) rfl rfl rfl rfl pl0 (fun M12 => ?_)
      exact g_ret rfl rfl (fun _ h => h)
def f145_2  : Nat → Nat → Int32 → JM → Option JM
  | 0, _, _, _ => none
  | n + 1, l0, l1, M => (if l1 < (61 : Int32) then ((f125 ((l1).toInt64) (11 : Int64) (19 : Int64)).bind fun v2 => (if v2 = (0 : Int32) then (f145_32 (f145_2 n) l0 l1 (0 : Int32) l1 (jpt l0 0) M) else (f145_32 (f145_2 n) l0 l1 (-1 : Int32) l1 (jpt l0 0) M))) else (f145_41 1000 l0 (0 : Int32) M))
set_option maxRecDepth 100000 in
theorem c145_2 {xs : Option (List Int32)} : ∀ (n : Nat) (l0 : Nat) (l1 : Int32) (M : JM) (pl0 : jok jE0 l0 7 = true), JG xs 1 145 (f145_2 n l0 l1 M) (fun x r => r = (none, (jE0, x))) (2, [(0, .ref l0), (1, .int l1)], [], (jE0, M))
  | 0, _, _, _, _ => by rw [f145_2]; exact g_none
  | n + 1, l0, l1, M, pl0 => by
    rw [f145_2]
    refine g_pure (c' := (5, [(0, .ref l0), (1, .int l1)], [.int (61 : Int32), .int l1], (jE0, M))) 2 rfl ?_
    refine g_ic_ge (tgt := 39) rfl rfl (fun q1 => ?_) (fun q1 => ?_)
    · refine g_pure (c' := (9, [(0, .ref l0), (1, .int l1)], [.ref l0], (jE0, M))) 1 rfl ?_
      refine g_gp rfl rfl rfl pl0 (jp_ok (kd := 8) pl0 (by decide) (by decide) rfl rfl).1 ?_
      refine g_pure (c' := (21, [(0, .ref l0), (1, .int l1)], [.long (19 : Int64), .long (11 : Int64), .long ((l1).toInt64), .int l1, .ref (jpt l0 0)], (jE0, M))) 5 rfl ?_
      refine g_cI rfl (jc_s rfl rfl) (c125 ((l1).toInt64) (11 : Int64) (19 : Int64)) (by decide) (fun v2 qv2 => ?_)
      refine g_if_eq (tgt := 31) rfl rfl (fun q3 => ?_) (fun q3 => ?_)
      · refine g_pure (c' := (32, [(0, .ref l0), (1, .int l1)], [.int (0 : Int32), .int l1, .ref (jpt l0 0)], (jE0, M))) 1 rfl ?_
        exact (c145_32 (f145_2 n) (c145_2 n) l0 l1 (0 : Int32) l1 (jpt l0 0) M pl0 (jk_ok (kd := 8) pl0 (by decide) (by decide) rfl rfl))
      · refine g_pure (c' := (32, [(0, .ref l0), (1, .int l1)], [.int (-1 : Int32), .int l1, .ref (jpt l0 0)], (jE0, M))) 2 rfl ?_
        exact (c145_32 (f145_2 n) (c145_2 n) l0 l1 (-1 : Int32) l1 (jpt l0 0) M pl0 (jk_ok (kd := 8) pl0 (by decide) (by decide) rfl rfl))
    · refine g_pure (c' := (41, [(1, .int (0 : Int32)), (0, .ref l0)], [], (jE0, M))) 2 rfl ?_
      refine g_weakk (lv := [(0, .ref l0), (1, .int (0 : Int32))]) ⟨rfl, rfl, trivial⟩ [0, 1] rfl (by decide) [1, 0] rfl (by decide) ?_
      exact (c145_41 1000 l0 (0 : Int32) M pl0)
/-- CometKinModel.begin -/
def f145  (l0 : Nat) (M : JM) : Option JM := (f145_2 1000 l0 (0 : Int32) M)
set_option maxRecDepth 100000 in
theorem c145 {xs : Option (List Int32)} (l0 : Nat) (M : JM) (pl0 : jok jE0 l0 7 = true) : JG xs 1 145 (f145 l0 M) (fun x r => r = (none, (jE0, x))) (0, [(0, .ref l0)], [], (jE0, M)) := by
    unfold f145
    refine g_pure (c' := (2, [(1, .int (0 : Int32)), (0, .ref l0)], [], (jE0, M))) 2 rfl ?_
    refine g_weakk (lv := [(0, .ref l0), (1, .int (0 : Int32))]) ⟨rfl, rfl, trivial⟩ [0, 1] rfl (by decide) [1, 0] rfl (by decide) ?_
    exact (c145_2 1000 l0 (0 : Int32) M pl0)
def f146_13  : Nat → Nat → Int32 → JM → Option (Int32 × JM)
  | 0, _, _, _ => none
  | n + 1, l0, l1, M => (if l1 < (M l0 6) then ((f144 l0 ((4 : Int32) * l1) M).bind fun M5 => ((f146_13 n) l0 (l1 + (1 : Int32)) M5)) else ((f145 l0 M).bind fun M6 => ((some (jup M6 l0 4 (0 : Int32))).bind fun M7 => (some ((M7 l0 6), M7)))))
set_option maxRecDepth 100000 in
theorem c146_13 {xs : Option (List Int32)} : ∀ (n : Nat) (l0 : Nat) (l1 : Int32) (M : JM) (pl0 : jok jE0 l0 7 = true), JG xs 6 146 (f146_13 n l0 l1 M) (fun x r => r = (some (.int x.1), (jE0, x.2))) (13, [(0, .ref l0), (1, .int l1)], [], (jE0, M))
  | 0, _, _, _, _ => by rw [f146_13]; exact g_none
  | n + 1, l0, l1, M, pl0 => by
    rw [f146_13]
    refine g_pure (c' := (15, [(0, .ref l0), (1, .int l1)], [.ref l0, .int l1], (jE0, M))) 2 rfl ?_
    refine g_gf (ci := 7) (k := 6) rfl rfl rfl pl0 ?_
    refine g_ic_ge (tgt := 34) rfl rfl (fun q4 => ?_) (fun q4 => ?_)
    · refine g_pure (c' := (25, [(0, .ref l0), (1, .int l1)], [.int ((4 : Int32) * l1), .ref l0], (jE0, M))) 4 rfl ?_
      refine g_wV rfl (jc_v rfl rfl (jv_o pl0 rfl) rfl) (c144 l0 ((4 : Int32) * l1) M pl0) (by decide) (fun M5 => ?_)
      refine g_pure (c' := (13, [(1, .int (l1 + (1 : Int32))), (0, .ref l0)], [], (jE0, M5))) 2 rfl ?_
      refine g_weakk (lv := [(0, .ref l0), (1, .int (l1 + (1 : Int32)))]) ⟨rfl, rfl, trivial⟩ [0, 1] rfl (by decide) [1, 0] rfl (by decide) ?_
      exact ((c146_13 n) l0 (l1 + (1 : Int32)) M5 pl0)
    · refine g_pure (c' := (35, [(0, .ref l0), (1, .int l1)], [.ref l0], (jE0, M))) 1 rfl ?_
      refine g_wV rfl (jc_v rfl rfl (jv_o pl0 rfl) rfl) (c145 l0 M pl0) (by decide) (fun M6 => ?_)
      refine g_pure (c' := (40, [(0, .ref l0), (1, .int l1)], [.int (0 : Int32), .ref l0], (jE0, M6))) 2 rfl ?_
      refine g_pf (ci := 7) (k := 4) rfl rfl rfl rfl pl0 (fun M7 => ?_)
      refine g_pure (c' := (44, [(0, .ref l0), (1, .int l1)], [.ref l0], (jE0, M7))) 1 rfl ?_
      refine g_gf (ci := 7) (k := 6) rfl rfl rfl pl0 ?_
      exact g_ret rfl rfl (fun _ h => h)
/-- CometKinModel.land -/
def f146  (l0 : Nat) (M : JM) : Option (Int32 × JM) := ((f141 l0 M).bind fun z8 => (if z8.1 = (-1 : Int32) then (f146_13 1000 l0 (0 : Int32) z8.2) else (some ((-4 : Int32), z8.2))))
set_option maxRecDepth 100000 in
theorem c146 {xs : Option (List Int32)} (l0 : Nat) (M : JM) (pl0 : jok jE0 l0 7 = true) : JG xs 6 146 (f146 l0 M) (fun x r => r = (some (.int x.1), (jE0, x.2))) (0, [(0, .ref l0)], [], (jE0, M)) := by
    unfold f146
    refine g_pure (c' := (1, [(0, .ref l0)], [.ref l0], (jE0, M))) 1 rfl ?_
    refine g_wI rfl (jc_v rfl rfl (jv_o pl0 rfl) rfl) (c141 l0 M pl0) (by decide) (fun v2 M1 qv2 => ?_)
    refine g_pure (c' := (5, [(0, .ref l0)], [.int (-1 : Int32), .int v2], (jE0, M1))) 1 rfl ?_
    refine g_ic_eq (tgt := 11) rfl rfl (fun q3 => ?_) (fun q3 => ?_)
    · refine g_pure (c' := (13, [(1, .int (0 : Int32)), (0, .ref l0)], [], (jE0, M1))) 2 rfl ?_
      refine g_weakk (lv := [(0, .ref l0), (1, .int (0 : Int32))]) ⟨rfl, rfl, trivial⟩ [0, 1] rfl (by decide) [1, 0] rfl (by decide) ?_
      exact (c146_13 1000 l0 (0 : Int32) M1 pl0)
    · refine g_pure (c' := (10, [(0, .ref l0)], [.int (-4 : Int32)], (jE0, M1))) 1 rfl ?_
      exact g_ret rfl rfl (fun _ h => h)
/-- CometKin$Country.hasOne -/
def f3 (M : JM) (l0 : Nat) (l1 : Int32) : Option Int32 := (if l1 < (0 : Int32) then (some (0 : Int32)) else (if l1 < (M l0 0) then (some (1 : Int32)) else (some (0 : Int32))))
set_option maxRecDepth 100000 in
theorem c3 {xs : Option (List Int32)} {M : JM} (l0 : Nat) (l1 : Int32) (pl0 : jok jE0 l0 0 = true) : JG xs 0 3 (f3 M l0 l1) (fun x r => r = (some (.int x), (jE0, M))) (0, [(0, .ref l0), (1, .int l1)], [], (jE0, M)) := by
    unfold f3
    refine g_pure (c' := (1, [(0, .ref l0), (1, .int l1)], [.int l1], (jE0, M))) 1 rfl ?_
    refine g_if_lt (tgt := 16) rfl rfl (fun q1 => ?_) (fun q1 => ?_)
    · refine g_pure (c' := (17, [(0, .ref l0), (1, .int l1)], [.int (0 : Int32)], (jE0, M))) 1 rfl ?_
      exact g_ret rfl rfl (fun _ h => h)
    · refine g_pure (c' := (6, [(0, .ref l0), (1, .int l1)], [.ref l0, .int l1], (jE0, M))) 2 rfl ?_
      refine g_gf (ci := 0) (k := 0) rfl rfl rfl pl0 ?_
      refine g_ic_ge (tgt := 16) rfl rfl (fun q2 => ?_) (fun q2 => ?_)
      · refine g_pure (c' := (17, [(0, .ref l0), (1, .int l1)], [.int (1 : Int32)], (jE0, M))) 2 rfl ?_
        exact g_ret rfl rfl (fun _ h => h)
      · refine g_pure (c' := (17, [(0, .ref l0), (1, .int l1)], [.int (0 : Int32)], (jE0, M))) 1 rfl ?_
        exact g_ret rfl rfl (fun _ h => h)
/-- CometKin.one -/
def f72 (M : JM) (l0 : Nat) (l1 : Int32) (l2 : Int32) : Option Int32 := ((f3 M (jpt l0 1) l1).bind fun v1 => (if v1 = (0 : Int32) then (some (-2 : Int32)) else (if l2 = (0 : Int32) then ((f42 M (jpt (jpt l0 1) 3) l1).bind fun v4 => (some v4)) else (if l2 = (1 : Int32) then ((f42 M (jpt (jpt l0 1) 4) l1).bind fun v6 => (some v6)) else (if l2 = (2 : Int32) then ((f42 M (jpt (jpt l0 1) 5) l1).bind fun v8 => (some v8)) else (if l2 = (3 : Int32) then ((f42 M (jpt (jpt l0 1) 6) l1).bind fun v10 => (some v10)) else (if l2 = (4 : Int32) then ((f42 M (jpt (jpt l0 3) 5) l1).bind fun v12 => (some v12)) else (if l2 = (5 : Int32) then ((f101 (M (jpt l0 3) 1) l1).bind fun v14 => (if v14 = (0 : Int32) then (some (0 : Int32)) else (some (1 : Int32)))) else (if l2 = (6 : Int32) then ((f42 M (jpt (jpt l0 3) 4) l1).bind fun v17 => (some v17)) else (some (-3 : Int32)))))))))))
set_option maxRecDepth 100000 in
theorem c72 {xs : Option (List Int32)} {M : JM} (l0 : Nat) (l1 : Int32) (l2 : Int32) (pl0 : jok jE0 l0 6 = true) : JG xs 1 72 (f72 M l0 l1 l2) (fun x r => r = (some (.int x), (jE0, M))) (0, [(0, .ref l0), (1, .int l1), (2, .int l2)], [], (jE0, M)) := by
    unfold f72
    refine g_pure (c' := (1, [(0, .ref l0), (1, .int l1), (2, .int l2)], [.ref l0], (jE0, M))) 1 rfl ?_
    refine g_gp rfl rfl rfl pl0 (jp_ok (kd := 0) pl0 (by decide) (by decide) rfl rfl).1 ?_
    refine g_pure (c' := (5, [(0, .ref l0), (1, .int l1), (2, .int l2)], [.int l1, .ref (jpt l0 1)], (jE0, M))) 1 rfl ?_
    refine g_cI rfl (jc_v rfl rfl (jv_o (jk_ok (kd := 0) pl0 (by decide) (by decide) rfl rfl) rfl) rfl) (c3 (jpt l0 1) l1 (jk_ok (kd := 0) pl0 (by decide) (by decide) rfl rfl)) (by decide) (fun v1 qv1 => ?_)
    refine g_if_ne (tgt := 14) rfl rfl (fun q2 => ?_) (fun q2 => ?_)
    · refine g_pure (c' := (13, [(0, .ref l0), (1, .int l1), (2, .int l2)], [.int (-2 : Int32)], (jE0, M))) 1 rfl ?_
      exact g_ret rfl rfl (fun _ h => h)
    · refine g_pure (c' := (15, [(0, .ref l0), (1, .int l1), (2, .int l2)], [.int l2], (jE0, M))) 1 rfl ?_
      refine g_eq (fun q3 => ?_) (fun q3 => ?_)
      · refine g_t1 q3 rfl rfl ?_
        refine g_pure (c' := (57, [(0, .ref l0), (1, .int l1), (2, .int l2)], [.ref l0], (jE0, M))) 1 rfl ?_
        refine g_gp rfl rfl rfl pl0 (jp_ok (kd := 0) pl0 (by decide) (by decide) rfl rfl).1 ?_
        refine g_gp rfl rfl rfl (jk_ok (kd := 0) pl0 (by decide) (by decide) rfl rfl) (jp_ok (kd := 3) (jk_ok (kd := 0) pl0 (by decide) (by decide) rfl rfl) (by decide) (by decide) rfl rfl).1 ?_
        refine g_pure (c' := (64, [(0, .ref l0), (1, .int l1), (2, .int l2)], [.int l1, .ref (jpt (jpt l0 1) 3)], (jE0, M))) 1 rfl ?_
        refine g_cI rfl (jc_v rfl rfl (jv_o (jk_ok (kd := 3) (jk_ok (kd := 0) pl0 (by decide) (by decide) rfl rfl) (by decide) (by decide) rfl rfl) rfl) rfl) (c42 (jpt (jpt l0 1) 3) l1 (jk_ok (kd := 3) (jk_ok (kd := 0) pl0 (by decide) (by decide) rfl rfl) (by decide) (by decide) rfl rfl)) (by decide) (fun v4 qv4 => ?_)
        exact g_ret rfl rfl (fun _ h => h)
      refine g_eq (fun q5 => ?_) (fun q5 => ?_)
      · refine g_t1 q5 rfl rfl ?_
        refine g_pure (c' := (69, [(0, .ref l0), (1, .int l1), (2, .int l2)], [.ref l0], (jE0, M))) 1 rfl ?_
        refine g_gp rfl rfl rfl pl0 (jp_ok (kd := 0) pl0 (by decide) (by decide) rfl rfl).1 ?_
        refine g_gp rfl rfl rfl (jk_ok (kd := 0) pl0 (by decide) (by decide) rfl rfl) (jp_ok (kd := 3) (jk_ok (kd := 0) pl0 (by decide) (by decide) rfl rfl) (by decide) (by decide) rfl rfl).1 ?_
        refine g_pure (c' := (76, [(0, .ref l0), (1, .int l1), (2, .int l2)], [.int l1, .ref (jpt (jpt l0 1) 4)], (jE0, M))) 1 rfl ?_
        refine g_cI rfl (jc_v rfl rfl (jv_o (jk_ok (kd := 3) (jk_ok (kd := 0) pl0 (by decide) (by decide) rfl rfl) (by decide) (by decide) rfl rfl) rfl) rfl) (c42 (jpt (jpt l0 1) 4) l1 (jk_ok (kd := 3) (jk_ok (kd := 0) pl0 (by decide) (by decide) rfl rfl) (by decide) (by decide) rfl rfl)) (by decide) (fun v6 qv6 => ?_)
        exact g_ret rfl rfl (fun _ h => h)
      refine g_eq (fun q7 => ?_) (fun q7 => ?_)
      · refine g_t1 q7 rfl rfl ?_
        refine g_pure (c' := (81, [(0, .ref l0), (1, .int l1), (2, .int l2)], [.ref l0], (jE0, M))) 1 rfl ?_
        refine g_gp rfl rfl rfl pl0 (jp_ok (kd := 0) pl0 (by decide) (by decide) rfl rfl).1 ?_
        refine g_gp rfl rfl rfl (jk_ok (kd := 0) pl0 (by decide) (by decide) rfl rfl) (jp_ok (kd := 3) (jk_ok (kd := 0) pl0 (by decide) (by decide) rfl rfl) (by decide) (by decide) rfl rfl).1 ?_
        refine g_pure (c' := (88, [(0, .ref l0), (1, .int l1), (2, .int l2)], [.int l1, .ref (jpt (jpt l0 1) 5)], (jE0, M))) 1 rfl ?_
        refine g_cI rfl (jc_v rfl rfl (jv_o (jk_ok (kd := 3) (jk_ok (kd := 0) pl0 (by decide) (by decide) rfl rfl) (by decide) (by decide) rfl rfl) rfl) rfl) (c42 (jpt (jpt l0 1) 5) l1 (jk_ok (kd := 3) (jk_ok (kd := 0) pl0 (by decide) (by decide) rfl rfl) (by decide) (by decide) rfl rfl)) (by decide) (fun v8 qv8 => ?_)
        exact g_ret rfl rfl (fun _ h => h)
      refine g_eq (fun q9 => ?_) (fun q9 => ?_)
      · refine g_t1 q9 rfl rfl ?_
        refine g_pure (c' := (93, [(0, .ref l0), (1, .int l1), (2, .int l2)], [.ref l0], (jE0, M))) 1 rfl ?_
        refine g_gp rfl rfl rfl pl0 (jp_ok (kd := 0) pl0 (by decide) (by decide) rfl rfl).1 ?_
        refine g_gp rfl rfl rfl (jk_ok (kd := 0) pl0 (by decide) (by decide) rfl rfl) (jp_ok (kd := 3) (jk_ok (kd := 0) pl0 (by decide) (by decide) rfl rfl) (by decide) (by decide) rfl rfl).1 ?_
        refine g_pure (c' := (100, [(0, .ref l0), (1, .int l1), (2, .int l2)], [.int l1, .ref (jpt (jpt l0 1) 6)], (jE0, M))) 1 rfl ?_
        refine g_cI rfl (jc_v rfl rfl (jv_o (jk_ok (kd := 3) (jk_ok (kd := 0) pl0 (by decide) (by decide) rfl rfl) (by decide) (by decide) rfl rfl) rfl) rfl) (c42 (jpt (jpt l0 1) 6) l1 (jk_ok (kd := 3) (jk_ok (kd := 0) pl0 (by decide) (by decide) rfl rfl) (by decide) (by decide) rfl rfl)) (by decide) (fun v10 qv10 => ?_)
        exact g_ret rfl rfl (fun _ h => h)
      refine g_eq (fun q11 => ?_) (fun q11 => ?_)
      · refine g_t1 q11 rfl rfl ?_
        refine g_pure (c' := (105, [(0, .ref l0), (1, .int l1), (2, .int l2)], [.ref l0], (jE0, M))) 1 rfl ?_
        refine g_gp rfl rfl rfl pl0 (jp_ok (kd := 2) pl0 (by decide) (by decide) rfl rfl).1 ?_
        refine g_gp rfl rfl rfl (jk_ok (kd := 2) pl0 (by decide) (by decide) rfl rfl) (jp_ok (kd := 3) (jk_ok (kd := 2) pl0 (by decide) (by decide) rfl rfl) (by decide) (by decide) rfl rfl).1 ?_
        refine g_pure (c' := (112, [(0, .ref l0), (1, .int l1), (2, .int l2)], [.int l1, .ref (jpt (jpt l0 3) 5)], (jE0, M))) 1 rfl ?_
        refine g_cI rfl (jc_v rfl rfl (jv_o (jk_ok (kd := 3) (jk_ok (kd := 2) pl0 (by decide) (by decide) rfl rfl) (by decide) (by decide) rfl rfl) rfl) rfl) (c42 (jpt (jpt l0 3) 5) l1 (jk_ok (kd := 3) (jk_ok (kd := 2) pl0 (by decide) (by decide) rfl rfl) (by decide) (by decide) rfl rfl)) (by decide) (fun v12 qv12 => ?_)
        exact g_ret rfl rfl (fun _ h => h)
      refine g_eq (fun q13 => ?_) (fun q13 => ?_)
      · refine g_t1 q13 rfl rfl ?_
        refine g_pure (c' := (117, [(0, .ref l0), (1, .int l1), (2, .int l2)], [.ref l0], (jE0, M))) 1 rfl ?_
        refine g_gp rfl rfl rfl pl0 (jp_ok (kd := 2) pl0 (by decide) (by decide) rfl rfl).1 ?_
        refine g_gf (ci := 2) (k := 1) rfl rfl rfl (jk_ok (kd := 2) pl0 (by decide) (by decide) rfl rfl) ?_
        refine g_pure (c' := (124, [(0, .ref l0), (1, .int l1), (2, .int l2)], [.int l1, .int (M (jpt l0 3) 1)], (jE0, M))) 1 rfl ?_
        refine g_cI rfl (jc_s rfl rfl) (c101 (M (jpt l0 3) 1) l1) (by decide) (fun v14 qv14 => ?_)
        refine g_if_eq (tgt := 134) rfl rfl (fun q15 => ?_) (fun q15 => ?_)
        · refine g_pure (c' := (135, [(0, .ref l0), (1, .int l1), (2, .int l2)], [.int (0 : Int32)], (jE0, M))) 1 rfl ?_
          exact g_ret rfl rfl (fun _ h => h)
        · refine g_pure (c' := (135, [(0, .ref l0), (1, .int l1), (2, .int l2)], [.int (1 : Int32)], (jE0, M))) 2 rfl ?_
          exact g_ret rfl rfl (fun _ h => h)
      refine g_eq (fun q16 => ?_) (fun q16 => ?_)
      · refine g_t1 q16 rfl rfl ?_
        refine g_pure (c' := (137, [(0, .ref l0), (1, .int l1), (2, .int l2)], [.ref l0], (jE0, M))) 1 rfl ?_
        refine g_gp rfl rfl rfl pl0 (jp_ok (kd := 2) pl0 (by decide) (by decide) rfl rfl).1 ?_
        refine g_gp rfl rfl rfl (jk_ok (kd := 2) pl0 (by decide) (by decide) rfl rfl) (jp_ok (kd := 3) (jk_ok (kd := 2) pl0 (by decide) (by decide) rfl rfl) (by decide) (by decide) rfl rfl).1 ?_
        refine g_pure (c' := (144, [(0, .ref l0), (1, .int l1), (2, .int l2)], [.int l1, .ref (jpt (jpt l0 3) 4)], (jE0, M))) 1 rfl ?_
        refine g_cI rfl (jc_v rfl rfl (jv_o (jk_ok (kd := 3) (jk_ok (kd := 2) pl0 (by decide) (by decide) rfl rfl) (by decide) (by decide) rfl rfl) rfl) rfl) (c42 (jpt (jpt l0 3) 4) l1 (jk_ok (kd := 3) (jk_ok (kd := 2) pl0 (by decide) (by decide) rfl rfl) (by decide) (by decide) rfl rfl)) (by decide) (fun v17 qv17 => ?_)
        exact g_ret rfl rfl (fun _ h => h)
      refine g_t0 (tgt := 148) rfl (fun v h1 h2 => ?_) rfl ?_
      · rcases (show v = 0 ∨ v = 1 ∨ v = 2 ∨ v = 3 ∨ v = 4 ∨ v = 5 ∨ v = 6 by omega) with rfl | rfl | rfl | rfl | rfl | rfl | rfl
        · exact q3
        · exact q5
        · exact q7
        · exact q9
        · exact q11
        · exact q13
        · exact q16
      refine g_pure (c' := (150, [(0, .ref l0), (1, .int l1), (2, .int l2)], [.int (-3 : Int32)], (jE0, M))) 1 rfl ?_
      exact g_ret rfl rfl (fun _ h => h)
