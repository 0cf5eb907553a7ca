/-- CometKinModel.has -/
def f126  (l0 : Int32) (l1 : Int32) : Option Int32 := (if ((l0 >>> (l1 &&& (31 : Int32))) &&& (1 : Int32)) = (1 : Int32) then (some (1 : Int32)) else (some (0 : Int32)))
set_option maxRecDepth 100000 in
theorem c126 {xs : Option (List Int32)} {M : JM} (l0 : Int32) (l1 : Int32) : JG xs 0 126 (f126 l0 l1) (fun x r => r = (some (.int x), (jE0, M))) (0, [(0, .int l0), (1, .int l1)], [], (jE0, M)) := by
    unfold f126
    refine g_pure (c' := (6, [(0, .int l0), (1, .int l1)], [.int (1 : Int32), .int ((l0 >>> (l1 &&& (31 : Int32))) &&& (1 : Int32))], (jE0, M))) 6 rfl ?_
    refine g_ic_ne (tgt := 13) rfl rfl (fun q1 => ?_) (fun q1 => ?_)
    · refine g_pure (c' := (14, [(0, .int l0), (1, .int l1)], [.int (1 : Int32)], (jE0, M))) 2 rfl ?_
      exact g_ret rfl rfl (fun _ h => h)
    · refine g_pure (c' := (14, [(0, .int l0), (1, .int l1)], [.int (0 : Int32)], (jE0, M))) 1 rfl ?_
      exact g_ret rfl rfl (fun _ h => h)
def f154_56 (M : JM) (h5 : Nat → Int32 → Int32 → Int32 → Int32 → Option Int32) (l0 : Nat) (l1 : Int32) (l2 : Int32) (l4 : Int32) (s0 : Int32) : Option Int32 := (h5 l0 l1 l2 s0 (l4 + (1 : Int32)))
set_option maxRecDepth 100000 in
theorem c154_56 {xs : Option (List Int32)} {M : JM} (h5 : Nat → Int32 → Int32 → Int32 → Int32 → Option Int32) (H5 : ∀ (l0 : Nat) (l1 : Int32) (l2 : Int32) (l3 : Int32) (l4 : Int32) (pl0 : jok jE0 l0 7 = true), JG xs 1 154 (h5 l0 l1 l2 l3 l4) (fun x r => r = (some (.int x), (jE0, M))) (5, [(0, .ref l0), (1, .int l1), (2, .int l2), (3, .int l3), (4, .int l4)], [], (jE0, M))) : ∀ (l0 : Nat) (l1 : Int32) (l2 : Int32) (l4 : Int32) (s0 : Int32) (pl0 : jok jE0 l0 7 = true), JG xs 1 154 (f154_56 M h5 l0 l1 l2 l4 s0) (fun x r => r = (some (.int x), (jE0, M))) (56, [(0, .ref l0), (1, .int l1), (2, .int l2), (4, .int l4)], [.int s0], (jE0, M)) := by
    intro l0 l1 l2 l4 s0 pl0
    unfold f154_56
    refine g_pure (c' := (5, [(4, .int (l4 + (1 : Int32))), (3, .int s0), (0, .ref l0), (1, .int l1), (2, .int l2)], [], (jE0, M))) 3 rfl ?_
    refine g_weakk (lv := [(0, .ref l0), (1, .int l1), (2, .int l2), (3, .int s0), (4, .int (l4 + (1 : Int32)))]) ⟨rfl, rfl, rfl, rfl, rfl, trivial⟩ [0, 1, 2, 3, 4] rfl (by decide) [4, 3, 0, 1, 2] rfl (by decide) ?_
    exact (H5 l0 l1 l2 s0 (l4 + (1 : Int32)) pl0)
def f154_55 (M : JM) (h5 : Nat → Int32 → Int32 → Int32 → Int32 → Option Int32) (l0 : Nat) (l1 : Int32) (l2 : Int32) (l4 : Int32) : Option Int32 := (f154_56 M h5 l0 l1 l2 l4 (0 : Int32))
set_option maxRecDepth 100000 in
theorem c154_55 {xs : Option (List Int32)} {M : JM} (h5 : Nat → Int32 → Int32 → Int32 → Int32 → Option Int32) (H5 : ∀ (l0 : Nat) (l1 : Int32) (l2 : Int32) (l3 : Int32) (l4 : Int32) (pl0 : jok jE0 l0 7 = true), JG xs 1 154 (h5 l0 l1 l2 l3 l4) (fun x r => r = (some (.int x), (jE0, M))) (5, [(0, .ref l0), (1, .int l1), (2, .int l2), (3, .int l3), (4, .int l4)], [], (jE0, M))) : ∀ (l0 : Nat) (l1 : Int32) (l2 : Int32) (l4 : Int32) (pl0 : jok jE0 l0 7 = true), JG xs 1 154 (f154_55 M h5 l0 l1 l2 l4) (fun x r => r = (some (.int x), (jE0, M))) (55, [(0, .ref l0), (1, .int l1), (2, .int l2), (4, .int l4)], [], (jE0, M)) := by
    intro l0 l1 l2 l4 pl0
    unfold f154_55
    refine g_pure (c' := (56, [(0, .ref l0), (1, .int l1), (2, .int l2), (4, .int l4)], [.int (0 : Int32)], (jE0, M))) 1 rfl ?_
    exact (c154_56 h5 H5 l0 l1 l2 l4 (0 : Int32) pl0)
def f154_51 (M : JM) (h5 : Nat → Int32 → Int32 → Int32 → Int32 → Option Int32) (l0 : Nat) (l1 : Int32) (l2 : Int32) (l4 : Int32) : Option Int32 := (f154_56 M h5 l0 l1 l2 l4 (1 : Int32))
set_option maxRecDepth 100000 in
theorem c154_51 {xs : Option (List Int32)} {M : JM} (h5 : Nat → Int32 → Int32 → Int32 → Int32 → Option Int32) (H5 : ∀ (l0 : Nat) (l1 : Int32) (l2 : Int32) (l3 : Int32) (l4 : Int32) (pl0 : jok jE0 l0 7 = true), JG xs 1 154 (h5 l0 l1 l2 l3 l4) (fun x r => r = (some (.int x), (jE0, M))) (5, [(0, .ref l0), (1, .int l1), (2, .int l2), (3, .int l3), (4, .int l4)], [], (jE0, M))) : ∀ (l0 : Nat) (l1 : Int32) (l2 : Int32) (l4 : Int32) (pl0 : jok jE0 l0 7 = true), JG xs 1 154 (f154_51 M h5 l0 l1 l2 l4) (fun x r => r = (some (.int x), (jE0, M))) (51, [(0, .ref l0), (1, .int l1), (2, .int l2), (4, .int l4)], [], (jE0, M)) := by
    intro l0 l1 l2 l4 pl0
    unfold f154_51
    refine g_pure (c' := (56, [(0, .ref l0), (1, .int l1), (2, .int l2), (4, .int l4)], [.int (1 : Int32)], (jE0, M))) 2 rfl ?_
    exact (c154_56 h5 H5 l0 l1 l2 l4 (1 : Int32) pl0)
def f154_5 (M : JM) : Nat → Nat → Int32 → Int32 → Int32 → Int32 → Option Int32
  | 0, _, _, _, _, _ => none
  | n + 1, l0, l1, l2, l3, l4 => (if l4 < (M l0 13) then (if l3 = (0 : Int32) then ((jla (jpt l0 23) l4 M).bind fun v3 => (if v3 = (0 : Int32) then (f154_55 M (f154_5 M n) l0 l1 l2 l4) else ((jla (jpt l0 15) l4 M).bind fun v5 => ((jla (jpt l0 9) l1 M).bind fun v6 => ((f125 ((v5).toInt64) ((v6).toInt64) ((l2).toInt64)).bind fun v7 => (if v7 = (0 : Int32) then (f154_55 M (f154_5 M n) l0 l1 l2 l4) else (f154_51 M (f154_5 M n) l0 l1 l2 l4))))))) else (f154_51 M (f154_5 M n) l0 l1 l2 l4)) else (if l3 = (0 : Int32) then (some (0 : Int32)) else ((jla (jpt l0 9) l1 M).bind fun v10 => (if l2 < v10 then (some (0 : Int32)) else (some (1 : Int32))))))
set_option maxRecDepth 100000 in
theorem c154_5 {xs : Option (List Int32)} {M : JM} : ∀ (n : Nat) (l0 : Nat) (l1 : Int32) (l2 : Int32) (l3 : Int32) (l4 : Int32) (pl0 : jok jE0 l0 7 = true), JG xs 1 154 (f154_5 M n l0 l1 l2 l3 l4) (fun x r => r = (some (.int x), (jE0, M))) (5, [(0, .ref l0), (1, .int l1), (2, .int l2), (3, .int l3), (4, .int l4)], [], (jE0, M))
  | 0, _, _, _, _, _, _ => by rw [f154_5]; exact g_none
  | n + 1, l0, l1, l2, l3, l4, pl0 => by
    rw [f154_5]
    refine g_pure (c' := (8, [(0, .ref l0), (1, .int l1), (2, .int l2), (3, .int l3), (4, .int l4)], [.ref l0, .int l4], (jE0, M))) 2 rfl ?_
    refine g_gf (ci := 7) (k := 13) rfl rfl rfl pl0 ?_
    refine g_ic_ge (tgt := 63) rfl rfl (fun q1 => ?_) (fun q1 => ?_)
    · refine g_pure (c' := (15, [(0, .ref l0), (1, .int l1), (2, .int l2), (3, .int l3), (4, .int l4)], [.int l3], (jE0, M))) 1 rfl ?_
      refine g_if_ne (tgt := 51) rfl rfl (fun q2 => ?_) (fun q2 => ?_)
      · refine g_pure (c' := (19, [(0, .ref l0), (1, .int l1), (2, .int l2), (3, .int l3), (4, .int l4)], [.ref l0], (jE0, M))) 1 rfl ?_
        refine g_gp rfl rfl rfl pl0 (jp_ok (kd := 9) pl0 (by decide) (by decide) rfl rfl).1 ?_
        refine g_pure (c' := (24, [(0, .ref l0), (1, .int l1), (2, .int l2), (3, .int l3), (4, .int l4)], [.int l4, .ref (jpt l0 23)], (jE0, M))) 1 rfl ?_
        refine g_ba rfl (jk_ok (kd := 9) pl0 (by decide) (by decide) rfl rfl) (fun v3 => ?_)
        refine g_if_eq (tgt := 55) rfl rfl (fun q4 => ?_) (fun q4 => ?_)
        · refine g_weakk (lv := [(0, .ref l0), (1, .int l1), (2, .int l2), (4, .int l4)]) ⟨rfl, rfl, rfl, rfl, trivial⟩ [0, 1, 2, 4] rfl (by decide) [0, 1, 2, 3, 4] rfl (by decide) ?_
          exact (c154_55 (f154_5 M n) (c154_5 n) l0 l1 l2 l4 pl0)
        · refine g_pure (c' := (29, [(0, .ref l0), (1, .int l1), (2, .int l2), (3, .int l3), (4, .int l4)], [.ref l0], (jE0, M))) 1 rfl ?_
          refine g_gp rfl rfl rfl pl0 (jp_ok (kd := 8) pl0 (by decide) (by decide) rfl rfl).1 ?_
          refine g_pure (c' := (34, [(0, .ref l0), (1, .int l1), (2, .int l2), (3, .int l3), (4, .int l4)], [.int l4, .ref (jpt l0 15)], (jE0, M))) 1 rfl ?_
          refine g_ia rfl (jk_ok (kd := 8) pl0 (by decide) (by decide) rfl rfl) (fun v5 => ?_)
          refine g_pure (c' := (37, [(0, .ref l0), (1, .int l1), (2, .int l2), (3, .int l3), (4, .int l4)], [.ref l0, .long ((v5).toInt64)], (jE0, M))) 2 rfl ?_
          refine g_gp rfl rfl rfl pl0 (jp_ok (kd := 8) pl0 (by decide) (by decide) rfl rfl).1 ?_
          refine g_pure (c' := (41, [(0, .ref l0), (1, .int l1), (2, .int l2), (3, .int l3), (4, .int l4)], [.int l1, .ref (jpt l0 9), .long ((v5).toInt64)], (jE0, M))) 1 rfl ?_
          refine g_ia rfl (jk_ok (kd := 8) pl0 (by decide) (by decide) rfl rfl) (fun v6 => ?_)
          refine g_pure (c' := (45, [(0, .ref l0), (1, .int l1), (2, .int l2), (3, .int l3), (4, .int l4)], [.long ((l2).toInt64), .long ((v6).toInt64), .long ((v5).toInt64)], (jE0, M))) 3 rfl ?_
          refine g_cI rfl (jc_s rfl rfl) (c125 ((v5).toInt64) ((v6).toInt64) ((l2).toInt64)) (by decide) (fun v7 qv7 => ?_)
          refine g_if_eq (tgt := 55) rfl rfl (fun q8 => ?_) (fun q8 => ?_)
          · refine g_weakk (lv := [(0, .ref l0), (1, .int l1), (2, .int l2), (4, .int l4)]) ⟨rfl, rfl, rfl, rfl, trivial⟩ [0, 1, 2, 4] rfl (by decide) [0, 1, 2, 3, 4] rfl (by decide) ?_
            exact (c154_55 (f154_5 M n) (c154_5 n) l0 l1 l2 l4 pl0)
          · refine g_weakk (lv := [(0, .ref l0), (1, .int l1), (2, .int l2), (4, .int l4)]) ⟨rfl, rfl, rfl, rfl, trivial⟩ [0, 1, 2, 4] rfl (by decide) [0, 1, 2, 3, 4] rfl (by decide) ?_
            exact (c154_51 (f154_5 M n) (c154_5 n) l0 l1 l2 l4 pl0)
      · refine g_weakk (lv := [(0, .ref l0), (1, .int l1), (2, .int l2), (4, .int l4)]) ⟨rfl, rfl, rfl, rfl, trivial⟩ [0, 1, 2, 4] rfl (by decide) [0, 1, 2, 3, 4] rfl (by decide) ?_
        exact (c154_51 (f154_5 M n) (c154_5 n) l0 l1 l2 l4 pl0)
    · refine g_pure (c' := (64, [(0, .ref l0), (1, .int l1), (2, .int l2), (3, .int l3), (4, .int l4)], [.int l3], (jE0, M))) 1 rfl ?_
      refine g_if_eq (tgt := 81) rfl rfl (fun q9 => ?_) (fun q9 => ?_)
      · refine g_pure (c' := (82, [(0, .ref l0), (1, .int l1), (2, .int l2), (3, .int l3), (4, .int l4)], [.int (0 : Int32)], (jE0, M))) 1 rfl ?_
        exact g_ret rfl rfl (fun _ h => h)
      · refine g_pure (c' := (68, [(0, .ref l0), (1, .int l1), (2, .int l2), (3, .int l3), (4, .int l4)], [.ref l0], (jE0, M))) 1 rfl ?_
        refine g_gp rfl rfl rfl pl0 (jp_ok (kd := 8) pl0 (by decide) (by decide) rfl rfl).1 ?_
        refine g_pure (c' := (72, [(0, .ref l0), (1, .int l1), (2, .int l2), (3, .int l3), (4, .int l4)], [.int l1, .ref (jpt l0 9)], (jE0, M))) 1 rfl ?_
        refine g_ia rfl (jk_ok (kd := 8) pl0 (by decide) (by decide) rfl rfl) (fun v10 => ?_)
        refine g_pure (c' := (74, [(0, .ref l0), (1, .int l1), (2, .int l2), (3, .int l3), (4, .int l4)], [.int l2, .int v10], (jE0, M))) 1 rfl ?_
        refine g_ic_gt (tgt := 81) rfl rfl (fun q11 => ?_) (fun q11 => ?_)
        · refine g_pure (c' := (82, [(0, .ref l0), (1, .int l1), (2, .int l2), (3, .int l3), (4, .int l4)], [.int (0 : Int32)], (jE0, M))) 1 rfl ?_
          exact g_ret rfl rfl (fun _ h => h)
        · refine g_pure (c' := (82, [(0, .ref l0), (1, .int l1), (2, .int l2), (3, .int l3), (4, .int l4)], [.int (1 : Int32)], (jE0, M))) 2 rfl ?_
          exact g_ret rfl rfl (fun _ h => h)
/-- CometKinModel.counts -/
def f154 (M : JM) (l0 : Nat) (l1 : Int32) (l2 : Int32) : Option Int32 := (f154_5 M 1000 l0 l1 l2 (0 : Int32) (0 : Int32))
set_option maxRecDepth 100000 in
theorem c154 {xs : Option (List Int32)} {M : JM} (l0 : Nat) (l1 : Int32) (l2 : Int32) (pl0 : jok jE0 l0 7 = true) : JG xs 1 154 (f154 M l0 l1 l2) (fun x r => r = (some (.int x), (jE0, M))) (0, [(0, .ref l0), (1, .int l1), (2, .int l2)], [], (jE0, M)) := by
    unfold f154
    refine g_pure (c' := (5, [(4, .int (0 : Int32)), (3, .int (0 : Int32)), (0, .ref l0), (1, .int l1), (2, .int l2)], [], (jE0, M))) 4 rfl ?_
    refine g_weakk (lv := [(0, .ref l0), (1, .int l1), (2, .int l2), (3, .int (0 : Int32)), (4, .int (0 : Int32))]) ⟨rfl, rfl, rfl, rfl, rfl, trivial⟩ [0, 1, 2, 3, 4] rfl (by decide) [4, 3, 0, 1, 2] rfl (by decide) ?_
    exact (c154_5 1000 l0 l1 l2 (0 : Int32) (0 : Int32) pl0)
def f155_111 (M : JM) (h5 : Nat → Int32 → Int32 → Int32 → Int32 → Option Int32) (l0 : Nat) (l1 : Int32) (l2 : Int32) (l3 : Int32) (l4 : Int32) : Option Int32 := (h5 l0 l1 l2 l3 (l4 + (1 : Int32)))
set_option maxRecDepth 100000 in
theorem c155_111 {xs : Option (List Int32)} {M : JM} (h5 : Nat → Int32 → Int32 → Int32 → Int32 → Option Int32) (H5 : ∀ (l0 : Nat) (l1 : Int32) (l2 : Int32) (l3 : Int32) (l4 : Int32) (pl0 : jok jE0 l0 7 = true), JG xs 2 155 (h5 l0 l1 l2 l3 l4) (fun x r => r = (some (.int x), (jE0, M))) (5, [(0, .ref l0), (1, .int l1), (2, .int l2), (3, .int l3), (4, .int l4)], [], (jE0, M))) : ∀ (l0 : Nat) (l1 : Int32) (l2 : Int32) (l3 : Int32) (l4 : Int32) (pl0 : jok jE0 l0 7 = true), JG xs 2 155 (f155_111 M h5 l0 l1 l2 l3 l4) (fun x r => r = (some (.int x), (jE0, M))) (111, [(0, .ref l0), (1, .int l1), (2, .int l2), (3, .int l3), (4, .int l4)], [], (jE0, M)) := by
    intro l0 l1 l2 l3 l4 pl0
    unfold f155_111
    refine g_pure (c' := (5, [(4, .int (l4 + (1 : Int32))), (0, .ref l0), (1, .int l1), (2, .int l2), (3, .int l3)], [], (jE0, M))) 2 rfl ?_
    refine g_weakk (lv := [(0, .ref l0), (1, .int l1), (2, .int l2), (3, .int l3), (4, .int (l4 + (1 : Int32)))]) ⟨rfl, rfl, rfl, rfl, rfl, trivial⟩ [0, 1, 2, 3, 4] rfl (by decide) [4, 0, 1, 2, 3] rfl (by decide) ?_
    exact (H5 l0 l1 l2 l3 (l4 + (1 : Int32)) pl0)
def f155_109 (M : JM) (h5 : Nat → Int32 → Int32 → Int32 → Int32 → Option Int32) (l0 : Nat) (l1 : Int32) (l2 : Int32) (l4 : Int32) (s0 : Int32) (s1 : Int32) : Option Int32 := (f155_111 M h5 l0 l1 l2 (s1 ||| s0) l4)
set_option maxRecDepth 100000 in
theorem c155_109 {xs : Option (List Int32)} {M : JM} (h5 : Nat → Int32 → Int32 → Int32 → Int32 → Option Int32) (H5 : ∀ (l0 : Nat) (l1 : Int32) (l2 : Int32) (l3 : Int32) (l4 : Int32) (pl0 : jok jE0 l0 7 = true), JG xs 2 155 (h5 l0 l1 l2 l3 l4) (fun x r => r = (some (.int x), (jE0, M))) (5, [(0, .ref l0), (1, .int l1), (2, .int l2), (3, .int l3), (4, .int l4)], [], (jE0, M))) : ∀ (l0 : Nat) (l1 : Int32) (l2 : Int32) (l4 : Int32) (s0 : Int32) (s1 : Int32) (pl0 : jok jE0 l0 7 = true), JG xs 2 155 (f155_109 M h5 l0 l1 l2 l4 s0 s1) (fun x r => r = (some (.int x), (jE0, M))) (109, [(0, .ref l0), (1, .int l1), (2, .int l2), (4, .int l4)], [.int s0, .int s1], (jE0, M)) := by
    intro l0 l1 l2 l4 s0 s1 pl0
    unfold f155_109
    refine g_pure (c' := (111, [(3, .int (s1 ||| s0)), (0, .ref l0), (1, .int l1), (2, .int l2), (4, .int l4)], [], (jE0, M))) 2 rfl ?_
    refine g_weakk (lv := [(0, .ref l0), (1, .int l1), (2, .int l2), (3, .int (s1 ||| s0)), (4, .int l4)]) ⟨rfl, rfl, rfl, rfl, rfl, trivial⟩ [0, 1, 2, 3, 4] rfl (by decide) [3, 0, 1, 2, 4] rfl (by decide) ?_
    exact (c155_111 h5 H5 l0 l1 l2 (s1 ||| s0) l4 pl0)
def f155_91 (M : JM) (h5 : Nat → Int32 → Int32 → Int32 → Int32 → Option Int32) (l0 : Nat) (l1 : Int32) (l2 : Int32) (l4 : Int32) (l5 : Int32) (s0 : Int32) (s1 : Int32) : Option Int32 := (if (l1 &&& l5) = (0 : Int32) then (f155_109 M h5 l0 l1 l2 l4 (0 : Int32) (s1 ||| s0)) else (f155_109 M h5 l0 l1 l2 l4 ((1 : Int32) <<< (l4 &&& (31 : Int32))) (s1 ||| s0)))
set_option maxRecDepth 100000 in
theorem c155_91 {xs : Option (List Int32)} {M : JM} (h5 : Nat → Int32 → Int32 → Int32 → Int32 → Option Int32) (H5 : ∀ (l0 : Nat) (l1 : Int32) (l2 : Int32) (l3 : Int32) (l4 : Int32) (pl0 : jok jE0 l0 7 = true), JG xs 2 155 (h5 l0 l1 l2 l3 l4) (fun x r => r = (some (.int x), (jE0, M))) (5, [(0, .ref l0), (1, .int l1), (2, .int l2), (3, .int l3), (4, .int l4)], [], (jE0, M))) : ∀ (l0 : Nat) (l1 : Int32) (l2 : Int32) (l4 : Int32) (l5 : Int32) (s0 : Int32) (s1 : Int32) (pl0 : jok jE0 l0 7 = true), JG xs 2 155 (f155_91 M h5 l0 l1 l2 l4 l5 s0 s1) (fun x r => r = (some (.int x), (jE0, M))) (91, [(0, .ref l0), (1, .int l1), (2, .int l2), (4, .int l4), (5, .int l5)], [.int s0, .int s1], (jE0, M)) := by
    intro l0 l1 l2 l4 l5 s0 s1 pl0
    unfold f155_91
    refine g_pure (c' := (98, [(3, .int (s1 ||| s0)), (0, .ref l0), (1, .int l1), (2, .int l2), (4, .int l4), (5, .int l5)], [.int (l1 &&& l5), .int (s1 ||| s0)], (jE0, M))) 6 rfl ?_
    refine g_if_eq (tgt := 108) rfl rfl (fun q10 => ?_) (fun q10 => ?_)
    · refine g_pure (c' := (109, [(3, .int (s1 ||| s0)), (0, .ref l0), (1, .int l1), (2, .int l2), (4, .int l4), (5, .int l5)], [.int (0 : Int32), .int (s1 ||| s0)], (jE0, M))) 1 rfl ?_
      refine g_weakk (lv := [(0, .ref l0), (1, .int l1), (2, .int l2), (4, .int l4)]) ⟨rfl, rfl, rfl, rfl, trivial⟩ [0, 1, 2, 4] rfl (by decide) [3, 0, 1, 2, 4, 5] rfl (by decide) ?_
      exact (c155_109 h5 H5 l0 l1 l2 l4 (0 : Int32) (s1 ||| s0) pl0)
    · refine g_pure (c' := (109, [(3, .int (s1 ||| s0)), (0, .ref l0), (1, .int l1), (2, .int l2), (4, .int l4), (5, .int l5)], [.int ((1 : Int32) <<< (l4 &&& (31 : Int32))), .int (s1 ||| s0)], (jE0, M))) 4 rfl ?_
      refine g_weakk (lv := [(0, .ref l0), (1, .int l1), (2, .int l2), (4, .int l4)]) ⟨rfl, rfl, rfl, rfl, trivial⟩ [0, 1, 2, 4] rfl (by decide) [3, 0, 1, 2, 4, 5] rfl (by decide) ?_
      exact (c155_109 h5 H5 l0 l1 l2 l4 ((1 : Int32) <<< (l4 &&& (31 : Int32))) (s1 ||| s0) pl0)
def f155_72 (M : JM) (h5 : Nat → Int32 → Int32 → Int32 → Int32 → Option Int32) (l0 : Nat) (l1 : Int32) (l2 : Int32) (l3 : Int32) (l4 : Int32) (s0 : Int32) (s1 : Int32) : Option Int32 := ((f126 l1 l4).bind fun v8 => (if v8 = (0 : Int32) then (f155_91 M h5 l0 l1 l2 l4 (s1 ||| s0) (0 : Int32) l3) else (f155_91 M h5 l0 l1 l2 l4 (s1 ||| s0) (s1 ||| s0) l3)))
set_option maxRecDepth 100000 in
theorem c155_72 {xs : Option (List Int32)} {M : JM} (h5 : Nat → Int32 → Int32 → Int32 → Int32 → Option Int32) (H5 : ∀ (l0 : Nat) (l1 : Int32) (l2 : Int32) (l3 : Int32) (l4 : Int32) (pl0 : jok jE0 l0 7 = true), JG xs 2 155 (h5 l0 l1 l2 l3 l4) (fun x r => r = (some (.int x), (jE0, M))) (5, [(0, .ref l0), (1, .int l1), (2, .int l2), (3, .int l3), (4, .int l4)], [], (jE0, M))) : ∀ (l0 : Nat) (l1 : Int32) (l2 : Int32) (l3 : Int32) (l4 : Int32) (s0 : Int32) (s1 : Int32) (pl0 : jok jE0 l0 7 = true), JG xs 2 155 (f155_72 M h5 l0 l1 l2 l3 l4 s0 s1) (fun x r => r = (some (.int x), (jE0, M))) (72, [(0, .ref l0), (1, .int l1), (2, .int l2), (3, .int l3), (4, .int l4)], [.int s0, .int s1], (jE0, M)) := by
    intro l0 l1 l2 l3 l4 s0 s1 pl0
    unfold f155_72
    refine g_pure (c' := (79, [(5, .int (s1 ||| s0)), (0, .ref l0), (1, .int l1), (2, .int l2), (3, .int l3), (4, .int l4)], [.int l4, .int l1, .int l3], (jE0, M))) 5 rfl ?_
    refine g_cI rfl (jc_s rfl rfl) (c126 l1 l4) (by decide) (fun v8 qv8 => ?_)
    refine g_if_eq (tgt := 90) rfl rfl (fun q9 => ?_) (fun q9 => ?_)
    · refine g_pure (c' := (91, [(5, .int (s1 ||| s0)), (0, .ref l0), (1, .int l1), (2, .int l2), (3, .int l3), (4, .int l4)], [.int (0 : Int32), .int l3], (jE0, M))) 1 rfl ?_
      refine g_weakk (lv := [(0, .ref l0), (1, .int l1), (2, .int l2), (4, .int l4), (5, .int (s1 ||| s0))]) ⟨rfl, rfl, rfl, rfl, rfl, trivial⟩ [0, 1, 2, 4, 5] rfl (by decide) [5, 0, 1, 2, 3, 4] rfl (by decide) ?_
      exact (c155_91 h5 H5 l0 l1 l2 l4 (s1 ||| s0) (0 : Int32) l3 pl0)
    · refine g_pure (c' := (91, [(5, .int (s1 ||| s0)), (0, .ref l0), (1, .int l1), (2, .int l2), (3, .int l3), (4, .int l4)], [.int (s1 ||| s0), .int l3], (jE0, M))) 2 rfl ?_
      refine g_weakk (lv := [(0, .ref l0), (1, .int l1), (2, .int l2), (4, .int l4), (5, .int (s1 ||| s0))]) ⟨rfl, rfl, rfl, rfl, rfl, trivial⟩ [0, 1, 2, 4, 5] rfl (by decide) [5, 0, 1, 2, 3, 4] rfl (by decide) ?_
      exact (c155_91 h5 H5 l0 l1 l2 l4 (s1 ||| s0) (s1 ||| s0) l3 pl0)
def f155_48 (M : JM) (h5 : Nat → Int32 → Int32 → Int32 → Int32 → Option Int32) (l0 : Nat) (l1 : Int32) (l2 : Int32) (l3 : Int32) (l4 : Int32) (s0 : Int32) : Option Int32 := ((jla (jpt l0 11) l4 M).bind fun v6 => (if v6 = (-1 : Int32) then (f155_72 M h5 l0 l1 l2 l3 l4 (0 : Int32) s0) else ((jla (jpt l0 11) l4 M).bind fun v11 => (f155_72 M h5 l0 l1 l2 l3 l4 ((1 : Int32) <<< (v11 &&& (31 : Int32))) s0))))
set_option maxRecDepth 100000 in
theorem c155_48 {xs : Option (List Int32)} {M : JM} (h5 : Nat → Int32 → Int32 → Int32 → Int32 → Option Int32) (H5 : ∀ (l0 : Nat) (l1 : Int32) (l2 : Int32) (l3 : Int32) (l4 : Int32) (pl0 : jok jE0 l0 7 = true), JG xs 2 155 (h5 l0 l1 l2 l3 l4) (fun x r => r = (some (.int x), (jE0, M))) (5, [(0, .ref l0), (1, .int l1), (2, .int l2), (3, .int l3), (4, .int l4)], [], (jE0, M))) : ∀ (l0 : Nat) (l1 : Int32) (l2 : Int32) (l3 : Int32) (l4 : Int32) (s0 : Int32) (pl0 : jok jE0 l0 7 = true), JG xs 2 155 (f155_48 M h5 l0 l1 l2 l3 l4 s0) (fun x r => r = (some (.int x), (jE0, M))) (48, [(0, .ref l0), (1, .int l1), (2, .int l2), (3, .int l3), (4, .int l4)], [.int s0], (jE0, M)) := by
    intro l0 l1 l2 l3 l4 s0 pl0
    unfold f155_48
    refine g_pure (c' := (49, [(0, .ref l0), (1, .int l1), (2, .int l2), (3, .int l3), (4, .int l4)], [.ref l0, .int s0], (jE0, M))) 1 rfl ?_
    refine g_gp rfl rfl rfl pl0 (jp_ok (kd := 8) pl0 (by decide) (by decide) rfl rfl).1 ?_
    refine g_pure (c' := (54, [(0, .ref l0), (1, .int l1), (2, .int l2), (3, .int l3), (4, .int l4)], [.int l4, .ref (jpt l0 11), .int s0], (jE0, M))) 1 rfl ?_
    refine g_ia rfl (jk_ok (kd := 8) pl0 (by decide) (by decide) rfl rfl) (fun v6 => ?_)
    refine g_pure (c' := (56, [(0, .ref l0), (1, .int l1), (2, .int l2), (3, .int l3), (4, .int l4)], [.int (-1 : Int32), .int v6, .int s0], (jE0, M))) 1 rfl ?_
    refine g_ic_ne (tgt := 63) rfl rfl (fun q7 => ?_) (fun q7 => ?_)
    · refine g_pure (c' := (72, [(0, .ref l0), (1, .int l1), (2, .int l2), (3, .int l3), (4, .int l4)], [.int (0 : Int32), .int s0], (jE0, M))) 2 rfl ?_
      exact (c155_72 h5 H5 l0 l1 l2 l3 l4 (0 : Int32) s0 pl0)
    · refine g_pure (c' := (65, [(0, .ref l0), (1, .int l1), (2, .int l2), (3, .int l3), (4, .int l4)], [.ref l0, .int (1 : Int32), .int s0], (jE0, M))) 2 rfl ?_
      refine g_gp rfl rfl rfl pl0 (jp_ok (kd := 8) pl0 (by decide) (by decide) rfl rfl).1 ?_
      refine g_pure (c' := (70, [(0, .ref l0), (1, .int l1), (2, .int l2), (3, .int l3), (4, .int l4)], [.int l4, .ref (jpt l0 11), .int (1 : Int32), .int s0], (jE0, M))) 1 rfl ?_
      refine g_ia rfl (jk_ok (kd := 8) pl0 (by decide) (by decide) rfl rfl) (fun v11 => ?_)
      refine g_pure (c' := (72, [(0, .ref l0), (1, .int l1), (2, .int l2), (3, .int l3), (4, .int l4)], [.int ((1 : Int32) <<< (v11 &&& (31 : Int32))), .int s0], (jE0, M))) 1 rfl ?_
      exact (c155_72 h5 H5 l0 l1 l2 l3 l4 ((1 : Int32) <<< (v11 &&& (31 : Int32))) s0 pl0)
def f155_5 (M : JM) : Nat → Nat → Int32 → Int32 → Int32 → Int32 → Option Int32
  | 0, _, _, _, _, _ => none
  | n + 1, l0, l1, l2, l3, l4 => (if l4 < (M l0 7) then ((f154 M l0 l4 l2).bind fun v2 => (if v2 = (0 : Int32) then (f155_111 M (f155_5 M n) l0 l1 l2 l3 l4) else ((jla (jpt l0 10) l4 M).bind fun v4 => (if v4 = (-1 : Int32) then (f155_48 M (f155_5 M n) l0 l1 l2 l3 l4 (0 : Int32)) else ((jla (jpt l0 10) l4 M).bind fun v12 => (f155_48 M (f155_5 M n) l0 l1 l2 l3 l4 ((1 : Int32) <<< (v12 &&& (31 : Int32))))))))) else (some l3))
set_option maxRecDepth 100000 in
theorem c155_5 {xs : Option (List Int32)} {M : JM} : ∀ (n : Nat) (l0 : Nat) (l1 : Int32) (l2 : Int32) (l3 : Int32) (l4 : Int32) (pl0 : jok jE0 l0 7 = true), JG xs 2 155 (f155_5 M n l0 l1 l2 l3 l4) (fun x r => r = (some (.int x), (jE0, M))) (5, [(0, .ref l0), (1, .int l1), (2, .int l2), (3, .int l3), (4, .int l4)], [], (jE0, M))
  | 0, _, _, _, _, _, _ => by rw [f155_5]; exact g_none
  | n + 1, l0, l1, l2, l3, l4, pl0 => by
    rw [f155_5]
    refine g_pure (c' := (8, [(0, .ref l0), (1, .int l1), (2, .int l2), (3, .int l3), (4, .int l4)], [.ref l0, .int l4], (jE0, M))) 2 rfl ?_
    refine g_gf (ci := 7) (k := 7) rfl rfl rfl pl0 ?_
    refine g_ic_ge (tgt := 117) rfl rfl (fun q1 => ?_) (fun q1 => ?_)
    · refine g_pure (c' := (18, [(0, .ref l0), (1, .int l1), (2, .int l2), (3, .int l3), (4, .int l4)], [.int l2, .int l4, .ref l0], (jE0, M))) 3 rfl ?_
      refine g_cI rfl (jc_v rfl rfl (jv_o pl0 rfl) rfl) (c154 l0 l4 l2 pl0) (by decide) (fun v2 qv2 => ?_)
      refine g_if_eq (tgt := 111) rfl rfl (fun q3 => ?_) (fun q3 => ?_)
      · exact (c155_111 (f155_5 M n) (c155_5 n) l0 l1 l2 l3 l4 pl0)
      · refine g_pure (c' := (25, [(0, .ref l0), (1, .int l1), (2, .int l2), (3, .int l3), (4, .int l4)], [.ref l0], (jE0, M))) 1 rfl ?_
        refine g_gp rfl rfl rfl pl0 (jp_ok (kd := 8) pl0 (by decide) (by decide) rfl rfl).1 ?_
        refine g_pure (c' := (30, [(0, .ref l0), (1, .int l1), (2, .int l2), (3, .int l3), (4, .int l4)], [.int l4, .ref (jpt l0 10)], (jE0, M))) 1 rfl ?_
        refine g_ia rfl (jk_ok (kd := 8) pl0 (by decide) (by decide) rfl rfl) (fun v4 => ?_)
        refine g_pure (c' := (32, [(0, .ref l0), (1, .int l1), (2, .int l2), (3, .int l3), (4, .int l4)], [.int (-1 : Int32), .int v4], (jE0, M))) 1 rfl ?_
        refine g_ic_ne (tgt := 39) rfl rfl (fun q5 => ?_) (fun q5 => ?_)
        · refine g_pure (c' := (48, [(0, .ref l0), (1, .int l1), (2, .int l2), (3, .int l3), (4, .int l4)], [.int (0 : Int32)], (jE0, M))) 2 rfl ?_
          exact (c155_48 (f155_5 M n) (c155_5 n) l0 l1 l2 l3 l4 (0 : Int32) pl0)
        · refine g_pure (c' := (41, [(0, .ref l0), (1, .int l1), (2, .int l2), (3, .int l3), (4, .int l4)], [.ref l0, .int (1 : Int32)], (jE0, M))) 2 rfl ?_
          refine g_gp rfl rfl rfl pl0 (jp_ok (kd := 8) pl0 (by decide) (by decide) rfl rfl).1 ?_
          refine g_pure (c' := (46, [(0, .ref l0), (1, .int l1), (2, .int l2), (3, .int l3), (4, .int l4)], [.int l4, .ref (jpt l0 10), .int (1 : Int32)], (jE0, M))) 1 rfl ?_
          refine g_ia rfl (jk_ok (kd := 8) pl0 (by decide) (by decide) rfl rfl) (fun v12 => ?_)
          refine g_pure (c' := (48, [(0, .ref l0), (1, .int l1), (2, .int l2), (3, .int l3), (4, .int l4)], [.int ((1 : Int32) <<< (v12 &&& (31 : Int32)))], (jE0, M))) 1 rfl ?_
          exact (c155_48 (f155_5 M n) (c155_5 n) l0 l1 l2 l3 l4 ((1 : Int32) <<< (v12 &&& (31 : Int32))) pl0)
    · refine g_pure (c' := (118, [(0, .ref l0), (1, .int l1), (2, .int l2), (3, .int l3), (4, .int l4)], [.int l3], (jE0, M))) 1 rfl ?_
      exact g_ret rfl rfl (fun _ h => h)
/-- CometKinModel.stepFrom -/
def f155 (M : JM) (l0 : Nat) (l1 : Int32) (l2 : Int32) : Option Int32 := (f155_5 M 1000 l0 l1 l2 l1 (0 : Int32))
set_option maxRecDepth 100000 in
theorem c155 {xs : Option (List Int32)} {M : JM} (l0 : Nat) (l1 : Int32) (l2 : Int32) (pl0 : jok jE0 l0 7 = true) : JG xs 2 155 (f155 M l0 l1 l2) (fun x r => r = (some (.int x), (jE0, M))) (0, [(0, .ref l0), (1, .int l1), (2, .int l2)], [], (jE0, M)) := by
    unfold f155
    refine g_pure (c' := (5, [(4, .int (0 : Int32)), (3, .int l1), (0, .ref l0), (1, .int l1), (2, .int l2)], [], (jE0, M))) 4 rfl ?_
    refine g_weakk (lv := [(0, .ref l0), (1, .int l1), (2, .int l2), (3, .int l1), (4, .int (0 : Int32))]) ⟨rfl, rfl, rfl, rfl, rfl, trivial⟩ [0, 1, 2, 3, 4] rfl (by decide) [4, 3, 0, 1, 2] rfl (by decide) ?_
    exact (c155_5 1000 l0 l1 l2 l1 (0 : Int32) pl0)
def f156_52  (l2 : Int32) (l4 : Int32) (l6 : Int32) (M : JM) : Option (Int32 × JM) := ((f126 l4 l2).bind fun v5 => (if v5 = (0 : Int32) then (some ((-1 : Int32), M)) else (some (l6, M))))
set_option maxRecDepth 100000 in
theorem c156_52 {xs : Option (List Int32)} : ∀ (l2 : Int32) (l4 : Int32) (l6 : Int32) (M : JM), JG xs 5 156 (f156_52 l2 l4 l6 M) (fun x r => r = (some (.int x.1), (jE0, x.2))) (52, [(2, .int l2), (4, .int l4), (6, .int l6)], [], (jE0, M)) := by
    intro l2 l4 l6 M
    unfold f156_52
    refine g_pure (c' := (55, [(2, .int l2), (4, .int l4), (6, .int l6)], [.int l2, .int l4], (jE0, M))) 2 rfl ?_
    refine g_cI rfl (jc_s rfl rfl) (c126 l4 l2) (by decide) (fun v5 qv5 => ?_)
    refine g_if_eq (tgt := 66) rfl rfl (fun q6 => ?_) (fun q6 => ?_)
    · refine g_pure (c' := (67, [(2, .int l2), (4, .int l4), (6, .int l6)], [.int (-1 : Int32)], (jE0, M))) 1 rfl ?_
      exact g_ret rfl rfl (fun _ h => h)
    · refine g_pure (c' := (67, [(2, .int l2), (4, .int l4), (6, .int l6)], [.int l6], (jE0, M))) 2 rfl ?_
      exact g_ret rfl rfl (fun _ h => h)
def f156_17  : Nat → Nat → Int32 → Int32 → Int32 → Int32 → Int32 → JM → Option (Int32 × JM)
  | 0, _, _, _, _, _, _, _ => none
  | n + 1, l0, l2, l3, l4, l5, l6, M => ((f126 l4 l2).bind fun v2 => (if v2 = (0 : Int32) then (if l4 = l5 then (f156_52 l2 l4 l6 M) else ((f155 M l0 l4 l3).bind fun v7 => ((f156_17 n) l0 l2 l3 v7 l4 (l6 + (1 : Int32)) M))) else (f156_52 l2 l4 l6 M)))
set_option maxRecDepth 100000 in
theorem c156_17 {xs : Option (List Int32)} : ∀ (n : Nat) (l0 : Nat) (l2 : Int32) (l3 : Int32) (l4 : Int32) (l5 : Int32) (l6 : Int32) (M : JM) (pl0 : jok jE0 l0 7 = true), JG xs 5 156 (f156_17 n l0 l2 l3 l4 l5 l6 M) (fun x r => r = (some (.int x.1), (jE0, x.2))) (17, [(0, .ref l0), (2, .int l2), (3, .int l3), (4, .int l4), (5, .int l5), (6, .int l6)], [], (jE0, M))
  | 0, _, _, _, _, _, _, _, _ => by rw [f156_17]; exact g_none
  | n + 1, l0, l2, l3, l4, l5, l6, M, pl0 => by
    rw [f156_17]
    refine g_pure (c' := (20, [(0, .ref l0), (2, .int l2), (3, .int l3), (4, .int l4), (5, .int l5), (6, .int l6)], [.int l2, .int l4], (jE0, M))) 2 rfl ?_
    refine g_cI rfl (jc_s rfl rfl) (c126 l4 l2) (by decide) (fun v2 qv2 => ?_)
    refine g_if_ne (tgt := 52) rfl rfl (fun q3 => ?_) (fun q3 => ?_)
    · refine g_pure (c' := (30, [(0, .ref l0), (2, .int l2), (3, .int l3), (4, .int l4), (5, .int l5), (6, .int l6)], [.int l5, .int l4], (jE0, M))) 2 rfl ?_
      refine g_ic_eq (tgt := 52) rfl rfl (fun q4 => ?_) (fun q4 => ?_)
      · refine g_weakk (lv := [(2, .int l2), (4, .int l4), (6, .int l6)]) ⟨rfl, rfl, rfl, trivial⟩ [2, 4, 6] rfl (by decide) [0, 2, 3, 4, 5, 6] rfl (by decide) ?_
        exact (c156_52 l2 l4 l6 M)
      · refine g_pure (c' := (41, [(5, .int l4), (0, .ref l0), (2, .int l2), (3, .int l3), (4, .int l4), (6, .int l6)], [.int l3, .int l4, .ref l0], (jE0, M))) 5 rfl ?_
        refine g_cI rfl (jc_v rfl rfl (jv_o pl0 rfl) rfl) (c155 l0 l4 l3 pl0) (by decide) (fun v7 qv7 => ?_)
        refine g_pure (c' := (17, [(6, .int (l6 + (1 : Int32))), (4, .int v7), (5, .int l4), (0, .ref l0), (2, .int l2), (3, .int l3)], [], (jE0, M))) 3 rfl ?_
        refine g_weakk (lv := [(0, .ref l0), (2, .int l2), (3, .int l3), (4, .int v7), (5, .int l4), (6, .int (l6 + (1 : Int32)))]) ⟨rfl, rfl, rfl, rfl, rfl, rfl, trivial⟩ [0, 2, 3, 4, 5, 6] rfl (by decide) [6, 4, 5, 0, 2, 3] rfl (by decide) ?_
        exact ((c156_17 n) l0 l2 l3 v7 l4 (l6 + (1 : Int32)) M pl0)
    · refine g_weakk (lv := [(2, .int l2), (4, .int l4), (6, .int l6)]) ⟨rfl, rfl, rfl, trivial⟩ [2, 4, 6] rfl (by decide) [0, 2, 3, 4, 5, 6] rfl (by decide) ?_
      exact (c156_52 l2 l4 l6 M)
/-- CometKinModel.degreeOf -/
def f156  (l0 : Nat) (l1 : Int32) (l2 : Int32) (l3 : Int32) (M : JM) : Option (Int32 × JM) := ((f153 l0 l1 l2 M).bind fun M1 => (f156_17 1000 l0 l2 l3 ((1 : Int32) <<< (l1 &&& (31 : Int32))) (0 : Int32) (0 : Int32) M1))
set_option maxRecDepth 100000 in
theorem c156 {xs : Option (List Int32)} (l0 : Nat) (l1 : Int32) (l2 : Int32) (l3 : Int32) (M : JM) (pl0 : jok jE0 l0 7 = true) : JG xs 5 156 (f156 l0 l1 l2 l3 M) (fun x r => r = (some (.int x.1), (jE0, x.2))) (0, [(0, .ref l0), (1, .int l1), (2, .int l2), (3, .int l3)], [], (jE0, M)) := by
    unfold f156
    refine g_pure (c' := (3, [(0, .ref l0), (1, .int l1), (2, .int l2), (3, .int l3)], [.int l2, .int l1, .ref l0], (jE0, M))) 3 rfl ?_
    refine g_wV rfl (jc_v rfl rfl (jv_o pl0 rfl) rfl) (c153 l0 l1 l2 M pl0) (by decide) (fun M1 => ?_)
    refine g_pure (c' := (17, [(6, .int (0 : Int32)), (5, .int (0 : Int32)), (4, .int ((1 : Int32) <<< (l1 &&& (31 : Int32)))), (0, .ref l0), (1, .int l1), (2, .int l2), (3, .int l3)], [], (jE0, M1))) 8 rfl ?_
    refine g_weakk (lv := [(0, .ref l0), (2, .int l2), (3, .int l3), (4, .int ((1 : Int32) <<< (l1 &&& (31 : Int32)))), (5, .int (0 : Int32)), (6, .int (0 : Int32))]) ⟨rfl, rfl, rfl, rfl, rfl, rfl, trivial⟩ [0, 2, 3, 4, 5, 6] rfl (by decide) [6, 5, 4, 0, 1, 2, 3] rfl (by decide) ?_
    exact (c156_17 1000 l0 l2 l3 ((1 : Int32) <<< (l1 &&& (31 : Int32))) (0 : Int32) (0 : Int32) M1 pl0)
/-- CometKinModel.degree -/
def f167  (l0 : Nat) (l1 : Int32) (l2 : Int32) (l3 : Int32) (M : JM) : Option (Int32 × JM) := ((f159 M l0 l1).bind fun v1 => (if v1 = (0 : Int32) then (some ((-2 : Int32), M)) else ((f159 M l0 l2).bind fun v3 => (if v3 = (0 : Int32) then (some ((-2 : Int32), M)) else ((f162 l3).bind fun v5 => (if v5 = (0 : Int32) then (some ((-3 : Int32), M)) else ((f156 l0 l1 l2 l3 M).bind fun z9 => (some (z9.1, z9.2)))))))))
set_option maxRecDepth 100000 in
theorem c167 {xs : Option (List Int32)} (l0 : Nat) (l1 : Int32) (l2 : Int32) (l3 : Int32) (M : JM) (pl0 : jok jE0 l0 7 = true) : JG xs 6 167 (f167 l0 l1 l2 l3 M) (fun x r => r = (some (.int x.1), (jE0, x.2))) (0, [(0, .ref l0), (1, .int l1), (2, .int l2), (3, .int l3)], [], (jE0, M)) := by
    unfold f167
    refine g_pure (c' := (2, [(0, .ref l0), (1, .int l1), (2, .int l2), (3, .int l3)], [.int l1, .ref l0], (jE0, M))) 2 rfl ?_
    refine g_cI rfl (jc_v rfl rfl (jv_o pl0 rfl) rfl) (c159 l0 l1 pl0) (by decide) (fun v1 qv1 => ?_)
    refine g_if_eq (tgt := 16) rfl rfl (fun q2 => ?_) (fun q2 => ?_)
    · refine g_pure (c' := (40, [(0, .ref l0), (1, .int l1), (2, .int l2), (3, .int l3)], [.int (-2 : Int32)], (jE0, M))) 2 rfl ?_
      exact g_ret rfl rfl (fun _ h => h)
    · refine g_pure (c' := (10, [(0, .ref l0), (1, .int l1), (2, .int l2), (3, .int l3)], [.int l2, .ref l0], (jE0, M))) 2 rfl ?_
      refine g_cI rfl (jc_v rfl rfl (jv_o pl0 rfl) rfl) (c159 l0 l2 pl0) (by decide) (fun v3 qv3 => ?_)
      refine g_if_ne (tgt := 21) rfl rfl (fun q4 => ?_) (fun q4 => ?_)
      · refine g_pure (c' := (40, [(0, .ref l0), (1, .int l1), (2, .int l2), (3, .int l3)], [.int (-2 : Int32)], (jE0, M))) 2 rfl ?_
        exact g_ret rfl rfl (fun _ h => h)
      · refine g_pure (c' := (22, [(0, .ref l0), (1, .int l1), (2, .int l2), (3, .int l3)], [.int l3], (jE0, M))) 1 rfl ?_
        refine g_cI rfl (jc_s rfl rfl) (c162 l3) (by decide) (fun v5 qv5 => ?_)
        refine g_if_eq (tgt := 38) rfl rfl (fun q6 => ?_) (fun q6 => ?_)
        · refine g_pure (c' := (40, [(0, .ref l0), (1, .int l1), (2, .int l2), (3, .int l3)], [.int (-3 : Int32)], (jE0, M))) 1 rfl ?_
          exact g_ret rfl rfl (fun _ h => h)
        · refine g_pure (c' := (32, [(0, .ref l0), (1, .int l1), (2, .int l2), (3, .int l3)], [.int l3, .int l2, .int l1, .ref l0], (jE0, M))) 4 rfl ?_
          refine g_wI rfl (jc_v rfl rfl (jv_o pl0 rfl) rfl) (c156 l0 l1 l2 l3 M pl0) (by decide) (fun v8 M7 qv8 => ?_)
          refine g_pure (c' := (40, [(0, .ref l0), (1, .int l1), (2, .int l2), (3, .int l3)], [.int v8], (jE0, M7))) 1 rfl ?_
          exact g_ret rfl rfl (fun _ h => h)
def f19_8 (M : JM) : Nat → Nat → Int32 → Int32 → Int32 → Option Int32
  | 0, _, _, _, _ => none
  | n + 1, l0, l2, l3, l4 => (if l4 < (M l0 0) then ((f18 M l0 l3 l2).bind fun v3 => (if v3 = l3 then (some l3) else ((f19_8 M n) l0 l2 v3 (l4 + (1 : Int32))))) else (some l3))
set_option maxRecDepth 100000 in
theorem c19_8 {xs : Option (List Int32)} {M : JM} : ∀ (n : Nat) (l0 : Nat) (l2 : Int32) (l3 : Int32) (l4 : Int32) (pl0 : jok jE0 l0 0 = true), JG xs 2 19 (f19_8 M n l0 l2 l3 l4) (fun x r => r = (some (.int x), (jE0, M))) (8, [(0, .ref l0), (2, .int l2), (3, .int l3), (4, .int l4)], [], (jE0, M))
  | 0, _, _, _, _, _ => by rw [f19_8]; exact g_none
  | n + 1, l0, l2, l3, l4, pl0 => by
    rw [f19_8]
    refine g_pure (c' := (11, [(0, .ref l0), (2, .int l2), (3, .int l3), (4, .int l4)], [.ref l0, .int l4], (jE0, M))) 2 rfl ?_
    refine g_gf (ci := 0) (k := 0) rfl rfl rfl pl0 ?_
    refine g_ic_ge (tgt := 42) rfl rfl (fun q2 => ?_) (fun q2 => ?_)
    · refine g_pure (c' := (20, [(0, .ref l0), (2, .int l2), (3, .int l3), (4, .int l4)], [.int l2, .int l3, .ref l0], (jE0, M))) 3 rfl ?_
      refine g_cI rfl (jc_v rfl rfl (jv_o pl0 rfl) rfl) (c18 l0 l3 l2 pl0) (by decide) (fun v3 qv3 => ?_)
      refine g_pure (c' := (28, [(5, .int v3), (0, .ref l0), (2, .int l2), (3, .int l3), (4, .int l4)], [.int l3, .int v3], (jE0, M))) 3 rfl ?_
      refine g_ic_ne (tgt := 33) rfl rfl (fun q4 => ?_) (fun q4 => ?_)
      · refine g_pure (c' := (32, [(5, .int v3), (0, .ref l0), (2, .int l2), (3, .int l3), (4, .int l4)], [.int l3], (jE0, M))) 1 rfl ?_
        exact g_ret rfl rfl (fun _ h => h)
      · refine g_pure (c' := (8, [(4, .int (l4 + (1 : Int32))), (3, .int v3), (5, .int v3), (0, .ref l0), (2, .int l2)], [], (jE0, M))) 4 rfl ?_
        refine g_weakk (lv := [(0, .ref l0), (2, .int l2), (3, .int v3), (4, .int (l4 + (1 : Int32)))]) ⟨rfl, rfl, rfl, rfl, trivial⟩ [0, 2, 3, 4] rfl (by decide) [4, 3, 5, 0, 2] rfl (by decide) ?_
        exact ((c19_8 n) l0 l2 v3 (l4 + (1 : Int32)) pl0)
    · refine g_pure (c' := (43, [(0, .ref l0), (2, .int l2), (3, .int l3), (4, .int l4)], [.int l3], (jE0, M))) 1 rfl ?_
      exact g_ret rfl rfl (fun _ h => h)
/-- CometKin$Country.allReached -/
def f19 (M : JM) (l0 : Nat) (l1 : Int32) (l2 : Int32) : Option Int32 := ((f100 l1).bind fun v1 => (f19_8 M 1000 l0 l2 v1 (0 : Int32)))
set_option maxRecDepth 100000 in
theorem c19 {xs : Option (List Int32)} {M : JM} (l0 : Nat) (l1 : Int32) (l2 : Int32) (pl0 : jok jE0 l0 0 = true) : JG xs 2 19 (f19 M l0 l1 l2) (fun x r => r = (some (.int x), (jE0, M))) (0, [(0, .ref l0), (1, .int l1), (2, .int l2)], [], (jE0, M)) := by
    unfold f19
    refine g_pure (c' := (1, [(0, .ref l0), (1, .int l1), (2, .int l2)], [.int l1], (jE0, M))) 1 rfl ?_
    refine g_cI rfl (jc_s rfl rfl) (c100 l1) (by decide) (fun v1 qv1 => ?_)
    refine g_pure (c' := (8, [(4, .int (0 : Int32)), (3, .int v1), (0, .ref l0), (1, .int l1), (2, .int l2)], [], (jE0, M))) 3 rfl ?_
    refine g_weakk (lv := [(0, .ref l0), (2, .int l2), (3, .int v1), (4, .int (0 : Int32))]) ⟨rfl, rfl, rfl, rfl, trivial⟩ [0, 2, 3, 4] rfl (by decide) [4, 3, 0, 1, 2] rfl (by decide) ?_
    exact (c19_8 1000 l0 l2 v1 (0 : Int32) pl0)
/-- CometKin$Country.kinOf -/
def f21 (M : JM) (l0 : Nat) (l1 : Int32) (l2 : Int32) : Option Int32 := ((f14 M l0 l1).bind fun v1 => ((f16 M l0 (v1 &&& (M l0 13)) l2).bind fun v2 => ((f19 M l0 l1 v2).bind fun v3 => ((f14 M l0 l1).bind fun v4 => ((f16 M l0 (v4 &&& (M l0 12)) l2).bind fun v5 => ((f19 M l0 l1 v5).bind fun v6 => ((f100 l1).bind fun v7 => (some (((v3 &&& (M l0 10)) ||| (v6 &&& ((M l0 10) ^^^ (-1 : Int32)))) &&& (v7 ^^^ (-1 : Int32)))))))))))
set_option maxRecDepth 100000 in
theorem c21 {xs : Option (List Int32)} {M : JM} (l0 : Nat) (l1 : Int32) (l2 : Int32) (pl0 : jok jE0 l0 0 = true) : JG xs 3 21 (f21 M l0 l1 l2) (fun x r => r = (some (.int x), (jE0, M))) (0, [(0, .ref l0), (1, .int l1), (2, .int l2)], [], (jE0, M)) := by
    unfold f21
    refine g_pure (c' := (5, [(0, .ref l0), (1, .int l1), (2, .int l2)], [.int l1, .ref l0, .ref l0, .int l1, .ref l0], (jE0, M))) 5 rfl ?_
    refine g_cI rfl (jc_v rfl rfl (jv_o pl0 rfl) rfl) (c14 l0 l1 pl0) (by decide) (fun v1 qv1 => ?_)
    refine g_pure (c' := (9, [(0, .ref l0), (1, .int l1), (2, .int l2)], [.ref l0, .int v1, .ref l0, .int l1, .ref l0], (jE0, M))) 1 rfl ?_
    refine g_gf (ci := 0) (k := 13) rfl rfl rfl pl0 ?_
    refine g_pure (c' := (14, [(0, .ref l0), (1, .int l1), (2, .int l2)], [.int l2, .int (v1 &&& (M l0 13)), .ref l0, .int l1, .ref l0], (jE0, M))) 2 rfl ?_
    refine g_cI rfl (jc_v rfl rfl (jv_o pl0 rfl) rfl) (c16 l0 (v1 &&& (M l0 13)) l2 pl0) (by decide) (fun v2 qv2 => ?_)
    refine g_cI rfl (jc_v rfl rfl (jv_o pl0 rfl) rfl) (c19 l0 l1 v2 pl0) (by decide) (fun v3 qv3 => ?_)
    refine g_pure (c' := (26, [(3, .int v3), (0, .ref l0), (1, .int l1), (2, .int l2)], [.int l1, .ref l0, .ref l0, .int l1, .ref l0], (jE0, M))) 6 rfl ?_
    refine g_cI rfl (jc_v rfl rfl (jv_o pl0 rfl) rfl) (c14 l0 l1 pl0) (by decide) (fun v4 qv4 => ?_)
    refine g_pure (c' := (30, [(3, .int v3), (0, .ref l0), (1, .int l1), (2, .int l2)], [.ref l0, .int v4, .ref l0, .int l1, .ref l0], (jE0, M))) 1 rfl ?_
    refine g_gf (ci := 0) (k := 12) rfl rfl rfl pl0 ?_
    refine g_pure (c' := (35, [(3, .int v3), (0, .ref l0), (1, .int l1), (2, .int l2)], [.int l2, .int (v4 &&& (M l0 12)), .ref l0, .int l1, .ref l0], (jE0, M))) 2 rfl ?_
    refine g_cI rfl (jc_v rfl rfl (jv_o pl0 rfl) rfl) (c16 l0 (v4 &&& (M l0 12)) l2 pl0) (by decide) (fun v5 qv5 => ?_)
    refine g_cI rfl (jc_v rfl rfl (jv_o pl0 rfl) rfl) (c19 l0 l1 v5 pl0) (by decide) (fun v6 qv6 => ?_)
    refine g_pure (c' := (45, [(4, .int v6), (3, .int v3), (0, .ref l0), (1, .int l1), (2, .int l2)], [.ref l0, .int v3], (jE0, M))) 3 rfl ?_
    refine g_gf (ci := 0) (k := 10) rfl rfl rfl pl0 ?_
    refine g_pure (c' := (52, [(4, .int v6), (3, .int v3), (0, .ref l0), (1, .int l1), (2, .int l2)], [.ref l0, .int v6, .int (v3 &&& (M l0 10))], (jE0, M))) 3 rfl ?_
    refine g_gf (ci := 0) (k := 10) rfl rfl rfl pl0 ?_
    refine g_pure (c' := (60, [(4, .int v6), (3, .int v3), (0, .ref l0), (1, .int l1), (2, .int l2)], [.int l1, .int ((v3 &&& (M l0 10)) ||| (v6 &&& ((M l0 10) ^^^ (-1 : Int32))))], (jE0, M))) 5 rfl ?_
    refine g_cI rfl (jc_s rfl rfl) (c100 l1) (by decide) (fun v7 qv7 => ?_)
    refine g_pure (c' := (66, [(4, .int v6), (3, .int v3), (0, .ref l0), (1, .int l1), (2, .int l2)], [.int (((v3 &&& (M l0 10)) ||| (v6 &&& ((M l0 10) ^^^ (-1 : Int32)))) &&& (v7 ^^^ (-1 : Int32)))], (jE0, M))) 3 rfl ?_
    exact g_ret rfl rfl (fun _ h => h)
/-- CometKin.kin -/
def f77 (M : JM) (l0 : Nat) (l1 : Int32) (l2 : Int32) : Option Int32 := ((f3 M (jpt l0 1) l1).bind fun v1 => (if v1 = (0 : Int32) then (some (-2 : Int32)) else ((f99 l2).bind fun v3 => (if v3 = (0 : Int32) then (some (-3 : Int32)) else ((f21 M (jpt l0 1) l1 l2).bind fun v5 => (some v5))))))
set_option maxRecDepth 100000 in
theorem c77 {xs : Option (List Int32)} {M : JM} (l0 : Nat) (l1 : Int32) (l2 : Int32) (pl0 : jok jE0 l0 6 = true) : JG xs 4 77 (f77 M l0 l1 l2) (fun x r => r = (some (.int x), (jE0, M))) (0, [(0, .ref l0), (1, .int l1), (2, .int l2)], [], (jE0, M)) := by
    unfold f77
    refine g_pure (c' := (1, [(0, .ref l0), (1, .int l1), (2, .int l2)], [.ref l0], (jE0, M))) 1 rfl ?_
    refine g_gp rfl rfl rfl pl0 (jp_ok (kd := 0) pl0 (by decide) (by decide) rfl rfl).1 ?_
    refine g_pure (c' := (5, [(0, .ref l0), (1, .int l1), (2, .int l2)], [.int l1, .ref (jpt l0 1)], (jE0, M))) 1 rfl ?_
    refine g_cI rfl (jc_v rfl rfl (jv_o (jk_ok (kd := 0) pl0 (by decide) (by decide) rfl rfl) rfl) rfl) (c3 (jpt l0 1) l1 (jk_ok (kd := 0) pl0 (by decide) (by decide) rfl rfl)) (by decide) (fun v1 qv1 => ?_)
    refine g_if_ne (tgt := 14) rfl rfl (fun q2 => ?_) (fun q2 => ?_)
    · refine g_pure (c' := (13, [(0, .ref l0), (1, .int l1), (2, .int l2)], [.int (-2 : Int32)], (jE0, M))) 1 rfl ?_
      exact g_ret rfl rfl (fun _ h => h)
    · refine g_pure (c' := (15, [(0, .ref l0), (1, .int l1), (2, .int l2)], [.int l2], (jE0, M))) 1 rfl ?_
      refine g_cI rfl (jc_s rfl rfl) (c99 l2) (by decide) (fun v3 qv3 => ?_)
      refine g_if_eq (tgt := 33) rfl rfl (fun q4 => ?_) (fun q4 => ?_)
      · refine g_pure (c' := (35, [(0, .ref l0), (1, .int l1), (2, .int l2)], [.int (-3 : Int32)], (jE0, M))) 1 rfl ?_
        exact g_ret rfl rfl (fun _ h => h)
      · refine g_pure (c' := (22, [(0, .ref l0), (1, .int l1), (2, .int l2)], [.ref l0], (jE0, M))) 1 rfl ?_
        refine g_gp rfl rfl rfl pl0 (jp_ok (kd := 0) pl0 (by decide) (by decide) rfl rfl).1 ?_
        refine g_pure (c' := (27, [(0, .ref l0), (1, .int l1), (2, .int l2)], [.int l2, .int l1, .ref (jpt l0 1)], (jE0, M))) 2 rfl ?_
        refine g_cI rfl (jc_v rfl rfl (jv_o (jk_ok (kd := 0) pl0 (by decide) (by decide) rfl rfl) rfl) rfl) (c21 (jpt l0 1) l1 l2 (jk_ok (kd := 0) pl0 (by decide) (by decide) rfl rfl)) (by decide) (fun v5 qv5 => ?_)
        refine g_pure (c' := (35, [(0, .ref l0), (1, .int l1), (2, .int l2)], [.int v5], (jE0, M))) 1 rfl ?_
        exact g_ret rfl rfl (fun _ h => h)
def f157_41 (h5 : Nat → Int32 → Int32 → Int32 → Int32 → JM → Option (Int32 × JM)) (l0 : Nat) (l1 : Int32) (l2 : Int32) (l4 : Int32) (s0 : Int32) (s1 : Int32) (M : JM) : Option (Int32 × JM) := (h5 l0 l1 l2 (s1 ||| s0) (l4 + (1 : Int32)) M)
set_option maxRecDepth 100000 in
theorem c157_41 {xs : Option (List Int32)} (h5 : Nat → Int32 → Int32 → Int32 → Int32 → JM → Option (Int32 × JM)) (H5 : ∀ (l0 : Nat) (l1 : Int32) (l2 : Int32) (l3 : Int32) (l4 : Int32) (M : JM) (pl0 : jok jE0 l0 7 = true), JG xs 6 157 (h5 l0 l1 l2 l3 l4 M) (fun x r => r = (some (.int x.1), (jE0, x.2))) (5, [(0, .ref l0), (1, .int l1), (2, .int l2), (3, .int l3), (4, .int l4)], [], (jE0, M))) : ∀ (l0 : Nat) (l1 : Int32) (l2 : Int32) (l4 : Int32) (s0 : Int32) (s1 : Int32) (M : JM) (pl0 : jok jE0 l0 7 = true), JG xs 6 157 (f157_41 h5 l0 l1 l2 l4 s0 s1 M) (fun x r => r = (some (.int x.1), (jE0, x.2))) (41, [(0, .ref l0), (1, .int l1), (2, .int l2), (4, .int l4)], [.int s0, .int s1], (jE0, M)) := by
    intro l0 l1 l2 l4 s0 s1 M pl0
    unfold f157_41
    refine g_pure (c' := (5, [(4, .int (l4 + (1 : Int32))), (3, .int (s1 ||| s0)), (0, .ref l0), (1, .int l1), (2, .int l2)], [], (jE0, M))) 4 rfl ?_
    refine g_weakk (lv := [(0, .ref l0), (1, .int l1), (2, .int l2), (3, .int (s1 ||| s0)), (4, .int (l4 + (1 : Int32)))]) ⟨rfl, rfl, rfl, rfl, rfl, trivial⟩ [0, 1, 2, 3, 4] rfl (by decide) [4, 3, 0, 1, 2] rfl (by decide) ?_
    exact (H5 l0 l1 l2 (s1 ||| s0) (l4 + (1 : Int32)) M pl0)
def f157_40 (h5 : Nat → Int32 → Int32 → Int32 → Int32 → JM → Option (Int32 × JM)) (l0 : Nat) (l1 : Int32) (l2 : Int32) (l4 : Int32) (s0 : Int32) (M : JM) : Option (Int32 × JM) := (f157_41 h5 l0 l1 l2 l4 (0 : Int32) s0 M)
set_option maxRecDepth 100000 in
theorem c157_40 {xs : Option (List Int32)} (h5 : Nat → Int32 → Int32 → Int32 → Int32 → JM → Option (Int32 × JM)) (H5 : ∀ (l0 : Nat) (l1 : Int32) (l2 : Int32) (l3 : Int32) (l4 : Int32) (M : JM) (pl0 : jok jE0 l0 7 = true), JG xs 6 157 (h5 l0 l1 l2 l3 l4 M) (fun x r => r = (some (.int x.1), (jE0, x.2))) (5, [(0, .ref l0), (1, .int l1), (2, .int l2), (3, .int l3), (4, .int l4)], [], (jE0, M))) : ∀ (l0 : Nat) (l1 : Int32) (l2 : Int32) (l4 : Int32) (s0 : Int32) (M : JM) (pl0 : jok jE0 l0 7 = true), JG xs 6 157 (f157_40 h5 l0 l1 l2 l4 s0 M) (fun x r => r = (some (.int x.1), (jE0, x.2))) (40, [(0, .ref l0), (1, .int l1), (2, .int l2), (4, .int l4)], [.int s0], (jE0, M)) := by
    intro l0 l1 l2 l4 s0 M pl0
    unfold f157_40
    refine g_pure (c' := (41, [(0, .ref l0), (1, .int l1), (2, .int l2), (4, .int l4)], [.int (0 : Int32), .int s0], (jE0, M))) 1 rfl ?_
    exact (c157_41 h5 H5 l0 l1 l2 l4 (0 : Int32) s0 M pl0)
def f157_5  : Nat → Nat → Int32 → Int32 → Int32 → Int32 → JM → Option (Int32 × JM)
  | 0, _, _, _, _, _, _ => none
  | n + 1, l0, l1, l2, l3, l4, M => (if l4 < (M l0 7) then (if l4 = l1 then (f157_40 (f157_5 n) l0 l1 l2 l4 l3 M) else ((f156 l0 l1 l4 l2 M).bind fun z6 => (if z6.1 = (-1 : Int32) then (f157_40 (f157_5 n) l0 l1 l2 l4 l3 z6.2) else (f157_41 (f157_5 n) l0 l1 l2 l4 ((1 : Int32) <<< (l4 &&& (31 : Int32))) l3 z6.2)))) else (some (l3, M)))
set_option maxRecDepth 100000 in
theorem c157_5 {xs : Option (List Int32)} : ∀ (n : Nat) (l0 : Nat) (l1 : Int32) (l2 : Int32) (l3 : Int32) (l4 : Int32) (M : JM) (pl0 : jok jE0 l0 7 = true), JG xs 6 157 (f157_5 n l0 l1 l2 l3 l4 M) (fun x r => r = (some (.int x.1), (jE0, x.2))) (5, [(0, .ref l0), (1, .int l1), (2, .int l2), (3, .int l3), (4, .int l4)], [], (jE0, M))
  | 0, _, _, _, _, _, _, _ => by rw [f157_5]; exact g_none
  | n + 1, l0, l1, l2, l3, l4, M, pl0 => by
    rw [f157_5]
    refine g_pure (c' := (8, [(0, .ref l0), (1, .int l1), (2, .int l2), (3, .int l3), (4, .int l4)], [.ref l0, .int l4], (jE0, M))) 2 rfl ?_
    refine g_gf (ci := 7) (k := 7) rfl rfl rfl pl0 ?_
    refine g_ic_ge (tgt := 49) rfl rfl (fun q1 => ?_) (fun q1 => ?_)
    · refine g_pure (c' := (18, [(0, .ref l0), (1, .int l1), (2, .int l2), (3, .int l3), (4, .int l4)], [.int l1, .int l4, .int l3], (jE0, M))) 3 rfl ?_
      refine g_ic_eq (tgt := 40) rfl rfl (fun q2 => ?_) (fun q2 => ?_)
      · refine g_weakk (lv := [(0, .ref l0), (1, .int l1), (2, .int l2), (4, .int l4)]) ⟨rfl, rfl, rfl, rfl, trivial⟩ [0, 1, 2, 4] rfl (by decide) [0, 1, 2, 3, 4] rfl (by decide) ?_
        exact (c157_40 (f157_5 n) (c157_5 n) l0 l1 l2 l4 l3 M pl0)
      · refine g_pure (c' := (26, [(0, .ref l0), (1, .int l1), (2, .int l2), (3, .int l3), (4, .int l4)], [.int l2, .int l4, .int l1, .ref l0, .int l3], (jE0, M))) 4 rfl ?_
        refine g_wI rfl (jc_v rfl rfl (jv_o pl0 rfl) rfl) (c156 l0 l1 l4 l2 M pl0) (by decide) (fun v4 M3 qv4 => ?_)
        refine g_pure (c' := (30, [(0, .ref l0), (1, .int l1), (2, .int l2), (3, .int l3), (4, .int l4)], [.int (-1 : Int32), .int v4, .int l3], (jE0, M3))) 1 rfl ?_
        refine g_ic_eq (tgt := 40) rfl rfl (fun q5 => ?_) (fun q5 => ?_)
        · refine g_weakk (lv := [(0, .ref l0), (1, .int l1), (2, .int l2), (4, .int l4)]) ⟨rfl, rfl, rfl, rfl, trivial⟩ [0, 1, 2, 4] rfl (by decide) [0, 1, 2, 3, 4] rfl (by decide) ?_
          exact (c157_40 (f157_5 n) (c157_5 n) l0 l1 l2 l4 l3 M3 pl0)
        · refine g_pure (c' := (41, [(0, .ref l0), (1, .int l1), (2, .int l2), (3, .int l3), (4, .int l4)], [.int ((1 : Int32) <<< (l4 &&& (31 : Int32))), .int l3], (jE0, M3))) 4 rfl ?_
          refine g_weakk (lv := [(0, .ref l0), (1, .int l1), (2, .int l2), (4, .int l4)]) ⟨rfl, rfl, rfl, rfl, trivial⟩ [0, 1, 2, 4] rfl (by decide) [0, 1, 2, 3, 4] rfl (by decide) ?_
          exact (c157_41 (f157_5 n) (c157_5 n) l0 l1 l2 l4 ((1 : Int32) <<< (l4 &&& (31 : Int32))) l3 M3 pl0)
    · refine g_pure (c' := (50, [(0, .ref l0), (1, .int l1), (2, .int l2), (3, .int l3), (4, .int l4)], [.int l3], (jE0, M))) 1 rfl ?_
      exact g_ret rfl rfl (fun _ h => h)
/-- CometKinModel.kinOf -/
def f157  (l0 : Nat) (l1 : Int32) (l2 : Int32) (M : JM) : Option (Int32 × JM) := (f157_5 1000 l0 l1 l2 (0 : Int32) (0 : Int32) M)
set_option maxRecDepth 100000 in
theorem c157 {xs : Option (List Int32)} (l0 : Nat) (l1 : Int32) (l2 : Int32) (M : JM) (pl0 : jok jE0 l0 7 = true) : JG xs 6 157 (f157 l0 l1 l2 M) (fun x r => r = (some (.int x.1), (jE0, x.2))) (0, [(0, .ref l0), (1, .int l1), (2, .int l2)], [], (jE0, M)) := by
    unfold f157
    refine g_pure (c' := (5, [(4, .int (0 : Int32)), (3, .int (0 : Int32)), (0, .ref l0), (1, .int l1), (2, .int l2)], [], (jE0, M))) 4 rfl ?_
    refine g_weakk (lv := [(0, .ref l0), (1, .int l1), (2, .int l2), (3, .int (0 : Int32)), (4, .int (0 : Int32))]) ⟨rfl, rfl, rfl, rfl, rfl, trivial⟩ [0, 1, 2, 3, 4] rfl (by decide) [4, 3, 0, 1, 2] rfl (by decide) ?_
    exact (c157_5 1000 l0 l1 l2 (0 : Int32) (0 : Int32) M pl0)
/-- CometKinModel.kin -/
def f168  (l0 : Nat) (l1 : Int32) (l2 : Int32) (M : JM) : Option (Int32 × JM) := ((f159 M l0 l1).bind fun v1 => (if v1 = (0 : Int32) then (some ((-2 : Int32), M)) else ((f162 l2).bind fun v3 => (if v3 = (0 : Int32) then (some ((-3 : Int32), M)) else ((f157 l0 l1 l2 M).bind fun z7 => (some (z7.1, z7.2)))))))
set_option maxRecDepth 100000 in
theorem c168 {xs : Option (List Int32)} (l0 : Nat) (l1 : Int32) (l2 : Int32) (M : JM) (pl0 : jok jE0 l0 7 = true) : JG xs 7 168 (f168 l0 l1 l2 M) (fun x r => r = (some (.int x.1), (jE0, x.2))) (0, [(0, .ref l0), (1, .int l1), (2, .int l2)], [], (jE0, M)) := by
    unfold f168
    refine g_pure (c' := (2, [(0, .ref l0), (1, .int l1), (2, .int l2)], [.int l1, .ref l0], (jE0, M))) 2 rfl ?_
    refine g_cI rfl (jc_v rfl rfl (jv_o pl0 rfl) rfl) (c159 l0 l1 pl0) (by decide) (fun v1 qv1 => ?_)
    refine g_if_ne (tgt := 13) rfl rfl (fun q2 => ?_) (fun q2 => ?_)
    · refine g_pure (c' := (31, [(0, .ref l0), (1, .int l1), (2, .int l2)], [.int (-2 : Int32)], (jE0, M))) 2 rfl ?_
      exact g_ret rfl rfl (fun _ h => h)
    · refine g_pure (c' := (14, [(0, .ref l0), (1, .int l1), (2, .int l2)], [.int l2], (jE0, M))) 1 rfl ?_
      refine g_cI rfl (jc_s rfl rfl) (c162 l2) (by decide) (fun v3 qv3 => ?_)
      refine g_if_eq (tgt := 29) rfl rfl (fun q4 => ?_) (fun q4 => ?_)
      · refine g_pure (c' := (31, [(0, .ref l0), (1, .int l1), (2, .int l2)], [.int (-3 : Int32)], (jE0, M))) 1 rfl ?_
        exact g_ret rfl rfl (fun _ h => h)
      · refine g_pure (c' := (23, [(0, .ref l0), (1, .int l1), (2, .int l2)], [.int l2, .int l1, .ref l0], (jE0, M))) 3 rfl ?_
        refine g_wI rfl (jc_v rfl rfl (jv_o pl0 rfl) rfl) (c157 l0 l1 l2 M pl0) (by decide) (fun v6 M5 qv6 => ?_)
        refine g_pure (c' := (31, [(0, .ref l0), (1, .int l1), (2, .int l2)], [.int v6], (jE0, M5))) 1 rfl ?_
        exact g_ret rfl rfl (fun _ h => h)
/-- CometKin$Shelf.at -/
def f48  (l0 : Nat) (l1 : Int32) : Option Nat := (if l1 < (0 : Int32) then (none) else (if l1 < (Int32.ofNat (jlen jE0 (jpt l0 0))) then ((jea (jpt l0 0) l1).bind fun v3 => (some v3)) else (none)))
set_option maxRecDepth 100000 in
theorem c48 {xs : Option (List Int32)} {M : JM} (l0 : Nat) (l1 : Int32) (pl0 : jok jE0 l0 4 = true) : JG xs 0 48 (f48 l0 l1) (fun x r => r = (some (.ref x), (jE0, M))) (0, [(0, .ref l0), (1, .int l1)], [], (jE0, M)) := by
    unfold f48
    refine g_pure (c' := (1, [(0, .ref l0), (1, .int l1)], [.int l1], (jE0, M))) 1 rfl ?_
    refine g_if_lt (tgt := 22) rfl rfl (fun q1 => ?_) (fun q1 => ?_)
    · exact g_none
    · refine g_pure (c' := (6, [(0, .ref l0), (1, .int l1)], [.ref l0, .int l1], (jE0, M))) 2 rfl ?_
      refine g_gp rfl rfl rfl pl0 (jp_ok (kd := 10) pl0 (by decide) (by decide) rfl rfl).1 ?_
      refine g_al rfl (by rw [(jk_ok (kd := 10) pl0 (by decide) (by decide) rfl rfl)]; simp) ?_
      refine g_ic_ge (tgt := 22) rfl rfl (fun q2 => ?_) (fun q2 => ?_)
      · refine g_pure (c' := (14, [(0, .ref l0), (1, .int l1)], [.ref l0], (jE0, M))) 1 rfl ?_
        refine g_gp rfl rfl rfl pl0 (jp_ok (kd := 10) pl0 (by decide) (by decide) rfl rfl).1 ?_
        refine g_pure (c' := (18, [(0, .ref l0), (1, .int l1)], [.int l1, .ref (jpt l0 0)], (jE0, M))) 1 rfl ?_
        refine g_aa rfl (jk_ok (kd := 10) pl0 (by decide) (by decide) rfl rfl) (fun v3 qv3 => ?_)
        refine g_pure (c' := (23, [(0, .ref l0), (1, .int l1)], [.ref v3], (jE0, M))) 1 rfl ?_
        exact g_ret rfl rfl (fun _ h => h)
      · exact g_none
theorem t48 {l0 p : Nat} {l1 : Int32} (h : jok jE0 l0 4 = true) (q : f48 l0 l1 = some p) : jok jE0 p 2 = true := by
  have h10 := jk_ok (k := 0) (kd := 10) h (by decide) (by decide) rfl rfl
  unfold f48 at q
  split at q
  · cases q
  · split at q
    · unfold jea at q
      cases hi : jin l1 (jlen jE0 (jpt l0 0)) with
      | false => rw [hi] at q; cases q
      | true => rw [hi] at q; cases q; exact (je_ok h10 (jin_lt hi)).2
    · cases q
/-- CometKin$Life.copyFrom -/
def f35  (l0 : Nat) (l1 : Nat) (M : JM) : Option JM := ((some (jup M l0 0 (M l1 0))).bind fun M1 => ((some (jup M1 l0 1 (M1 l1 1))).bind fun M2 => ((some (jup M2 l0 2 (M2 l1 2))).bind fun M3 => ((some (jup M3 l0 3 (M3 l1 3))).bind fun M4 => ((f46 (jpt l0 4) (jpt l1 4) M4).bind fun M5 => ((f46 (jpt l0 5) (jpt l1 5) M5).bind fun M6 => ((f46 (jpt l0 6) (jpt l1 6) M6).bind fun M7 => ((f46 (jpt l0 7) (jpt l1 7) M7).bind fun M8 => ((f46 (jpt l0 8) (jpt l1 8) M8).bind fun M9 => ((f46 (jpt l0 9) (jpt l1 9) M9).bind fun M10 => (some M10)))))))))))
set_option maxRecDepth 100000 in
theorem c35 {xs : Option (List Int32)} (l0 : Nat) (l1 : Nat) (M : JM) (pl0 : jok jE0 l0 2 = true) (pl1 : jok jE0 l1 2 = true) : JG xs 2 35 (f35 l0 l1 M) (fun x r => r = (none, (jE0, x))) (0, [(0, .ref l0), (1, .ref l1)], [], (jE0, M)) := by
    unfold f35
    refine g_pure (c' := (2, [(0, .ref l0), (1, .ref l1)], [.ref l1, .ref l0], (jE0, M))) 2 rfl ?_
    refine g_gf (ci := 2) (k := 0) rfl rfl rfl pl1 ?_
    refine g_pf (ci := 2) (k := 0) rfl rfl rfl rfl pl0 (fun M1 => ?_)
    refine g_pure (c' := (10, [(0, .ref l0), (1, .ref l1)], [.ref l1, .ref l0], (jE0, M1))) 2 rfl ?_
    refine g_gf (ci := 2) (k := 1) rfl rfl rfl pl1 ?_
    refine g_pf (ci := 2) (k := 1) rfl rfl rfl rfl pl0 (fun M2 => ?_)
    refine g_pure (c' := (18, [(0, .ref l0), (1, .ref l1)], [.ref l1, .ref l0], (jE0, M2))) 2 rfl ?_
    refine g_gf (ci := 2) (k := 2) rfl rfl rfl pl1 ?_
    refine g_pf (ci := 2) (k := 2) rfl rfl rfl rfl pl0 (fun M3 => ?_)
    refine g_pure (c' := (26, [(0, .ref l0), (1, .ref l1)], [.ref l1, .ref l0], (jE0, M3))) 2 rfl ?_
    refine g_gf (ci := 2) (k := 3) rfl rfl rfl pl1 ?_
    refine g_pf (ci := 2) (k := 3) rfl rfl rfl rfl pl0 (fun M4 => ?_)
    refine g_pure (c' := (33, [(0, .ref l0), (1, .ref l1)], [.ref l0], (jE0, M4))) 1 rfl ?_
    refine g_gp rfl rfl rfl pl0 (jp_ok (kd := 3) pl0 (by decide) (by decide) rfl rfl).1 ?_
    refine g_pure (c' := (37, [(0, .ref l0), (1, .ref l1)], [.ref l1, .ref (jpt l0 4)], (jE0, M4))) 1 rfl ?_
    refine g_gp rfl rfl rfl pl1 (jp_ok (kd := 3) pl1 (by decide) (by decide) rfl rfl).1 ?_
    refine g_wV rfl (jc_v rfl rfl (jv_o (jk_ok (kd := 3) pl0 (by decide) (by decide) rfl rfl) rfl) rfl) (c46 (jpt l0 4) (jpt l1 4) M4 (jk_ok (kd := 3) pl0 (by decide) (by decide) rfl rfl) (jk_ok (kd := 3) pl1 (by decide) (by decide) rfl rfl)) (by decide) (fun M5 => ?_)
    refine g_pure (c' := (44, [(0, .ref l0), (1, .ref l1)], [.ref l0], (jE0, M5))) 1 rfl ?_
    refine g_gp rfl rfl rfl pl0 (jp_ok (kd := 3) pl0 (by decide) (by decide) rfl rfl).1 ?_
    refine g_pure (c' := (48, [(0, .ref l0), (1, .ref l1)], [.ref l1, .ref (jpt l0 5)], (jE0, M5))) 1 rfl ?_
    refine g_gp rfl rfl rfl pl1 (jp_ok (kd := 3) pl1 (by decide) (by decide) rfl rfl).1 ?_
    refine g_wV rfl (jc_v rfl rfl (jv_o (jk_ok (kd := 3) pl0 (by decide) (by decide) rfl rfl) rfl) rfl) (c46 (jpt l0 5) (jpt l1 5) M5 (jk_ok (kd := 3) pl0 (by decide) (by decide) rfl rfl) (jk_ok (kd := 3) pl1 (by decide) (by decide) rfl rfl)) (by decide) (fun M6 => ?_)
    refine g_pure (c' := (55, [(0, .ref l0), (1, .ref l1)], [.ref l0], (jE0, M6))) 1 rfl ?_
    refine g_gp rfl rfl rfl pl0 (jp_ok (kd := 3) pl0 (by decide) (by decide) rfl rfl).1 ?_
    refine g_pure (c' := (59, [(0, .ref l0), (1, .ref l1)], [.ref l1, .ref (jpt l0 6)], (jE0, M6))) 1 rfl ?_
    refine g_gp rfl rfl rfl pl1 (jp_ok (kd := 3) pl1 (by decide) (by decide) rfl rfl).1 ?_
    refine g_wV rfl (jc_v rfl rfl (jv_o (jk_ok (kd := 3) pl0 (by decide) (by decide) rfl rfl) rfl) rfl) (c46 (jpt l0 6) (jpt l1 6) M6 (jk_ok (kd := 3) pl0 (by decide) (by decide) rfl rfl) (jk_ok (kd := 3) pl1 (by decide) (by decide) rfl rfl)) (by decide) (fun M7 => ?_)
    refine g_pure (c' := (66, [(0, .ref l0), (1, .ref l1)], [.ref l0], (jE0, M7))) 1 rfl ?_
    refine g_gp rfl rfl rfl pl0 (jp_ok (kd := 3) pl0 (by decide) (by decide) rfl rfl).1 ?_
    refine g_pure (c' := (70, [(0, .ref l0), (1, .ref l1)], [.ref l1, .ref (jpt l0 7)], (jE0, M7))) 1 rfl ?_
    refine g_gp rfl rfl rfl pl1 (jp_ok (kd := 3) pl1 (by decide) (by decide) rfl rfl).1 ?_
    refine g_wV rfl (jc_v rfl rfl (jv_o (jk_ok (kd := 3) pl0 (by decide) (by decide) rfl rfl) rfl) rfl) (c46 (jpt l0 7) (jpt l1 7) M7 (jk_ok (kd := 3) pl0 (by decide) (by decide) rfl rfl) (jk_ok (kd := 3) pl1 (by decide) (by decide) rfl rfl)) (by decide) (fun M8 => ?_)
    refine g_pure (c' := (77, [(0, .ref l0), (1, .ref l1)], [.ref l0], (jE0, M8))) 1 rfl ?_
    refine g_gp rfl rfl rfl pl0 (jp_ok (kd := 3) pl0 (by decide) (by decide) rfl rfl).1 ?_
    refine g_pure (c' := (81, [(0, .ref l0), (1, .ref l1)], [.ref l1, .ref (jpt l0 8)], (jE0, M8))) 1 rfl ?_
    refine g_gp rfl rfl rfl pl1 (jp_ok (kd := 3) pl1 (by decide) (by decide) rfl rfl).1 ?_
    refine g_wV rfl (jc_v rfl rfl (jv_o (jk_ok (kd := 3) pl0 (by decide) (by decide) rfl rfl) rfl) rfl) (c46 (jpt l0 8) (jpt l1 8) M8 (jk_ok (kd := 3) pl0 (by decide) (by decide) rfl rfl) (jk_ok (kd := 3) pl1 (by decide) (by decide) rfl rfl)) (by decide) (fun M9 => ?_)
    refine g_pure (c' := (88, [(0, .ref l0), (1, .ref l1)], [.ref l0], (jE0, M9))) 1 rfl ?_
    refine g_gp rfl rfl rfl pl0 (jp_ok (kd := 3) pl0 (by decide) (by decide) rfl rfl).1 ?_
    refine g_pure (c' := (92, [(0, .ref l0), (1, .ref l1)], [.ref l1, .ref (jpt l0 9)], (jE0, M9))) 1 rfl ?_
    refine g_gp rfl rfl rfl pl1 (jp_ok (kd := 3) pl1 (by decide) (by decide) rfl rfl).1 ?_
    refine g_wV rfl (jc_v rfl rfl (jv_o (jk_ok (kd := 3) pl0 (by decide) (by decide) rfl rfl) rfl) rfl) (c46 (jpt l0 9) (jpt l1 9) M9 (jk_ok (kd := 3) pl0 (by decide) (by decide) rfl rfl) (jk_ok (kd := 3) pl1 (by decide) (by decide) rfl rfl)) (by decide) (fun M10 => ?_)
    exact g_ret rfl rfl (fun _ h => h)
/-- CometKin$Shelf.store -/
def f49  (l0 : Nat) (l1 : Int32) (l2 : Nat) (M : JM) : Option JM := ((f48 l0 l1).bind fun v1 => ((f35 v1 l2 M).bind fun M2 => (some M2)))
set_option maxRecDepth 100000 in
theorem c49 {xs : Option (List Int32)} (l0 : Nat) (l1 : Int32) (l2 : Nat) (M : JM) (pl0 : jok jE0 l0 4 = true) (pl2 : jok jE0 l2 2 = true) : JG xs 3 49 (f49 l0 l1 l2 M) (fun x r => r = (none, (jE0, x))) (0, [(0, .ref l0), (1, .int l1), (2, .ref l2)], [], (jE0, M)) := by
    unfold f49
    refine g_pure (c' := (2, [(0, .ref l0), (1, .int l1), (2, .ref l2)], [.int l1, .ref l0], (jE0, M))) 2 rfl ?_
    refine g_cR rfl (jc_v rfl rfl (jv_o pl0 rfl) rfl) (c48 l0 l1 pl0) (by decide) (fun v1 qv1 => ?_)
    refine g_pure (c' := (7, [(3, .ref v1), (0, .ref l0), (1, .int l1), (2, .ref l2)], [.ref v1], (jE0, M))) 2 rfl ?_
    refine g_nn rfl ?_
    refine g_pure (c' := (12, [(3, .ref v1), (0, .ref l0), (1, .int l1), (2, .ref l2)], [.ref l2, .ref v1], (jE0, M))) 2 rfl ?_
    refine g_wV rfl (jc_v rfl rfl (jv_o (t48 pl0 qv1) rfl) rfl) (c35 v1 l2 M (t48 pl0 qv1) pl2) (by decide) (fun M2 => ?_)
    exact g_ret rfl rfl (fun _ h => h)
