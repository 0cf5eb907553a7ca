/-- CometKinModel.isDebt -/
def f182 (M : JM) (l0 : Nat) (l1 : Int32) : Option Int32 := ((jla (jpt l0 0) (20 : Int32) M).bind fun v1 => ((f125 ((l1).toInt64) (0 : Int64) (((v1 - (1 : Int32))).toInt64)).bind fun v2 => (jbo 182 v2)))
set_option maxRecDepth 100000 in
theorem c182 {xs : Option (List Int32)} {M : JM} (l0 : Nat) (l1 : Int32) (pl0 : jok jE0 l0 7 = true) : JG xs 1 182 (f182 M l0 l1) (fun x r => r = (some (.int x), (jE0, M))) (0, [(0, .ref l0), (1, .int l1)], [], (jE0, M)) := by
    unfold f182
    refine g_pure (c' := (4, [(0, .ref l0), (1, .int l1)], [.ref l0, .long (0 : Int64), .long ((l1).toInt64)], (jE0, M))) 4 rfl ?_
    refine g_gp rfl rfl rfl pl0 (jp_ok (kd := 8) pl0 (by decide) (by decide) rfl rfl).1 ?_
    refine g_pure (c' := (9, [(0, .ref l0), (1, .int l1)], [.int (20 : Int32), .ref (jpt l0 0), .long (0 : Int64), .long ((l1).toInt64)], (jE0, M))) 1 rfl ?_
    refine g_ia rfl (jk_ok (kd := 8) pl0 (by decide) (by decide) rfl rfl) (fun v1 => ?_)
    refine g_pure (c' := (13, [(0, .ref l0), (1, .int l1)], [.long (((v1 - (1 : Int32))).toInt64), .long (0 : Int64), .long ((l1).toInt64)], (jE0, M))) 3 rfl ?_
    refine g_cI rfl (jc_s rfl rfl) (c125 ((l1).toInt64) (0 : Int64) (((v1 - (1 : Int32))).toInt64)) (by decide) (fun v2 qv2 => ?_)
    exact g_rn rfl (fun _ _ h => h)
def f181_127 (h25 : Nat → Int32 → Int32 → Int32 → Int32 → JM → Option (Int32 × JM)) (l0 : Nat) (l1 : Int32) (l2 : Int32) (l3 : Int32) (l4 : Int32) (M : JM) : Option (Int32 × JM) := (h25 l0 l1 l2 l3 (l4 + (1 : Int32)) M)
set_option maxRecDepth 100000 in
theorem c181_127 {xs : Option (List Int32)} (h25 : Nat → Int32 → Int32 → Int32 → Int32 → JM → Option (Int32 × JM)) (H25 : ∀ (l0 : Nat) (l1 : Int32) (l2 : Int32) (l3 : Int32) (l4 : Int32) (M : JM) (pl0 : jok jE0 l0 7 = true), JG xs 5 181 (h25 l0 l1 l2 l3 l4 M) (fun x r => r = (some (.int x.1), (jE0, x.2))) (25, [(0, .ref l0), (1, .int l1), (2, .int l2), (3, .int l3), (4, .int l4)], [], (jE0, M))) : ∀ (l0 : Nat) (l1 : Int32) (l2 : Int32) (l3 : Int32) (l4 : Int32) (M : JM) (pl0 : jok jE0 l0 7 = true), JG xs 5 181 (f181_127 h25 l0 l1 l2 l3 l4 M) (fun x r => r = (some (.int x.1), (jE0, x.2))) (127, [(0, .ref l0), (1, .int l1), (2, .int l2), (3, .int l3), (4, .int l4)], [], (jE0, M)) := by
    intro l0 l1 l2 l3 l4 M pl0
    unfold f181_127
    refine g_pure (c' := (25, [(4, .int (l4 + (1 : Int32))), (0, .ref l0), (1, .int l1), (2, .int l2), (3, .int l3)], [], (jE0, M))) 2 rfl ?_
    refine g_weakk (lv := [(0, .ref l0), (1, .int l1), (2, .int l2), (3, .int l3), (4, .int (l4 + (1 : Int32)))]) ⟨rfl, rfl, rfl, rfl, rfl, trivial⟩ [0, 1, 2, 3, 4] rfl (by decide) [4, 0, 1, 2, 3] rfl (by decide) ?_
    exact (H25 l0 l1 l2 l3 (l4 + (1 : Int32)) M pl0)
def f181_126 (h25 : Nat → Int32 → Int32 → Int32 → Int32 → JM → Option (Int32 × JM)) (l0 : Nat) (l1 : Int32) (l3 : Int32) (l4 : Int32) (s0 : Int32) (M : JM) : Option (Int32 × JM) := (f181_127 h25 l0 l1 s0 l3 l4 M)
set_option maxRecDepth 100000 in
theorem c181_126 {xs : Option (List Int32)} (h25 : Nat → Int32 → Int32 → Int32 → Int32 → JM → Option (Int32 × JM)) (H25 : ∀ (l0 : Nat) (l1 : Int32) (l2 : Int32) (l3 : Int32) (l4 : Int32) (M : JM) (pl0 : jok jE0 l0 7 = true), JG xs 5 181 (h25 l0 l1 l2 l3 l4 M) (fun x r => r = (some (.int x.1), (jE0, x.2))) (25, [(0, .ref l0), (1, .int l1), (2, .int l2), (3, .int l3), (4, .int l4)], [], (jE0, M))) : ∀ (l0 : Nat) (l1 : Int32) (l3 : Int32) (l4 : Int32) (s0 : Int32) (M : JM) (pl0 : jok jE0 l0 7 = true), JG xs 5 181 (f181_126 h25 l0 l1 l3 l4 s0 M) (fun x r => r = (some (.int x.1), (jE0, x.2))) (126, [(0, .ref l0), (1, .int l1), (3, .int l3), (4, .int l4)], [.int s0], (jE0, M)) := by
    intro l0 l1 l3 l4 s0 M pl0
    unfold f181_126
    refine g_pure (c' := (127, [(2, .int s0), (0, .ref l0), (1, .int l1), (3, .int l3), (4, .int l4)], [], (jE0, M))) 1 rfl ?_
    refine g_weakk (lv := [(0, .ref l0), (1, .int l1), (2, .int s0), (3, .int l3), (4, .int l4)]) ⟨rfl, rfl, rfl, rfl, rfl, trivial⟩ [0, 1, 2, 3, 4] rfl (by decide) [2, 0, 1, 3, 4] rfl (by decide) ?_
    exact (c181_127 h25 H25 l0 l1 s0 l3 l4 M pl0)
def f181_114 (h25 : Nat → Int32 → Int32 → Int32 → Int32 → JM → Option (Int32 × JM)) (l0 : Nat) (l1 : Int32) (l2 : Int32) (l4 : Int32) (l5 : Int32) (s0 : Int32) (M : JM) : Option (Int32 × JM) := (if l5 = (0 : Int32) then (f181_126 h25 l0 l1 s0 l4 l2 M) else (f181_126 h25 l0 l1 s0 l4 l4 M))
set_option maxRecDepth 100000 in
theorem c181_114 {xs : Option (List Int32)} (h25 : Nat → Int32 → Int32 → Int32 → Int32 → JM → Option (Int32 × JM)) (H25 : ∀ (l0 : Nat) (l1 : Int32) (l2 : Int32) (l3 : Int32) (l4 : Int32) (M : JM) (pl0 : jok jE0 l0 7 = true), JG xs 5 181 (h25 l0 l1 l2 l3 l4 M) (fun x r => r = (some (.int x.1), (jE0, x.2))) (25, [(0, .ref l0), (1, .int l1), (2, .int l2), (3, .int l3), (4, .int l4)], [], (jE0, M))) : ∀ (l0 : Nat) (l1 : Int32) (l2 : Int32) (l4 : Int32) (l5 : Int32) (s0 : Int32) (M : JM) (pl0 : jok jE0 l0 7 = true), JG xs 5 181 (f181_114 h25 l0 l1 l2 l4 l5 s0 M) (fun x r => r = (some (.int x.1), (jE0, x.2))) (114, [(0, .ref l0), (1, .int l1), (2, .int l2), (4, .int l4), (5, .int l5)], [.int s0], (jE0, M)) := by
    intro l0 l1 l2 l4 l5 s0 M pl0
    unfold f181_114
    refine g_pure (c' := (117, [(3, .int s0), (0, .ref l0), (1, .int l1), (2, .int l2), (4, .int l4), (5, .int l5)], [.int l5], (jE0, M))) 2 rfl ?_
    refine g_if_eq (tgt := 125) rfl rfl (fun q13 => ?_) (fun q13 => ?_)
    · refine g_pure (c' := (126, [(3, .int s0), (0, .ref l0), (1, .int l1), (2, .int l2), (4, .int l4), (5, .int l5)], [.int l2], (jE0, M))) 1 rfl ?_
      refine g_weakk (lv := [(0, .ref l0), (1, .int l1), (3, .int s0), (4, .int l4)]) ⟨rfl, rfl, rfl, rfl, trivial⟩ [0, 1, 3, 4] rfl (by decide) [3, 0, 1, 2, 4, 5] rfl (by decide) ?_
      exact (c181_126 h25 H25 l0 l1 s0 l4 l2 M pl0)
    · refine g_pure (c' := (126, [(3, .int s0), (0, .ref l0), (1, .int l1), (2, .int l2), (4, .int l4), (5, .int l5)], [.int l4], (jE0, M))) 2 rfl ?_
      refine g_weakk (lv := [(0, .ref l0), (1, .int l1), (3, .int s0), (4, .int l4)]) ⟨rfl, rfl, rfl, rfl, trivial⟩ [0, 1, 3, 4] rfl (by decide) [3, 0, 1, 2, 4, 5] rfl (by decide) ?_
      exact (c181_126 h25 H25 l0 l1 s0 l4 l4 M pl0)
def f181_108 (h25 : Nat → Int32 → Int32 → Int32 → Int32 → JM → Option (Int32 × JM)) (l0 : Nat) (l1 : Int32) (l2 : Int32) (l4 : Int32) (l5 : Int32) (M : JM) : Option (Int32 × JM) := (f181_114 h25 l0 l1 l2 l4 l5 l4 M)
set_option maxRecDepth 100000 in
theorem c181_108 {xs : Option (List Int32)} (h25 : Nat → Int32 → Int32 → Int32 → Int32 → JM → Option (Int32 × JM)) (H25 : ∀ (l0 : Nat) (l1 : Int32) (l2 : Int32) (l3 : Int32) (l4 : Int32) (M : JM) (pl0 : jok jE0 l0 7 = true), JG xs 5 181 (h25 l0 l1 l2 l3 l4 M) (fun x r => r = (some (.int x.1), (jE0, x.2))) (25, [(0, .ref l0), (1, .int l1), (2, .int l2), (3, .int l3), (4, .int l4)], [], (jE0, M))) : ∀ (l0 : Nat) (l1 : Int32) (l2 : Int32) (l4 : Int32) (l5 : Int32) (M : JM) (pl0 : jok jE0 l0 7 = true), JG xs 5 181 (f181_108 h25 l0 l1 l2 l4 l5 M) (fun x r => r = (some (.int x.1), (jE0, x.2))) (108, [(0, .ref l0), (1, .int l1), (2, .int l2), (4, .int l4), (5, .int l5)], [], (jE0, M)) := by
    intro l0 l1 l2 l4 l5 M pl0
    unfold f181_108
    refine g_pure (c' := (114, [(0, .ref l0), (1, .int l1), (2, .int l2), (4, .int l4), (5, .int l5)], [.int l4], (jE0, M))) 2 rfl ?_
    exact (c181_114 h25 H25 l0 l1 l2 l4 l5 l4 M pl0)
def f181_82 (h25 : Nat → Int32 → Int32 → Int32 → Int32 → JM → Option (Int32 × JM)) (l0 : Nat) (l1 : Int32) (l2 : Int32) (l3 : Int32) (l4 : Int32) (s0 : Int32) (M : JM) : Option (Int32 × JM) := (if s0 = (0 : Int32) then (if l3 = (-1 : Int32) then (f181_108 h25 l0 l1 l2 l4 s0 M) else ((f147 M l0 l4 l3).bind fun v14 => (if v14 = (0 : Int32) then (f181_114 h25 l0 l1 l2 l4 s0 l3 M) else (f181_108 h25 l0 l1 l2 l4 s0 M)))) else (f181_114 h25 l0 l1 l2 l4 s0 l2 M))
set_option maxRecDepth 100000 in
theorem c181_82 {xs : Option (List Int32)} (h25 : Nat → Int32 → Int32 → Int32 → Int32 → JM → Option (Int32 × JM)) (H25 : ∀ (l0 : Nat) (l1 : Int32) (l2 : Int32) (l3 : Int32) (l4 : Int32) (M : JM) (pl0 : jok jE0 l0 7 = true), JG xs 5 181 (h25 l0 l1 l2 l3 l4 M) (fun x r => r = (some (.int x.1), (jE0, x.2))) (25, [(0, .ref l0), (1, .int l1), (2, .int l2), (3, .int l3), (4, .int l4)], [], (jE0, M))) : ∀ (l0 : Nat) (l1 : Int32) (l2 : Int32) (l3 : Int32) (l4 : Int32) (s0 : Int32) (M : JM) (pl0 : jok jE0 l0 7 = true), JG xs 5 181 (f181_82 h25 l0 l1 l2 l3 l4 s0 M) (fun x r => r = (some (.int x.1), (jE0, x.2))) (82, [(0, .ref l0), (1, .int l1), (2, .int l2), (3, .int l3), (4, .int l4)], [.int s0], (jE0, M)) := by
    intro l0 l1 l2 l3 l4 s0 M pl0
    unfold f181_82
    refine g_pure (c' := (86, [(5, .int s0), (0, .ref l0), (1, .int l1), (2, .int l2), (3, .int l3), (4, .int l4)], [.int s0], (jE0, M))) 2 rfl ?_
    refine g_if_eq (tgt := 93) rfl rfl (fun q11 => ?_) (fun q11 => ?_)
    · refine g_pure (c' := (95, [(5, .int s0), (0, .ref l0), (1, .int l1), (2, .int l2), (3, .int l3), (4, .int l4)], [.int (-1 : Int32), .int l3], (jE0, M))) 2 rfl ?_
      refine g_ic_eq (tgt := 108) rfl rfl (fun q12 => ?_) (fun q12 => ?_)
      · refine g_weakk (lv := [(0, .ref l0), (1, .int l1), (2, .int l2), (4, .int l4), (5, .int s0)]) ⟨rfl, rfl, rfl, rfl, rfl, trivial⟩ [0, 1, 2, 4, 5] rfl (by decide) [5, 0, 1, 2, 3, 4] rfl (by decide) ?_
        exact (c181_108 h25 H25 l0 l1 l2 l4 s0 M pl0)
      · refine g_pure (c' := (102, [(5, .int s0), (0, .ref l0), (1, .int l1), (2, .int l2), (3, .int l3), (4, .int l4)], [.int l3, .int l4, .ref l0], (jE0, M))) 3 rfl ?_
        refine g_cI rfl (jc_v rfl rfl (jv_o pl0 rfl) rfl) (c147 l0 l4 l3 pl0) (by decide) (fun v14 qv14 => ?_)
        refine g_if_eq (tgt := 113) rfl rfl (fun q15 => ?_) (fun q15 => ?_)
        · refine g_pure (c' := (114, [(5, .int s0), (0, .ref l0), (1, .int l1), (2, .int l2), (3, .int l3), (4, .int l4)], [.int l3], (jE0, M))) 1 rfl ?_
          refine g_weakk (lv := [(0, .ref l0), (1, .int l1), (2, .int l2), (4, .int l4), (5, .int s0)]) ⟨rfl, rfl, rfl, rfl, rfl, trivial⟩ [0, 1, 2, 4, 5] rfl (by decide) [5, 0, 1, 2, 3, 4] rfl (by decide) ?_
          exact (c181_114 h25 H25 l0 l1 l2 l4 s0 l3 M pl0)
        · refine g_weakk (lv := [(0, .ref l0), (1, .int l1), (2, .int l2), (4, .int l4), (5, .int s0)]) ⟨rfl, rfl, rfl, rfl, rfl, trivial⟩ [0, 1, 2, 4, 5] rfl (by decide) [5, 0, 1, 2, 3, 4] rfl (by decide) ?_
          exact (c181_108 h25 H25 l0 l1 l2 l4 s0 M pl0)
    · refine g_pure (c' := (114, [(5, .int s0), (0, .ref l0), (1, .int l1), (2, .int l2), (3, .int l3), (4, .int l4)], [.int l2], (jE0, M))) 2 rfl ?_
      refine g_weakk (lv := [(0, .ref l0), (1, .int l1), (2, .int l2), (4, .int l4), (5, .int s0)]) ⟨rfl, rfl, rfl, rfl, rfl, trivial⟩ [0, 1, 2, 4, 5] rfl (by decide) [5, 0, 1, 2, 3, 4] rfl (by decide) ?_
      exact (c181_114 h25 H25 l0 l1 l2 l4 s0 l2 M pl0)
def f181_77 (h25 : Nat → Int32 → Int32 → Int32 → Int32 → JM → Option (Int32 × JM)) (l0 : Nat) (l1 : Int32) (l2 : Int32) (l3 : Int32) (l4 : Int32) (M : JM) : Option (Int32 × JM) := (f181_82 h25 l0 l1 l2 l3 l4 (1 : Int32) M)
set_option maxRecDepth 100000 in
theorem c181_77 {xs : Option (List Int32)} (h25 : Nat → Int32 → Int32 → Int32 → Int32 → JM → Option (Int32 × JM)) (H25 : ∀ (l0 : Nat) (l1 : Int32) (l2 : Int32) (l3 : Int32) (l4 : Int32) (M : JM) (pl0 : jok jE0 l0 7 = true), JG xs 5 181 (h25 l0 l1 l2 l3 l4 M) (fun x r => r = (some (.int x.1), (jE0, x.2))) (25, [(0, .ref l0), (1, .int l1), (2, .int l2), (3, .int l3), (4, .int l4)], [], (jE0, M))) : ∀ (l0 : Nat) (l1 : Int32) (l2 : Int32) (l3 : Int32) (l4 : Int32) (M : JM) (pl0 : jok jE0 l0 7 = true), JG xs 5 181 (f181_77 h25 l0 l1 l2 l3 l4 M) (fun x r => r = (some (.int x.1), (jE0, x.2))) (77, [(0, .ref l0), (1, .int l1), (2, .int l2), (3, .int l3), (4, .int l4)], [], (jE0, M)) := by
    intro l0 l1 l2 l3 l4 M pl0
    unfold f181_77
    refine g_pure (c' := (82, [(0, .ref l0), (1, .int l1), (2, .int l2), (3, .int l3), (4, .int l4)], [.int (1 : Int32)], (jE0, M))) 2 rfl ?_
    exact (c181_82 h25 H25 l0 l1 l2 l3 l4 (1 : Int32) M pl0)
def f181_25  : Nat → Nat → Int32 → Int32 → Int32 → Int32 → JM → Option (Int32 × JM)
  | 0, _, _, _, _, _, _ => none
  | n + 1, l0, l1, l2, l3, l4, M => (if l4 < (M l0 13) then ((jla (jpt l0 23) l4 M).bind fun v5 => (if v5 = (0 : Int32) then (f181_127 (f181_25 n) l0 l1 l2 l3 l4 M) else ((jla (jpt l0 15) l4 M).bind fun v7 => ((jla (jpt l0 0) (l1 + (3 : Int32)) M).bind fun v8 => (if v8 < v7 then (if l2 = (-1 : Int32) then (f181_77 (f181_25 n) l0 l1 l2 l3 l4 M) else ((f147 M l0 l4 l2).bind fun v16 => (if v16 = (0 : Int32) then (f181_82 (f181_25 n) l0 l1 l2 l3 l4 (0 : Int32) M) else (f181_77 (f181_25 n) l0 l1 l2 l3 l4 M)))) else (f181_127 (f181_25 n) l0 l1 l2 l3 l4 M)))))) else (if l3 = (-1 : Int32) then (some ((-1 : Int32), M)) else ((jla (jpt l0 15) l3 M).bind fun v19 => (some (v19, M)))))
set_option maxRecDepth 100000 in
theorem c181_25 {xs : Option (List Int32)} : ∀ (n : Nat) (l0 : Nat) (l1 : Int32) (l2 : Int32) (l3 : Int32) (l4 : Int32) (M : JM) (pl0 : jok jE0 l0 7 = true), JG xs 5 181 (f181_25 n l0 l1 l2 l3 l4 M) (fun x r => r = (some (.int x.1), (jE0, x.2))) (25, [(0, .ref l0), (1, .int l1), (2, .int l2), (3, .int l3), (4, .int l4)], [], (jE0, M))
  | 0, _, _, _, _, _, _, _ => by rw [f181_25]; exact g_none
  | n + 1, l0, l1, l2, l3, l4, M, pl0 => by
    rw [f181_25]
    refine g_pure (c' := (28, [(0, .ref l0), (1, .int l1), (2, .int l2), (3, .int l3), (4, .int l4)], [.ref l0, .int l4], (jE0, M))) 2 rfl ?_
    refine g_gf (ci := 7) (k := 13) rfl rfl rfl pl0 ?_
    refine g_ic_ge (tgt := 133) rfl rfl (fun q4 => ?_) (fun q4 => ?_)
    · refine g_pure (c' := (35, [(0, .ref l0), (1, .int l1), (2, .int l2), (3, .int l3), (4, .int l4)], [.ref l0], (jE0, M))) 1 rfl ?_
      refine g_gp rfl rfl rfl pl0 (jp_ok (kd := 9) pl0 (by decide) (by decide) rfl rfl).1 ?_
      refine g_pure (c' := (40, [(0, .ref l0), (1, .int l1), (2, .int l2), (3, .int l3), (4, .int l4)], [.int l4, .ref (jpt l0 23)], (jE0, M))) 1 rfl ?_
      refine g_ba rfl (jk_ok (kd := 9) pl0 (by decide) (by decide) rfl rfl) (fun v5 => ?_)
      refine g_if_eq (tgt := 127) rfl rfl (fun q6 => ?_) (fun q6 => ?_)
      · exact (c181_127 (f181_25 n) (c181_25 n) l0 l1 l2 l3 l4 M pl0)
      · refine g_pure (c' := (45, [(0, .ref l0), (1, .int l1), (2, .int l2), (3, .int l3), (4, .int l4)], [.ref l0], (jE0, M))) 1 rfl ?_
        refine g_gp rfl rfl rfl pl0 (jp_ok (kd := 8) pl0 (by decide) (by decide) rfl rfl).1 ?_
        refine g_pure (c' := (50, [(0, .ref l0), (1, .int l1), (2, .int l2), (3, .int l3), (4, .int l4)], [.int l4, .ref (jpt l0 15)], (jE0, M))) 1 rfl ?_
        refine g_ia rfl (jk_ok (kd := 8) pl0 (by decide) (by decide) rfl rfl) (fun v7 => ?_)
        refine g_pure (c' := (52, [(0, .ref l0), (1, .int l1), (2, .int l2), (3, .int l3), (4, .int l4)], [.ref l0, .int v7], (jE0, M))) 1 rfl ?_
        refine g_gp rfl rfl rfl pl0 (jp_ok (kd := 8) pl0 (by decide) (by decide) rfl rfl).1 ?_
        refine g_pure (c' := (58, [(0, .ref l0), (1, .int l1), (2, .int l2), (3, .int l3), (4, .int l4)], [.int (l1 + (3 : Int32)), .ref (jpt l0 0), .int v7], (jE0, M))) 3 rfl ?_
        refine g_ia rfl (jk_ok (kd := 8) pl0 (by decide) (by decide) rfl rfl) (fun v8 => ?_)
        refine g_ic_le (tgt := 127) rfl rfl (fun q9 => ?_) (fun q9 => ?_)
        · refine g_pure (c' := (64, [(0, .ref l0), (1, .int l1), (2, .int l2), (3, .int l3), (4, .int l4)], [.int (-1 : Int32), .int l2], (jE0, M))) 2 rfl ?_
          refine g_ic_eq (tgt := 77) rfl rfl (fun q10 => ?_) (fun q10 => ?_)
          · exact (c181_77 (f181_25 n) (c181_25 n) l0 l1 l2 l3 l4 M pl0)
          · refine g_pure (c' := (71, [(0, .ref l0), (1, .int l1), (2, .int l2), (3, .int l3), (4, .int l4)], [.int l2, .int l4, .ref l0], (jE0, M))) 3 rfl ?_
            refine g_cI rfl (jc_v rfl rfl (jv_o pl0 rfl) rfl) (c147 l0 l4 l2 pl0) (by decide) (fun v16 qv16 => ?_)
            refine g_if_eq (tgt := 81) rfl rfl (fun q17 => ?_) (fun q17 => ?_)
            · refine g_pure (c' := (82, [(0, .ref l0), (1, .int l1), (2, .int l2), (3, .int l3), (4, .int l4)], [.int (0 : Int32)], (jE0, M))) 1 rfl ?_
              exact (c181_82 (f181_25 n) (c181_25 n) l0 l1 l2 l3 l4 (0 : Int32) M pl0)
            · exact (c181_77 (f181_25 n) (c181_25 n) l0 l1 l2 l3 l4 M pl0)
        · exact (c181_127 (f181_25 n) (c181_25 n) l0 l1 l2 l3 l4 M pl0)
    · refine g_pure (c' := (135, [(0, .ref l0), (1, .int l1), (2, .int l2), (3, .int l3), (4, .int l4)], [.int (-1 : Int32), .int l3], (jE0, M))) 2 rfl ?_
      refine g_ic_ne (tgt := 142) rfl rfl (fun q18 => ?_) (fun q18 => ?_)
      · refine g_pure (c' := (148, [(0, .ref l0), (1, .int l1), (2, .int l2), (3, .int l3), (4, .int l4)], [.int (-1 : Int32)], (jE0, M))) 2 rfl ?_
        exact g_ret rfl rfl (fun _ h => h)
      · refine g_pure (c' := (143, [(0, .ref l0), (1, .int l1), (2, .int l2), (3, .int l3), (4, .int l4)], [.ref l0], (jE0, M))) 1 rfl ?_
        refine g_gp rfl rfl rfl pl0 (jp_ok (kd := 8) pl0 (by decide) (by decide) rfl rfl).1 ?_
        refine g_pure (c' := (147, [(0, .ref l0), (1, .int l1), (2, .int l2), (3, .int l3), (4, .int l4)], [.int l3, .ref (jpt l0 15)], (jE0, M))) 1 rfl ?_
        refine g_ia rfl (jk_ok (kd := 8) pl0 (by decide) (by decide) rfl rfl) (fun v19 => ?_)
        exact g_ret rfl rfl (fun _ h => h)
/-- CometKinModel.dueOf -/
def f181  (l0 : Nat) (l1 : Int32) (M : JM) : Option (Int32 × JM) := ((jla (jpt l0 0) l1 M).bind fun v1 => ((jla (jpt l0 0) (l1 + (1 : Int32)) M).bind fun v2 => ((f153 l0 v1 v2 M).bind fun M3 => (f181_25 1000 l0 l1 (-1 : Int32) (-1 : Int32) (0 : Int32) M3))))
set_option maxRecDepth 100000 in
theorem c181 {xs : Option (List Int32)} (l0 : Nat) (l1 : Int32) (M : JM) (pl0 : jok jE0 l0 7 = true) : JG xs 5 181 (f181 l0 l1 M) (fun x r => r = (some (.int x.1), (jE0, x.2))) (0, [(0, .ref l0), (1, .int l1)], [], (jE0, M)) := by
    unfold f181
    refine g_pure (c' := (2, [(0, .ref l0), (1, .int l1)], [.ref l0, .ref l0], (jE0, M))) 2 rfl ?_
    refine g_gp rfl rfl rfl pl0 (jp_ok (kd := 8) pl0 (by decide) (by decide) rfl rfl).1 ?_
    refine g_pure (c' := (6, [(0, .ref l0), (1, .int l1)], [.int l1, .ref (jpt l0 0), .ref l0], (jE0, M))) 1 rfl ?_
    refine g_ia rfl (jk_ok (kd := 8) pl0 (by decide) (by decide) rfl rfl) (fun v1 => ?_)
    refine g_pure (c' := (8, [(0, .ref l0), (1, .int l1)], [.ref l0, .int v1, .ref l0], (jE0, M))) 1 rfl ?_
    refine g_gp rfl rfl rfl pl0 (jp_ok (kd := 8) pl0 (by decide) (by decide) rfl rfl).1 ?_
    refine g_pure (c' := (14, [(0, .ref l0), (1, .int l1)], [.int (l1 + (1 : Int32)), .ref (jpt l0 0), .int v1, .ref l0], (jE0, M))) 3 rfl ?_
    refine g_ia rfl (jk_ok (kd := 8) pl0 (by decide) (by decide) rfl rfl) (fun v2 => ?_)
    refine g_wV rfl (jc_v rfl rfl (jv_o pl0 rfl) rfl) (c153 l0 v1 v2 M pl0) (by decide) (fun M3 => ?_)
    refine g_pure (c' := (25, [(4, .int (0 : Int32)), (3, .int (-1 : Int32)), (2, .int (-1 : Int32)), (0, .ref l0), (1, .int l1)], [], (jE0, M3))) 6 rfl ?_
    refine g_weakk (lv := [(0, .ref l0), (1, .int l1), (2, .int (-1 : Int32)), (3, .int (-1 : Int32)), (4, .int (0 : Int32))]) ⟨rfl, rfl, rfl, rfl, rfl, trivial⟩ [0, 1, 2, 3, 4] rfl (by decide) [4, 3, 2, 0, 1] rfl (by decide) ?_
    exact (c181_25 1000 l0 l1 (-1 : Int32) (-1 : Int32) (0 : Int32) M3 pl0)
/-- CometKinModel.debt -/
def f183  (l0 : Nat) (l1 : Int32) (l2 : Int32) (M : JM) : Option (Int32 × JM) := ((f182 M l0 l1).bind fun v1 => (if v1 = (0 : Int32) then (some ((-2 : Int32), M)) else ((f125 ((l2).toInt64) (0 : Int64) (3 : Int64)).bind fun v3 => (if v3 = (0 : Int32) then (if l2 = (4 : Int32) then ((f181 l0 ((21 : Int32) + ((5 : Int32) * l1)) M).bind fun z8 => (some (z8.1, z8.2))) else (if l2 = (5 : Int32) then ((jla (jpt l0 0) (((21 : Int32) + ((5 : Int32) * l1)) + (4 : Int32)) M).bind fun v10 => (some (v10, M))) else (some ((-3 : Int32), M)))) else ((jla (jpt l0 0) (((21 : Int32) + ((5 : Int32) * l1)) + l2) M).bind fun v11 => (some (v11, M)))))))
set_option maxRecDepth 100000 in
theorem c183 {xs : Option (List Int32)} (l0 : Nat) (l1 : Int32) (l2 : Int32) (M : JM) (pl0 : jok jE0 l0 7 = true) : JG xs 6 183 (f183 l0 l1 l2 M) (fun x r => r = (some (.int x.1), (jE0, x.2))) (0, [(0, .ref l0), (1, .int l1), (2, .int l2)], [], (jE0, M)) := by
    unfold f183
    refine g_pure (c' := (2, [(0, .ref l0), (1, .int l1), (2, .int l2)], [.int l1, .ref l0], (jE0, M))) 2 rfl ?_
    refine g_cI rfl (jc_v rfl rfl (jv_o pl0 rfl) rfl) (c182 l0 l1 pl0) (by decide) (fun v1 qv1 => ?_)
    refine g_if_ne (tgt := 11) rfl rfl (fun q2 => ?_) (fun q2 => ?_)
    · refine g_pure (c' := (10, [(0, .ref l0), (1, .int l1), (2, .int l2)], [.int (-2 : Int32)], (jE0, M))) 1 rfl ?_
      exact g_ret rfl rfl (fun _ h => h)
    · refine g_pure (c' := (24, [(3, .int ((21 : Int32) + ((5 : Int32) * l1))), (0, .ref l0), (1, .int l1), (2, .int l2)], [.long (3 : Int64), .long (0 : Int64), .long ((l2).toInt64)], (jE0, M))) 10 rfl ?_
      refine g_cI rfl (jc_s rfl rfl) (c125 ((l2).toInt64) (0 : Int64) (3 : Int64)) (by decide) (fun v3 qv3 => ?_)
      refine g_if_eq (tgt := 41) rfl rfl (fun q4 => ?_) (fun q4 => ?_)
      · refine g_pure (c' := (43, [(3, .int ((21 : Int32) + ((5 : Int32) * l1))), (0, .ref l0), (1, .int l1), (2, .int l2)], [.int (4 : Int32), .int l2], (jE0, M))) 2 rfl ?_
        refine g_ic_ne (tgt := 54) rfl rfl (fun q5 => ?_) (fun q5 => ?_)
        · refine g_pure (c' := (48, [(3, .int ((21 : Int32) + ((5 : Int32) * l1))), (0, .ref l0), (1, .int l1), (2, .int l2)], [.int ((21 : Int32) + ((5 : Int32) * l1)), .ref l0], (jE0, M))) 2 rfl ?_
          refine g_wI rfl (jc_v rfl rfl (jv_o pl0 rfl) rfl) (c181 l0 ((21 : Int32) + ((5 : Int32) * l1)) M pl0) (by decide) (fun v7 M6 qv7 => ?_)
          refine g_pure (c' := (72, [(3, .int ((21 : Int32) + ((5 : Int32) * l1))), (0, .ref l0), (1, .int l1), (2, .int l2)], [.int v7], (jE0, M6))) 1 rfl ?_
          exact g_ret rfl rfl (fun _ h => h)
        · refine g_pure (c' := (56, [(3, .int ((21 : Int32) + ((5 : Int32) * l1))), (0, .ref l0), (1, .int l1), (2, .int l2)], [.int (5 : Int32), .int l2], (jE0, M))) 2 rfl ?_
          refine g_ic_ne (tgt := 70) rfl rfl (fun q9 => ?_) (fun q9 => ?_)
          · refine g_pure (c' := (60, [(3, .int ((21 : Int32) + ((5 : Int32) * l1))), (0, .ref l0), (1, .int l1), (2, .int l2)], [.ref l0], (jE0, M))) 1 rfl ?_
            refine g_gp rfl rfl rfl pl0 (jp_ok (kd := 8) pl0 (by decide) (by decide) rfl rfl).1 ?_
            refine g_pure (c' := (66, [(3, .int ((21 : Int32) + ((5 : Int32) * l1))), (0, .ref l0), (1, .int l1), (2, .int l2)], [.int (((21 : Int32) + ((5 : Int32) * l1)) + (4 : Int32)), .ref (jpt l0 0)], (jE0, M))) 3 rfl ?_
            refine g_ia rfl (jk_ok (kd := 8) pl0 (by decide) (by decide) rfl rfl) (fun v10 => ?_)
            refine g_pure (c' := (72, [(3, .int ((21 : Int32) + ((5 : Int32) * l1))), (0, .ref l0), (1, .int l1), (2, .int l2)], [.int v10], (jE0, M))) 1 rfl ?_
            exact g_ret rfl rfl (fun _ h => h)
          · refine g_pure (c' := (72, [(3, .int ((21 : Int32) + ((5 : Int32) * l1))), (0, .ref l0), (1, .int l1), (2, .int l2)], [.int (-3 : Int32)], (jE0, M))) 1 rfl ?_
            exact g_ret rfl rfl (fun _ h => h)
      · refine g_pure (c' := (31, [(3, .int ((21 : Int32) + ((5 : Int32) * l1))), (0, .ref l0), (1, .int l1), (2, .int l2)], [.ref l0], (jE0, M))) 1 rfl ?_
        refine g_gp rfl rfl rfl pl0 (jp_ok (kd := 8) pl0 (by decide) (by decide) rfl rfl).1 ?_
        refine g_pure (c' := (37, [(3, .int ((21 : Int32) + ((5 : Int32) * l1))), (0, .ref l0), (1, .int l1), (2, .int l2)], [.int (((21 : Int32) + ((5 : Int32) * l1)) + l2), .ref (jpt l0 0)], (jE0, M))) 3 rfl ?_
        refine g_ia rfl (jk_ok (kd := 8) pl0 (by decide) (by decide) rfl rfl) (fun v11 => ?_)
        refine g_pure (c' := (72, [(3, .int ((21 : Int32) + ((5 : Int32) * l1))), (0, .ref l0), (1, .int l1), (2, .int l2)], [.int v11], (jE0, M))) 1 rfl ?_
        exact g_ret rfl rfl (fun _ h => h)
/-- CometKin.canBePaid -/
def f114 (M : JM) (l0 : Nat) (l1 : Int32) : Option Int32 := ((f113 M l0 l1).bind fun v1 => ((f42 M (jpt (jpt l0 3) 6) l1).bind fun v2 => ((f101 (M (jpt l0 3) 3) l1).bind fun v3 => (if v3 = (0 : Int32) then (if v1 = (-1 : Int32) then (some (0 : Int32)) else (if (M (jpt l0 3) 0) < v1 then (some (0 : Int32)) else ((f42 M (jpt (jpt l0 3) 7) l1).bind fun v7 => ((f106 M l0 v2 v7).bind fun v8 => (if v8 = (0 : Int32) then (some (0 : Int32)) else ((f42 M (jpt (jpt l0 3) 5) v2).bind fun v10 => ((f42 M (jpt (jpt l0 3) 8) l1).bind fun v11 => (if v10 < v11 then (some (0 : Int32)) else (some (1 : Int32)))))))))) else (some (0 : Int32))))))
set_option maxRecDepth 100000 in
theorem c114 {xs : Option (List Int32)} {M : JM} (l0 : Nat) (l1 : Int32) (pl0 : jok jE0 l0 6 = true) : JG xs 3 114 (f114 M l0 l1) (fun x r => r = (some (.int x), (jE0, M))) (0, [(0, .ref l0), (1, .int l1)], [], (jE0, M)) := by
    unfold f114
    refine g_pure (c' := (2, [(0, .ref l0), (1, .int l1)], [.int l1, .ref l0], (jE0, M))) 2 rfl ?_
    refine g_cI rfl (jc_v rfl rfl (jv_o pl0 rfl) rfl) (c113 l0 l1 pl0) (by decide) (fun v1 qv1 => ?_)
    refine g_pure (c' := (7, [(2, .int v1), (0, .ref l0), (1, .int l1)], [.ref l0], (jE0, M))) 2 rfl ?_
    refine g_gp rfl rfl rfl pl0 (jp_ok (kd := 2) pl0 (by decide) (by decide) rfl rfl).1 ?_
    refine g_gp rfl rfl rfl (jk_ok (kd := 2) pl0 (by decide) (by decide) rfl rfl) (jp_ok (kd := 3) (jk_ok (kd := 2) pl0 (by decide) (by decide) rfl rfl) (by decide) (by decide) rfl rfl).1 ?_
    refine g_pure (c' := (14, [(2, .int v1), (0, .ref l0), (1, .int l1)], [.int l1, .ref (jpt (jpt l0 3) 6)], (jE0, M))) 1 rfl ?_
    refine g_cI rfl (jc_v rfl rfl (jv_o (jk_ok (kd := 3) (jk_ok (kd := 2) pl0 (by decide) (by decide) rfl rfl) (by decide) (by decide) rfl rfl) rfl) rfl) (c42 (jpt (jpt l0 3) 6) l1 (jk_ok (kd := 3) (jk_ok (kd := 2) pl0 (by decide) (by decide) rfl rfl) (by decide) (by decide) rfl rfl)) (by decide) (fun v2 qv2 => ?_)
    refine g_pure (c' := (19, [(3, .int v2), (2, .int v1), (0, .ref l0), (1, .int l1)], [.ref l0], (jE0, M))) 2 rfl ?_
    refine g_gp rfl rfl rfl pl0 (jp_ok (kd := 2) pl0 (by decide) (by decide) rfl rfl).1 ?_
    refine g_gf (ci := 2) (k := 3) rfl rfl rfl (jk_ok (kd := 2) pl0 (by decide) (by decide) rfl rfl) ?_
    refine g_pure (c' := (26, [(3, .int v2), (2, .int v1), (0, .ref l0), (1, .int l1)], [.int l1, .int (M (jpt l0 3) 3)], (jE0, M))) 1 rfl ?_
    refine g_cI rfl (jc_s rfl rfl) (c101 (M (jpt l0 3) 3) l1) (by decide) (fun v3 qv3 => ?_)
    refine g_if_ne (tgt := 96) rfl rfl (fun q4 => ?_) (fun q4 => ?_)
    · refine g_pure (c' := (34, [(3, .int v2), (2, .int v1), (0, .ref l0), (1, .int l1)], [.int (-1 : Int32), .int v1], (jE0, M))) 2 rfl ?_
      refine g_ic_eq (tgt := 96) rfl rfl (fun q5 => ?_) (fun q5 => ?_)
      · refine g_pure (c' := (97, [(3, .int v2), (2, .int v1), (0, .ref l0), (1, .int l1)], [.int (0 : Int32)], (jE0, M))) 1 rfl ?_
        exact g_ret rfl rfl (fun _ h => h)
      · refine g_pure (c' := (39, [(3, .int v2), (2, .int v1), (0, .ref l0), (1, .int l1)], [.ref l0, .int v1], (jE0, M))) 2 rfl ?_
        refine g_gp rfl rfl rfl pl0 (jp_ok (kd := 2) pl0 (by decide) (by decide) rfl rfl).1 ?_
        refine g_gf (ci := 2) (k := 0) rfl rfl rfl (jk_ok (kd := 2) pl0 (by decide) (by decide) rfl rfl) ?_
        refine g_ic_gt (tgt := 96) rfl rfl (fun q6 => ?_) (fun q6 => ?_)
        · refine g_pure (c' := (97, [(3, .int v2), (2, .int v1), (0, .ref l0), (1, .int l1)], [.int (0 : Int32)], (jE0, M))) 1 rfl ?_
          exact g_ret rfl rfl (fun _ h => h)
        · refine g_pure (c' := (51, [(3, .int v2), (2, .int v1), (0, .ref l0), (1, .int l1)], [.ref l0, .int v2, .ref l0], (jE0, M))) 3 rfl ?_
          refine g_gp rfl rfl rfl pl0 (jp_ok (kd := 2) pl0 (by decide) (by decide) rfl rfl).1 ?_
          refine g_gp rfl rfl rfl (jk_ok (kd := 2) pl0 (by decide) (by decide) rfl rfl) (jp_ok (kd := 3) (jk_ok (kd := 2) pl0 (by decide) (by decide) rfl rfl) (by decide) (by decide) rfl rfl).1 ?_
          refine g_pure (c' := (58, [(3, .int v2), (2, .int v1), (0, .ref l0), (1, .int l1)], [.int l1, .ref (jpt (jpt l0 3) 7), .int v2, .ref l0], (jE0, M))) 1 rfl ?_
          refine g_cI rfl (jc_v rfl rfl (jv_o (jk_ok (kd := 3) (jk_ok (kd := 2) pl0 (by decide) (by decide) rfl rfl) (by decide) (by decide) rfl rfl) rfl) rfl) (c42 (jpt (jpt l0 3) 7) l1 (jk_ok (kd := 3) (jk_ok (kd := 2) pl0 (by decide) (by decide) rfl rfl) (by decide) (by decide) rfl rfl)) (by decide) (fun v7 qv7 => ?_)
          refine g_cI rfl (jc_v rfl rfl (jv_o pl0 rfl) rfl) (c106 l0 v2 v7 pl0) (by decide) (fun v8 qv8 => ?_)
          refine g_if_eq (tgt := 96) rfl rfl (fun q9 => ?_) (fun q9 => ?_)
          · refine g_pure (c' := (97, [(3, .int v2), (2, .int v1), (0, .ref l0), (1, .int l1)], [.int (0 : Int32)], (jE0, M))) 1 rfl ?_
            exact g_ret rfl rfl (fun _ h => h)
          · refine g_pure (c' := (68, [(3, .int v2), (2, .int v1), (0, .ref l0), (1, .int l1)], [.ref l0], (jE0, M))) 1 rfl ?_
            refine g_gp rfl rfl rfl pl0 (jp_ok (kd := 2) pl0 (by decide) (by decide) rfl rfl).1 ?_
            refine g_gp rfl rfl rfl (jk_ok (kd := 2) pl0 (by decide) (by decide) rfl rfl) (jp_ok (kd := 3) (jk_ok (kd := 2) pl0 (by decide) (by decide) rfl rfl) (by decide) (by decide) rfl rfl).1 ?_
            refine g_pure (c' := (75, [(3, .int v2), (2, .int v1), (0, .ref l0), (1, .int l1)], [.int v2, .ref (jpt (jpt l0 3) 5)], (jE0, M))) 1 rfl ?_
            refine g_cI rfl (jc_v rfl rfl (jv_o (jk_ok (kd := 3) (jk_ok (kd := 2) pl0 (by decide) (by decide) rfl rfl) (by decide) (by decide) rfl rfl) rfl) rfl) (c42 (jpt (jpt l0 3) 5) v2 (jk_ok (kd := 3) (jk_ok (kd := 2) pl0 (by decide) (by decide) rfl rfl) (by decide) (by decide) rfl rfl)) (by decide) (fun v10 qv10 => ?_)
            refine g_pure (c' := (79, [(3, .int v2), (2, .int v1), (0, .ref l0), (1, .int l1)], [.ref l0, .int v10], (jE0, M))) 1 rfl ?_
            refine g_gp rfl rfl rfl pl0 (jp_ok (kd := 2) pl0 (by decide) (by decide) rfl rfl).1 ?_
            refine g_gp rfl rfl rfl (jk_ok (kd := 2) pl0 (by decide) (by decide) rfl rfl) (jp_ok (kd := 3) (jk_ok (kd := 2) pl0 (by decide) (by decide) rfl rfl) (by decide) (by decide) rfl rfl).1 ?_
            refine g_pure (c' := (86, [(3, .int v2), (2, .int v1), (0, .ref l0), (1, .int l1)], [.int l1, .ref (jpt (jpt l0 3) 8), .int v10], (jE0, M))) 1 rfl ?_
            refine g_cI rfl (jc_v rfl rfl (jv_o (jk_ok (kd := 3) (jk_ok (kd := 2) pl0 (by decide) (by decide) rfl rfl) (by decide) (by decide) rfl rfl) rfl) rfl) (c42 (jpt (jpt l0 3) 8) l1 (jk_ok (kd := 3) (jk_ok (kd := 2) pl0 (by decide) (by decide) rfl rfl) (by decide) (by decide) rfl rfl)) (by decide) (fun v11 qv11 => ?_)
            refine g_ic_lt (tgt := 96) rfl rfl (fun q12 => ?_) (fun q12 => ?_)
            · refine g_pure (c' := (97, [(3, .int v2), (2, .int v1), (0, .ref l0), (1, .int l1)], [.int (0 : Int32)], (jE0, M))) 1 rfl ?_
              exact g_ret rfl rfl (fun _ h => h)
            · refine g_pure (c' := (97, [(3, .int v2), (2, .int v1), (0, .ref l0), (1, .int l1)], [.int (1 : Int32)], (jE0, M))) 2 rfl ?_
              exact g_ret rfl rfl (fun _ h => h)
    · refine g_pure (c' := (97, [(3, .int v2), (2, .int v1), (0, .ref l0), (1, .int l1)], [.int (0 : Int32)], (jE0, M))) 1 rfl ?_
      exact g_ret rfl rfl (fun _ h => h)
/-- CometKin.pay -/
def f84  (l0 : Nat) (l1 : Int32) (M : JM) : Option (Int32 × JM) := ((f36 M (jpt l0 3) l1).bind fun v1 => (if v1 = (0 : Int32) then (some ((-2 : Int32), M)) else ((f114 M l0 l1).bind fun v3 => (if v3 = (0 : Int32) then (some ((-4 : Int32), M)) else ((f105 l0 M).bind fun M5 => ((f42 M5 (jpt (jpt l0 3) 6) l1).bind fun v6 => ((f100 l1).bind fun v7 => ((some (jup M5 (jpt l0 3) 3 ((M5 (jpt l0 3) 3) ||| v7))).bind fun M8 => ((f42 M8 (jpt (jpt l0 3) 8) l1).bind fun v9 => ((f38 (jpt l0 3) v6 (-v9) M8).bind fun M10 => ((f42 M10 (jpt (jpt l0 3) 7) l1).bind fun v11 => ((f42 M10 (jpt (jpt l0 3) 8) l1).bind fun v12 => ((f38 (jpt l0 3) v11 v12 M10).bind fun M13 => ((f42 M13 (jpt (jpt l0 3) 5) v6).bind fun v14 => (some (v14, M13))))))))))))))))
set_option maxRecDepth 100000 in
theorem c84 {xs : Option (List Int32)} (l0 : Nat) (l1 : Int32) (M : JM) (pl0 : jok jE0 l0 6 = true) : JG xs 5 84 (f84 l0 l1 M) (fun x r => r = (some (.int x.1), (jE0, x.2))) (0, [(0, .ref l0), (1, .int l1)], [], (jE0, M)) := by
    unfold f84
    refine g_pure (c' := (1, [(0, .ref l0), (1, .int l1)], [.ref l0], (jE0, M))) 1 rfl ?_
    refine g_gp rfl rfl rfl pl0 (jp_ok (kd := 2) pl0 (by decide) (by decide) rfl rfl).1 ?_
    refine g_pure (c' := (5, [(0, .ref l0), (1, .int l1)], [.int l1, .ref (jpt l0 3)], (jE0, M))) 1 rfl ?_
    refine g_cI rfl (jc_v rfl rfl (jv_o (jk_ok (kd := 2) pl0 (by decide) (by decide) rfl rfl) rfl) rfl) (c36 (jpt l0 3) l1 (jk_ok (kd := 2) pl0 (by decide) (by decide) rfl rfl)) (by decide) (fun v1 qv1 => ?_)
    refine g_if_ne (tgt := 14) rfl rfl (fun q2 => ?_) (fun q2 => ?_)
    · refine g_pure (c' := (13, [(0, .ref l0), (1, .int l1)], [.int (-2 : Int32)], (jE0, M))) 1 rfl ?_
      exact g_ret rfl rfl (fun _ h => h)
    · refine g_pure (c' := (16, [(0, .ref l0), (1, .int l1)], [.int l1, .ref l0], (jE0, M))) 2 rfl ?_
      refine g_cI rfl (jc_v rfl rfl (jv_o pl0 rfl) rfl) (c114 l0 l1 pl0) (by decide) (fun v3 qv3 => ?_)
      refine g_if_ne (tgt := 25) rfl rfl (fun q4 => ?_) (fun q4 => ?_)
      · refine g_pure (c' := (24, [(0, .ref l0), (1, .int l1)], [.int (-4 : Int32)], (jE0, M))) 1 rfl ?_
        exact g_ret rfl rfl (fun _ h => h)
      · refine g_pure (c' := (26, [(0, .ref l0), (1, .int l1)], [.ref l0], (jE0, M))) 1 rfl ?_
        refine g_wV rfl (jc_v rfl rfl (jv_o pl0 rfl) rfl) (c105 l0 M pl0) (by decide) (fun M5 => ?_)
        refine g_pure (c' := (30, [(0, .ref l0), (1, .int l1)], [.ref l0], (jE0, M5))) 1 rfl ?_
        refine g_gp rfl rfl rfl pl0 (jp_ok (kd := 2) pl0 (by decide) (by decide) rfl rfl).1 ?_
        refine g_gp rfl rfl rfl (jk_ok (kd := 2) pl0 (by decide) (by decide) rfl rfl) (jp_ok (kd := 3) (jk_ok (kd := 2) pl0 (by decide) (by decide) rfl rfl) (by decide) (by decide) rfl rfl).1 ?_
        refine g_pure (c' := (37, [(0, .ref l0), (1, .int l1)], [.int l1, .ref (jpt (jpt l0 3) 6)], (jE0, M5))) 1 rfl ?_
        refine g_cI rfl (jc_v rfl rfl (jv_o (jk_ok (kd := 3) (jk_ok (kd := 2) pl0 (by decide) (by decide) rfl rfl) (by decide) (by decide) rfl rfl) rfl) rfl) (c42 (jpt (jpt l0 3) 6) l1 (jk_ok (kd := 3) (jk_ok (kd := 2) pl0 (by decide) (by decide) rfl rfl) (by decide) (by decide) rfl rfl)) (by decide) (fun v6 qv6 => ?_)
        refine g_pure (c' := (42, [(2, .int v6), (0, .ref l0), (1, .int l1)], [.ref l0], (jE0, M5))) 2 rfl ?_
        refine g_gp rfl rfl rfl pl0 (jp_ok (kd := 2) pl0 (by decide) (by decide) rfl rfl).1 ?_
        refine g_pure (c' := (46, [(2, .int v6), (0, .ref l0), (1, .int l1)], [.ref (jpt l0 3), .ref (jpt l0 3)], (jE0, M5))) 1 rfl ?_
        refine g_gf (ci := 2) (k := 3) rfl rfl rfl (jk_ok (kd := 2) pl0 (by decide) (by decide) rfl rfl) ?_
        refine g_pure (c' := (50, [(2, .int v6), (0, .ref l0), (1, .int l1)], [.int l1, .int (M5 (jpt l0 3) 3), .ref (jpt l0 3)], (jE0, M5))) 1 rfl ?_
        refine g_cI rfl (jc_s rfl rfl) (c100 l1) (by decide) (fun v7 qv7 => ?_)
        refine g_pure (c' := (54, [(2, .int v6), (0, .ref l0), (1, .int l1)], [.int ((M5 (jpt l0 3) 3) ||| v7), .ref (jpt l0 3)], (jE0, M5))) 1 rfl ?_
        refine g_pf (ci := 2) (k := 3) rfl rfl rfl rfl (jk_ok (kd := 2) pl0 (by decide) (by decide) rfl rfl) (fun M8 => ?_)
        refine g_pure (c' := (58, [(2, .int v6), (0, .ref l0), (1, .int l1)], [.ref l0], (jE0, M8))) 1 rfl ?_
        refine g_gp rfl rfl rfl pl0 (jp_ok (kd := 2) pl0 (by decide) (by decide) rfl rfl).1 ?_
        refine g_pure (c' := (63, [(2, .int v6), (0, .ref l0), (1, .int l1)], [.ref l0, .int v6, .ref (jpt l0 3)], (jE0, M8))) 2 rfl ?_
        refine g_gp rfl rfl rfl pl0 (jp_ok (kd := 2) pl0 (by decide) (by decide) rfl rfl).1 ?_
        refine g_gp rfl rfl rfl (jk_ok (kd := 2) pl0 (by decide) (by decide) rfl rfl) (jp_ok (kd := 3) (jk_ok (kd := 2) pl0 (by decide) (by decide) rfl rfl) (by decide) (by decide) rfl rfl).1 ?_
        refine g_pure (c' := (70, [(2, .int v6), (0, .ref l0), (1, .int l1)], [.int l1, .ref (jpt (jpt l0 3) 8), .int v6, .ref (jpt l0 3)], (jE0, M8))) 1 rfl ?_
        refine g_cI rfl (jc_v rfl rfl (jv_o (jk_ok (kd := 3) (jk_ok (kd := 2) pl0 (by decide) (by decide) rfl rfl) (by decide) (by decide) rfl rfl) rfl) rfl) (c42 (jpt (jpt l0 3) 8) l1 (jk_ok (kd := 3) (jk_ok (kd := 2) pl0 (by decide) (by decide) rfl rfl) (by decide) (by decide) rfl rfl)) (by decide) (fun v9 qv9 => ?_)
        refine g_pure (c' := (74, [(2, .int v6), (0, .ref l0), (1, .int l1)], [.int (-v9), .int v6, .ref (jpt l0 3)], (jE0, M8))) 1 rfl ?_
        refine g_wV rfl (jc_v rfl rfl (jv_o (jk_ok (kd := 2) pl0 (by decide) (by decide) rfl rfl) rfl) rfl) (c38 (jpt l0 3) v6 (-v9) M8 (jk_ok (kd := 2) pl0 (by decide) (by decide) rfl rfl)) (by decide) (fun M10 => ?_)
        refine g_pure (c' := (78, [(2, .int v6), (0, .ref l0), (1, .int l1)], [.ref l0], (jE0, M10))) 1 rfl ?_
        refine g_gp rfl rfl rfl pl0 (jp_ok (kd := 2) pl0 (by decide) (by decide) rfl rfl).1 ?_
        refine g_pure (c' := (82, [(2, .int v6), (0, .ref l0), (1, .int l1)], [.ref l0, .ref (jpt l0 3)], (jE0, M10))) 1 rfl ?_
        refine g_gp rfl rfl rfl pl0 (jp_ok (kd := 2) pl0 (by decide) (by decide) rfl rfl).1 ?_
        refine g_gp rfl rfl rfl (jk_ok (kd := 2) pl0 (by decide) (by decide) rfl rfl) (jp_ok (kd := 3) (jk_ok (kd := 2) pl0 (by decide) (by decide) rfl rfl) (by decide) (by decide) rfl rfl).1 ?_
        refine g_pure (c' := (89, [(2, .int v6), (0, .ref l0), (1, .int l1)], [.int l1, .ref (jpt (jpt l0 3) 7), .ref (jpt l0 3)], (jE0, M10))) 1 rfl ?_
        refine g_cI rfl (jc_v rfl rfl (jv_o (jk_ok (kd := 3) (jk_ok (kd := 2) pl0 (by decide) (by decide) rfl rfl) (by decide) (by decide) rfl rfl) rfl) rfl) (c42 (jpt (jpt l0 3) 7) l1 (jk_ok (kd := 3) (jk_ok (kd := 2) pl0 (by decide) (by decide) rfl rfl) (by decide) (by decide) rfl rfl)) (by decide) (fun v11 qv11 => ?_)
        refine g_pure (c' := (93, [(2, .int v6), (0, .ref l0), (1, .int l1)], [.ref l0, .int v11, .ref (jpt l0 3)], (jE0, M10))) 1 rfl ?_
        refine g_gp rfl rfl rfl pl0 (jp_ok (kd := 2) pl0 (by decide) (by decide) rfl rfl).1 ?_
        refine g_gp rfl rfl rfl (jk_ok (kd := 2) pl0 (by decide) (by decide) rfl rfl) (jp_ok (kd := 3) (jk_ok (kd := 2) pl0 (by decide) (by decide) rfl rfl) (by decide) (by decide) rfl rfl).1 ?_
        refine g_pure (c' := (100, [(2, .int v6), (0, .ref l0), (1, .int l1)], [.int l1, .ref (jpt (jpt l0 3) 8), .int v11, .ref (jpt l0 3)], (jE0, M10))) 1 rfl ?_
        refine g_cI rfl (jc_v rfl rfl (jv_o (jk_ok (kd := 3) (jk_ok (kd := 2) pl0 (by decide) (by decide) rfl rfl) (by decide) (by decide) rfl rfl) rfl) rfl) (c42 (jpt (jpt l0 3) 8) l1 (jk_ok (kd := 3) (jk_ok (kd := 2) pl0 (by decide) (by decide) rfl rfl) (by decide) (by decide) rfl rfl)) (by decide) (fun v12 qv12 => ?_)
        refine g_wV rfl (jc_v rfl rfl (jv_o (jk_ok (kd := 2) pl0 (by decide) (by decide) rfl rfl) rfl) rfl) (c38 (jpt l0 3) v11 v12 M10 (jk_ok (kd := 2) pl0 (by decide) (by decide) rfl rfl)) (by decide) (fun M13 => ?_)
        refine g_pure (c' := (107, [(2, .int v6), (0, .ref l0), (1, .int l1)], [.ref l0], (jE0, M13))) 1 rfl ?_
        refine g_gp rfl rfl rfl pl0 (jp_ok (kd := 2) pl0 (by decide) (by decide) rfl rfl).1 ?_
        refine g_gp rfl rfl rfl (jk_ok (kd := 2) pl0 (by decide) (by decide) rfl rfl) (jp_ok (kd := 3) (jk_ok (kd := 2) pl0 (by decide) (by decide) rfl rfl) (by decide) (by decide) rfl rfl).1 ?_
        refine g_pure (c' := (114, [(2, .int v6), (0, .ref l0), (1, .int l1)], [.int v6, .ref (jpt (jpt l0 3) 5)], (jE0, M13))) 1 rfl ?_
        refine g_cI rfl (jc_v rfl rfl (jv_o (jk_ok (kd := 3) (jk_ok (kd := 2) pl0 (by decide) (by decide) rfl rfl) (by decide) (by decide) rfl rfl) rfl) rfl) (c42 (jpt (jpt l0 3) 5) v6 (jk_ok (kd := 3) (jk_ok (kd := 2) pl0 (by decide) (by decide) rfl rfl) (by decide) (by decide) rfl rfl)) (by decide) (fun v14 qv14 => ?_)
        exact g_ret rfl rfl (fun _ h => h)
/-- CometKinModel.pay -/
def f184  (l0 : Nat) (l1 : Int32) (M : JM) : Option (Int32 × JM) := ((f182 M l0 l1).bind fun v1 => (if v1 = (0 : Int32) then (some ((-2 : Int32), M)) else ((f181 l0 ((21 : Int32) + ((5 : Int32) * l1)) M).bind fun z24 => ((jla (jpt l0 0) ((21 : Int32) + ((5 : Int32) * l1)) z24.2).bind fun v5 => ((jla (jpt l0 0) (((21 : Int32) + ((5 : Int32) * l1)) + (1 : Int32)) z24.2).bind fun v6 => ((jla (jpt l0 0) (((21 : Int32) + ((5 : Int32) * l1)) + (2 : Int32)) z24.2).bind fun v7 => ((jla (jpt l0 0) (((21 : Int32) + ((5 : Int32) * l1)) + (4 : Int32)) z24.2).bind fun v8 => (if v8 = (1 : Int32) then (some ((-4 : Int32), z24.2)) else (if z24.1 = (-1 : Int32) then (some ((-4 : Int32), z24.2)) else ((jla (jpt l0 0) (0 : Int32) z24.2).bind fun v11 => (if v11 < z24.1 then (some ((-4 : Int32), z24.2)) else ((f179 z24.2 l0 v5 v6).bind fun v13 => (if v13 = (0 : Int32) then (some ((-4 : Int32), z24.2)) else ((jla (jpt l0 0) ((1 : Int32) + v5) z24.2).bind fun v15 => (if v15 < v7 then (some ((-4 : Int32), z24.2)) else ((f170 l0 z24.2).bind fun M17 => ((jsa (jpt l0 0) (((21 : Int32) + ((5 : Int32) * l1)) + (4 : Int32)) (1 : Int32) M17).bind fun M18 => ((jla (jpt l0 0) ((1 : Int32) + v5) M18).bind fun v19 => ((jsa (jpt l0 0) ((1 : Int32) + v5) (v19 - v7) M18).bind fun M20 => ((jla (jpt l0 0) ((1 : Int32) + v6) M20).bind fun v21 => ((jsa (jpt l0 0) ((1 : Int32) + v6) (v21 + v7) M20).bind fun M22 => ((jla (jpt l0 0) ((1 : Int32) + v5) M22).bind fun v23 => (some (v23, M22))))))))))))))))))))))))
set_option maxRecDepth 100000 in
theorem c184 {xs : Option (List Int32)} (l0 : Nat) (l1 : Int32) (M : JM) (pl0 : jok jE0 l0 7 = true) : JG xs 6 184 (f184 l0 l1 M) (fun x r => r = (some (.int x.1), (jE0, x.2))) (0, [(0, .ref l0), (1, .int l1)], [], (jE0, M)) := by
    unfold f184
    refine g_pure (c' := (2, [(0, .ref l0), (1, .int l1)], [.int l1, .ref l0], (jE0, M))) 2 rfl ?_
    refine g_cI rfl (jc_v rfl rfl (jv_o pl0 rfl) rfl) (c182 l0 l1 pl0) (by decide) (fun v1 qv1 => ?_)
    refine g_if_ne (tgt := 11) rfl rfl (fun q2 => ?_) (fun q2 => ?_)
    · refine g_pure (c' := (10, [(0, .ref l0), (1, .int l1)], [.int (-2 : Int32)], (jE0, M))) 1 rfl ?_
      exact g_ret rfl rfl (fun _ h => h)
    · refine g_pure (c' := (20, [(2, .int ((21 : Int32) + ((5 : Int32) * l1))), (0, .ref l0), (1, .int l1)], [.int ((21 : Int32) + ((5 : Int32) * l1)), .ref l0], (jE0, M))) 8 rfl ?_
      refine g_wI rfl (jc_v rfl rfl (jv_o pl0 rfl) rfl) (c181 l0 ((21 : Int32) + ((5 : Int32) * l1)) M pl0) (by decide) (fun v4 M3 qv4 => ?_)
      refine g_pure (c' := (25, [(3, .int v4), (2, .int ((21 : Int32) + ((5 : Int32) * l1))), (0, .ref l0), (1, .int l1)], [.ref l0], (jE0, M3))) 2 rfl ?_
      refine g_gp rfl rfl rfl pl0 (jp_ok (kd := 8) pl0 (by decide) (by decide) rfl rfl).1 ?_
      refine g_pure (c' := (29, [(3, .int v4), (2, .int ((21 : Int32) + ((5 : Int32) * l1))), (0, .ref l0), (1, .int l1)], [.int ((21 : Int32) + ((5 : Int32) * l1)), .ref (jpt l0 0)], (jE0, M3))) 1 rfl ?_
      refine g_ia rfl (jk_ok (kd := 8) pl0 (by decide) (by decide) rfl rfl) (fun v5 => ?_)
      refine g_pure (c' := (33, [(4, .int v5), (3, .int v4), (2, .int ((21 : Int32) + ((5 : Int32) * l1))), (0, .ref l0), (1, .int l1)], [.ref l0], (jE0, M3))) 2 rfl ?_
      refine g_gp rfl rfl rfl pl0 (jp_ok (kd := 8) pl0 (by decide) (by decide) rfl rfl).1 ?_
      refine g_pure (c' := (39, [(4, .int v5), (3, .int v4), (2, .int ((21 : Int32) + ((5 : Int32) * l1))), (0, .ref l0), (1, .int l1)], [.int (((21 : Int32) + ((5 : Int32) * l1)) + (1 : Int32)), .ref (jpt l0 0)], (jE0, M3))) 3 rfl ?_
      refine g_ia rfl (jk_ok (kd := 8) pl0 (by decide) (by decide) rfl rfl) (fun v6 => ?_)
      refine g_pure (c' := (43, [(5, .int v6), (4, .int v5), (3, .int v4), (2, .int ((21 : Int32) + ((5 : Int32) * l1))), (0, .ref l0), (1, .int l1)], [.ref l0], (jE0, M3))) 2 rfl ?_
      refine g_gp rfl rfl rfl pl0 (jp_ok (kd := 8) pl0 (by decide) (by decide) rfl rfl).1 ?_
      refine g_pure (c' := (49, [(5, .int v6), (4, .int v5), (3, .int v4), (2, .int ((21 : Int32) + ((5 : Int32) * l1))), (0, .ref l0), (1, .int l1)], [.int (((21 : Int32) + ((5 : Int32) * l1)) + (2 : Int32)), .ref (jpt l0 0)], (jE0, M3))) 3 rfl ?_
      refine g_ia rfl (jk_ok (kd := 8) pl0 (by decide) (by decide) rfl rfl) (fun v7 => ?_)
      refine g_pure (c' := (53, [(6, .int v7), (5, .int v6), (4, .int v5), (3, .int v4), (2, .int ((21 : Int32) + ((5 : Int32) * l1))), (0, .ref l0), (1, .int l1)], [.ref l0], (jE0, M3))) 2 rfl ?_
      refine g_gp rfl rfl rfl pl0 (jp_ok (kd := 8) pl0 (by decide) (by decide) rfl rfl).1 ?_
      refine g_pure (c' := (59, [(6, .int v7), (5, .int v6), (4, .int v5), (3, .int v4), (2, .int ((21 : Int32) + ((5 : Int32) * l1))), (0, .ref l0), (1, .int l1)], [.int (((21 : Int32) + ((5 : Int32) * l1)) + (4 : Int32)), .ref (jpt l0 0)], (jE0, M3))) 3 rfl ?_
      refine g_ia rfl (jk_ok (kd := 8) pl0 (by decide) (by decide) rfl rfl) (fun v8 => ?_)
      refine g_pure (c' := (61, [(6, .int v7), (5, .int v6), (4, .int v5), (3, .int v4), (2, .int ((21 : Int32) + ((5 : Int32) * l1))), (0, .ref l0), (1, .int l1)], [.int (1 : Int32), .int v8], (jE0, M3))) 1 rfl ?_
      refine g_ic_eq (tgt := 104) rfl rfl (fun q9 => ?_) (fun q9 => ?_)
      · refine g_pure (c' := (106, [(6, .int v7), (5, .int v6), (4, .int v5), (3, .int v4), (2, .int ((21 : Int32) + ((5 : Int32) * l1))), (0, .ref l0), (1, .int l1)], [.int (-4 : Int32)], (jE0, M3))) 1 rfl ?_
        exact g_ret rfl rfl (fun _ h => h)
      · refine g_pure (c' := (66, [(6, .int v7), (5, .int v6), (4, .int v5), (3, .int v4), (2, .int ((21 : Int32) + ((5 : Int32) * l1))), (0, .ref l0), (1, .int l1)], [.int (-1 : Int32), .int v4], (jE0, M3))) 2 rfl ?_
        refine g_ic_eq (tgt := 104) rfl rfl (fun q10 => ?_) (fun q10 => ?_)
        · refine g_pure (c' := (106, [(6, .int v7), (5, .int v6), (4, .int v5), (3, .int v4), (2, .int ((21 : Int32) + ((5 : Int32) * l1))), (0, .ref l0), (1, .int l1)], [.int (-4 : Int32)], (jE0, M3))) 1 rfl ?_
          exact g_ret rfl rfl (fun _ h => h)
        · refine g_pure (c' := (71, [(6, .int v7), (5, .int v6), (4, .int v5), (3, .int v4), (2, .int ((21 : Int32) + ((5 : Int32) * l1))), (0, .ref l0), (1, .int l1)], [.ref l0, .int v4], (jE0, M3))) 2 rfl ?_
          refine g_gp rfl rfl rfl pl0 (jp_ok (kd := 8) pl0 (by decide) (by decide) rfl rfl).1 ?_
          refine g_pure (c' := (75, [(6, .int v7), (5, .int v6), (4, .int v5), (3, .int v4), (2, .int ((21 : Int32) + ((5 : Int32) * l1))), (0, .ref l0), (1, .int l1)], [.int (0 : Int32), .ref (jpt l0 0), .int v4], (jE0, M3))) 1 rfl ?_
          refine g_ia rfl (jk_ok (kd := 8) pl0 (by decide) (by decide) rfl rfl) (fun v11 => ?_)
          refine g_ic_gt (tgt := 104) rfl rfl (fun q12 => ?_) (fun q12 => ?_)
          · refine g_pure (c' := (106, [(6, .int v7), (5, .int v6), (4, .int v5), (3, .int v4), (2, .int ((21 : Int32) + ((5 : Int32) * l1))), (0, .ref l0), (1, .int l1)], [.int (-4 : Int32)], (jE0, M3))) 1 rfl ?_
            exact g_ret rfl rfl (fun _ h => h)
          · refine g_pure (c' := (84, [(6, .int v7), (5, .int v6), (4, .int v5), (3, .int v4), (2, .int ((21 : Int32) + ((5 : Int32) * l1))), (0, .ref l0), (1, .int l1)], [.int v6, .int v5, .ref l0], (jE0, M3))) 3 rfl ?_
            refine g_cI rfl (jc_v rfl rfl (jv_o pl0 rfl) rfl) (c179 l0 v5 v6 pl0) (by decide) (fun v13 qv13 => ?_)
            refine g_if_eq (tgt := 104) rfl rfl (fun q14 => ?_) (fun q14 => ?_)
            · refine g_pure (c' := (106, [(6, .int v7), (5, .int v6), (4, .int v5), (3, .int v4), (2, .int ((21 : Int32) + ((5 : Int32) * l1))), (0, .ref l0), (1, .int l1)], [.int (-4 : Int32)], (jE0, M3))) 1 rfl ?_
              exact g_ret rfl rfl (fun _ h => h)
            · refine g_pure (c' := (91, [(6, .int v7), (5, .int v6), (4, .int v5), (3, .int v4), (2, .int ((21 : Int32) + ((5 : Int32) * l1))), (0, .ref l0), (1, .int l1)], [.ref l0], (jE0, M3))) 1 rfl ?_
              refine g_gp rfl rfl rfl pl0 (jp_ok (kd := 8) pl0 (by decide) (by decide) rfl rfl).1 ?_
              refine g_pure (c' := (98, [(6, .int v7), (5, .int v6), (4, .int v5), (3, .int v4), (2, .int ((21 : Int32) + ((5 : Int32) * l1))), (0, .ref l0), (1, .int l1)], [.int ((1 : Int32) + v5), .ref (jpt l0 0)], (jE0, M3))) 3 rfl ?_
              refine g_ia rfl (jk_ok (kd := 8) pl0 (by decide) (by decide) rfl rfl) (fun v15 => ?_)
              refine g_pure (c' := (101, [(6, .int v7), (5, .int v6), (4, .int v5), (3, .int v4), (2, .int ((21 : Int32) + ((5 : Int32) * l1))), (0, .ref l0), (1, .int l1)], [.int v7, .int v15], (jE0, M3))) 1 rfl ?_
              refine g_ic_ge (tgt := 107) rfl rfl (fun q16 => ?_) (fun q16 => ?_)
              · refine g_pure (c' := (106, [(6, .int v7), (5, .int v6), (4, .int v5), (3, .int v4), (2, .int ((21 : Int32) + ((5 : Int32) * l1))), (0, .ref l0), (1, .int l1)], [.int (-4 : Int32)], (jE0, M3))) 1 rfl ?_
                exact g_ret rfl rfl (fun _ h => h)
              · refine g_pure (c' := (108, [(6, .int v7), (5, .int v6), (4, .int v5), (3, .int v4), (2, .int ((21 : Int32) + ((5 : Int32) * l1))), (0, .ref l0), (1, .int l1)], [.ref l0], (jE0, M3))) 1 rfl ?_
                refine g_wV rfl (jc_v rfl rfl (jv_o pl0 rfl) rfl) (c170 l0 M3 pl0) (by decide) (fun M17 => ?_)
                refine g_pure (c' := (112, [(6, .int v7), (5, .int v6), (4, .int v5), (3, .int v4), (2, .int ((21 : Int32) + ((5 : Int32) * l1))), (0, .ref l0), (1, .int l1)], [.ref l0], (jE0, M17))) 1 rfl ?_
                refine g_gp rfl rfl rfl pl0 (jp_ok (kd := 8) pl0 (by decide) (by decide) rfl rfl).1 ?_
                refine g_pure (c' := (119, [(6, .int v7), (5, .int v6), (4, .int v5), (3, .int v4), (2, .int ((21 : Int32) + ((5 : Int32) * l1))), (0, .ref l0), (1, .int l1)], [.int (1 : Int32), .int (((21 : Int32) + ((5 : Int32) * l1)) + (4 : Int32)), .ref (jpt l0 0)], (jE0, M17))) 4 rfl ?_
                refine g_is rfl (jk_ok (kd := 8) pl0 (by decide) (by decide) rfl rfl) (fun M18 => ?_)
                refine g_pure (c' := (121, [(6, .int v7), (5, .int v6), (4, .int v5), (3, .int v4), (2, .int ((21 : Int32) + ((5 : Int32) * l1))), (0, .ref l0), (1, .int l1)], [.ref l0], (jE0, M18))) 1 rfl ?_
                refine g_gp rfl rfl rfl pl0 (jp_ok (kd := 8) pl0 (by decide) (by decide) rfl rfl).1 ?_
                refine g_pure (c' := (129, [(6, .int v7), (5, .int v6), (4, .int v5), (3, .int v4), (2, .int ((21 : Int32) + ((5 : Int32) * l1))), (0, .ref l0), (1, .int l1)], [.int ((1 : Int32) + v5), .ref (jpt l0 0), .int ((1 : Int32) + v5), .ref (jpt l0 0)], (jE0, M18))) 4 rfl ?_
                refine g_ia rfl (jk_ok (kd := 8) pl0 (by decide) (by decide) rfl rfl) (fun v19 => ?_)
                refine g_pure (c' := (133, [(6, .int v7), (5, .int v6), (4, .int v5), (3, .int v4), (2, .int ((21 : Int32) + ((5 : Int32) * l1))), (0, .ref l0), (1, .int l1)], [.int (v19 - v7), .int ((1 : Int32) + v5), .ref (jpt l0 0)], (jE0, M18))) 2 rfl ?_
                refine g_is rfl (jk_ok (kd := 8) pl0 (by decide) (by decide) rfl rfl) (fun M20 => ?_)
                refine g_pure (c' := (135, [(6, .int v7), (5, .int v6), (4, .int v5), (3, .int v4), (2, .int ((21 : Int32) + ((5 : Int32) * l1))), (0, .ref l0), (1, .int l1)], [.ref l0], (jE0, M20))) 1 rfl ?_
                refine g_gp rfl rfl rfl pl0 (jp_ok (kd := 8) pl0 (by decide) (by decide) rfl rfl).1 ?_
                refine g_pure (c' := (143, [(6, .int v7), (5, .int v6), (4, .int v5), (3, .int v4), (2, .int ((21 : Int32) + ((5 : Int32) * l1))), (0, .ref l0), (1, .int l1)], [.int ((1 : Int32) + v6), .ref (jpt l0 0), .int ((1 : Int32) + v6), .ref (jpt l0 0)], (jE0, M20))) 4 rfl ?_
                refine g_ia rfl (jk_ok (kd := 8) pl0 (by decide) (by decide) rfl rfl) (fun v21 => ?_)
                refine g_pure (c' := (147, [(6, .int v7), (5, .int v6), (4, .int v5), (3, .int v4), (2, .int ((21 : Int32) + ((5 : Int32) * l1))), (0, .ref l0), (1, .int l1)], [.int (v21 + v7), .int ((1 : Int32) + v6), .ref (jpt l0 0)], (jE0, M20))) 2 rfl ?_
                refine g_is rfl (jk_ok (kd := 8) pl0 (by decide) (by decide) rfl rfl) (fun M22 => ?_)
                refine g_pure (c' := (149, [(6, .int v7), (5, .int v6), (4, .int v5), (3, .int v4), (2, .int ((21 : Int32) + ((5 : Int32) * l1))), (0, .ref l0), (1, .int l1)], [.ref l0], (jE0, M22))) 1 rfl ?_
                refine g_gp rfl rfl rfl pl0 (jp_ok (kd := 8) pl0 (by decide) (by decide) rfl rfl).1 ?_
                refine g_pure (c' := (156, [(6, .int v7), (5, .int v6), (4, .int v5), (3, .int v4), (2, .int ((21 : Int32) + ((5 : Int32) * l1))), (0, .ref l0), (1, .int l1)], [.int ((1 : Int32) + v5), .ref (jpt l0 0)], (jE0, M22))) 3 rfl ?_
                refine g_ia rfl (jk_ok (kd := 8) pl0 (by decide) (by decide) rfl rfl) (fun v23 => ?_)
                exact g_ret rfl rfl (fun _ h => h)
/-- CometKin$Shelf.fetch -/
def f50  (l0 : Nat) (l1 : Int32) (l2 : Nat) (M : JM) : Option JM := ((f48 l0 l1).bind fun v1 => ((f35 l2 v1 M).bind fun M2 => (some M2)))
set_option maxRecDepth 100000 in
theorem c50 {xs : Option (List Int32)} (l0 : Nat) (l1 : Int32) (l2 : Nat) (M : JM) (pl0 : jok jE0 l0 4 = true) (pl2 : jok jE0 l2 2 = true) : JG xs 3 50 (f50 l0 l1 l2 M) (fun x r => r = (none, (jE0, x))) (0, [(0, .ref l0), (1, .int l1), (2, .ref l2)], [], (jE0, M)) := by
    unfold f50
    refine g_pure (c' := (2, [(0, .ref l0), (1, .int l1), (2, .ref l2)], [.int l1, .ref l0], (jE0, M))) 2 rfl ?_
    refine g_cR rfl (jc_v rfl rfl (jv_o pl0 rfl) rfl) (c48 l0 l1 pl0) (by decide) (fun v1 qv1 => ?_)
    refine g_pure (c' := (7, [(3, .ref v1), (0, .ref l0), (1, .int l1), (2, .ref l2)], [.ref v1], (jE0, M))) 2 rfl ?_
    refine g_nn rfl ?_
    refine g_pure (c' := (12, [(3, .ref v1), (0, .ref l0), (1, .int l1), (2, .ref l2)], [.ref v1, .ref l2], (jE0, M))) 2 rfl ?_
    refine g_wV rfl (jc_v rfl rfl (jv_o pl2 rfl) rfl) (c35 l2 v1 M pl2 (t48 pl0 qv1)) (by decide) (fun M2 => ?_)
    exact g_ret rfl rfl (fun _ h => h)
/-- CometKin.undo -/
def f85  (l0 : Nat) (M : JM) : Option (Int32 × JM) := (if (M l0 6) = (0 : Int32) then (some ((-4 : Int32), M)) else ((jir (((M l0 5) + (8 : Int32)) - (1 : Int32)) (8 : Int32)).bind fun v2 => ((some (jup M l0 5 v2)).bind fun M3 => ((f50 (jpt l0 4) (M3 l0 5) (jpt l0 3) M3).bind fun M4 => ((some (jup M4 l0 6 ((M4 l0 6) - (1 : Int32)))).bind fun M5 => (some ((M5 l0 6), M5)))))))
set_option maxRecDepth 100000 in
theorem c85 {xs : Option (List Int32)} (l0 : Nat) (M : JM) (pl0 : jok jE0 l0 6 = true) : JG xs 4 85 (f85 l0 M) (fun x r => r = (some (.int x.1), (jE0, x.2))) (0, [(0, .ref l0)], [], (jE0, M)) := by
    unfold f85
    refine g_pure (c' := (1, [(0, .ref l0)], [.ref l0], (jE0, M))) 1 rfl ?_
    refine g_gf (ci := 6) (k := 6) rfl rfl rfl pl0 ?_
    refine g_if_ne (tgt := 10) rfl rfl (fun q1 => ?_) (fun q1 => ?_)
    · refine g_pure (c' := (9, [(0, .ref l0)], [.int (-4 : Int32)], (jE0, M))) 1 rfl ?_
      exact g_ret rfl rfl (fun _ h => h)
    · refine g_pure (c' := (12, [(0, .ref l0)], [.ref l0, .ref l0], (jE0, M))) 2 rfl ?_
      refine g_gf (ci := 6) (k := 5) rfl rfl rfl pl0 ?_
      refine g_pure (c' := (22, [(0, .ref l0)], [.int (8 : Int32), .int (((M l0 5) + (8 : Int32)) - (1 : Int32)), .ref l0], (jE0, M))) 5 rfl ?_
      refine g_d2 rfl (fun v2 => ?_)
      refine g_pf (ci := 6) (k := 5) rfl rfl rfl rfl pl0 (fun M3 => ?_)
      refine g_pure (c' := (27, [(0, .ref l0)], [.ref l0], (jE0, M3))) 1 rfl ?_
      refine g_gp rfl rfl rfl pl0 (jp_ok (kd := 4) pl0 (by decide) (by decide) rfl rfl).1 ?_
      refine g_pure (c' := (31, [(0, .ref l0)], [.ref l0, .ref (jpt l0 4)], (jE0, M3))) 1 rfl ?_
      refine g_gf (ci := 6) (k := 5) rfl rfl rfl pl0 ?_
      refine g_pure (c' := (35, [(0, .ref l0)], [.ref l0, .int (M3 l0 5), .ref (jpt l0 4)], (jE0, M3))) 1 rfl ?_
      refine g_gp rfl rfl rfl pl0 (jp_ok (kd := 2) pl0 (by decide) (by decide) rfl rfl).1 ?_
      refine g_wV rfl (jc_v rfl rfl (jv_o (jk_ok (kd := 4) pl0 (by decide) (by decide) rfl rfl) rfl) rfl) (c50 (jpt l0 4) (M3 l0 5) (jpt l0 3) M3 (jk_ok (kd := 4) pl0 (by decide) (by decide) rfl rfl) (jk_ok (kd := 2) pl0 (by decide) (by decide) rfl rfl)) (by decide) (fun M4 => ?_)
      refine g_pure (c' := (43, [(0, .ref l0)], [.ref l0, .ref l0], (jE0, M4))) 2 rfl ?_
      refine g_gf (ci := 6) (k := 6) rfl rfl rfl pl0 ?_
      refine g_pure (c' := (48, [(0, .ref l0)], [.int ((M4 l0 6) - (1 : Int32)), .ref l0], (jE0, M4))) 2 rfl ?_
      refine g_pf (ci := 6) (k := 6) rfl rfl rfl rfl pl0 (fun M5 => ?_)
      refine g_pure (c' := (52, [(0, .ref l0)], [.ref l0], (jE0, M5))) 1 rfl ?_
      refine g_gf (ci := 6) (k := 6) rfl rfl rfl pl0 ?_
      exact g_ret rfl rfl (fun _ h => h)
/-- CometKinModel.undo -/
def f185  (l0 : Nat) (M : JM) : Option (Int32 × JM) := (if (M l0 1) = (0 : Int32) then (some ((-4 : Int32), M)) else ((some (jup M l0 1 ((M l0 1) - (1 : Int32)))).bind fun M2 => ((f169 l0 ((183 : Int32) + ((61 : Int32) * (M2 l0 1))) (0 : Int32) M2).bind fun M3 => (some ((M3 l0 1), M3)))))
set_option maxRecDepth 100000 in
theorem c185 {xs : Option (List Int32)} (l0 : Nat) (M : JM) (pl0 : jok jE0 l0 7 = true) : JG xs 1 185 (f185 l0 M) (fun x r => r = (some (.int x.1), (jE0, x.2))) (0, [(0, .ref l0)], [], (jE0, M)) := by
    unfold f185
    refine g_pure (c' := (1, [(0, .ref l0)], [.ref l0], (jE0, M))) 1 rfl ?_
    refine g_gf (ci := 7) (k := 1) rfl rfl rfl pl0 ?_
    refine g_if_ne (tgt := 10) rfl rfl (fun q1 => ?_) (fun q1 => ?_)
    · refine g_pure (c' := (9, [(0, .ref l0)], [.int (-4 : Int32)], (jE0, M))) 1 rfl ?_
      exact g_ret rfl rfl (fun _ h => h)
    · refine g_pure (c' := (12, [(0, .ref l0)], [.ref l0, .ref l0], (jE0, M))) 2 rfl ?_
      refine g_gf (ci := 7) (k := 1) rfl rfl rfl pl0 ?_
      refine g_pure (c' := (17, [(0, .ref l0)], [.int ((M l0 1) - (1 : Int32)), .ref l0], (jE0, M))) 2 rfl ?_
      refine g_pf (ci := 7) (k := 1) rfl rfl rfl rfl pl0 (fun M2 => ?_)
      refine g_pure (c' := (27, [(0, .ref l0)], [.ref l0, .int (61 : Int32), .int (183 : Int32), .ref l0], (jE0, M2))) 4 rfl ?_
      refine g_gf (ci := 7) (k := 1) rfl rfl rfl pl0 ?_
      refine g_pure (c' := (33, [(0, .ref l0)], [.int (0 : Int32), .int ((183 : Int32) + ((61 : Int32) * (M2 l0 1))), .ref l0], (jE0, M2))) 3 rfl ?_
      refine g_wV rfl (jc_v rfl rfl (jv_o pl0 rfl) rfl) (c169 l0 ((183 : Int32) + ((61 : Int32) * (M2 l0 1))) (0 : Int32) M2 pl0) (by decide) (fun M3 => ?_)
      refine g_pure (c' := (37, [(0, .ref l0)], [.ref l0], (jE0, M3))) 1 rfl ?_
      refine g_gf (ci := 7) (k := 1) rfl rfl rfl pl0 ?_
      exact g_ret rfl rfl (fun _ h => h)
/-- CometKin.keep -/
def f86  (l0 : Nat) (l1 : Int32) (M : JM) : Option (Int32 × JM) := (if l1 < (0 : Int32) then (some ((-2 : Int32), M)) else (if l1 < (2 : Int32) then ((f49 (jpt l0 7) l1 (jpt l0 3) M).bind fun M3 => ((f100 l1).bind fun v4 => ((some (jup M3 l0 8 ((M3 l0 8) ||| v4))).bind fun M5 => (some ((M5 (jpt l0 3) 0), M5))))) else (some ((-2 : Int32), M))))
set_option maxRecDepth 100000 in
theorem c86 {xs : Option (List Int32)} (l0 : Nat) (l1 : Int32) (M : JM) (pl0 : jok jE0 l0 6 = true) : JG xs 4 86 (f86 l0 l1 M) (fun x r => r = (some (.int x.1), (jE0, x.2))) (0, [(0, .ref l0), (1, .int l1)], [], (jE0, M)) := by
    unfold f86
    refine g_pure (c' := (1, [(0, .ref l0), (1, .int l1)], [.int l1], (jE0, M))) 1 rfl ?_
    refine g_if_lt (tgt := 9) rfl rfl (fun q1 => ?_) (fun q1 => ?_)
    · refine g_pure (c' := (11, [(0, .ref l0), (1, .int l1)], [.int (-2 : Int32)], (jE0, M))) 1 rfl ?_
      exact g_ret rfl rfl (fun _ h => h)
    · refine g_pure (c' := (6, [(0, .ref l0), (1, .int l1)], [.int (2 : Int32), .int l1], (jE0, M))) 2 rfl ?_
      refine g_ic_lt (tgt := 12) rfl rfl (fun q2 => ?_) (fun q2 => ?_)
      · refine g_pure (c' := (13, [(0, .ref l0), (1, .int l1)], [.ref l0], (jE0, M))) 1 rfl ?_
        refine g_gp rfl rfl rfl pl0 (jp_ok (kd := 4) pl0 (by decide) (by decide) rfl rfl).1 ?_
        refine g_pure (c' := (18, [(0, .ref l0), (1, .int l1)], [.ref l0, .int l1, .ref (jpt l0 7)], (jE0, M))) 2 rfl ?_
        refine g_gp rfl rfl rfl pl0 (jp_ok (kd := 2) pl0 (by decide) (by decide) rfl rfl).1 ?_
        refine g_wV rfl (jc_v rfl rfl (jv_o (jk_ok (kd := 4) pl0 (by decide) (by decide) rfl rfl) rfl) rfl) (c49 (jpt l0 7) l1 (jpt l0 3) M (jk_ok (kd := 4) pl0 (by decide) (by decide) rfl rfl) (jk_ok (kd := 2) pl0 (by decide) (by decide) rfl rfl)) (by decide) (fun M3 => ?_)
        refine g_pure (c' := (26, [(0, .ref l0), (1, .int l1)], [.ref l0, .ref l0], (jE0, M3))) 2 rfl ?_
        refine g_gf (ci := 6) (k := 8) rfl rfl rfl pl0 ?_
        refine g_pure (c' := (30, [(0, .ref l0), (1, .int l1)], [.int l1, .int (M3 l0 8), .ref l0], (jE0, M3))) 1 rfl ?_
        refine g_cI rfl (jc_s rfl rfl) (c100 l1) (by decide) (fun v4 qv4 => ?_)
        refine g_pure (c' := (34, [(0, .ref l0), (1, .int l1)], [.int ((M3 l0 8) ||| v4), .ref l0], (jE0, M3))) 1 rfl ?_
        refine g_pf (ci := 6) (k := 8) rfl rfl rfl rfl pl0 (fun M5 => ?_)
        refine g_pure (c' := (38, [(0, .ref l0), (1, .int l1)], [.ref l0], (jE0, M5))) 1 rfl ?_
        refine g_gp rfl rfl rfl pl0 (jp_ok (kd := 2) pl0 (by decide) (by decide) rfl rfl).1 ?_
        refine g_gf (ci := 2) (k := 0) rfl rfl rfl (jk_ok (kd := 2) pl0 (by decide) (by decide) rfl rfl) ?_
        exact g_ret rfl rfl (fun _ h => h)
      · refine g_pure (c' := (11, [(0, .ref l0), (1, .int l1)], [.int (-2 : Int32)], (jE0, M))) 1 rfl ?_
        exact g_ret rfl rfl (fun _ h => h)
