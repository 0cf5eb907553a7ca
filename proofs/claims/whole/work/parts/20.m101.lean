/-- CometKin.has -/
def f101  (l0 : Int32) (l1 : Int32) : Option Int32 := (if l1 < (0 : Int32) then (some (0 : Int32)) else (if l1 < (31 : Int32) then (if ((l0 >>> (l1 &&& (31 : Int32))) &&& (1 : Int32)) = (0 : Int32) then (some (0 : Int32)) else (some (1 : Int32))) else (some (0 : Int32))))
theorem c101 {xs : Option (List Int32)} {M : JM} (l0 : Int32) (l1 : Int32) : JG xs 0 101 (f101 l0 l1) (fun x r => r = (some (.int x), (jE0, M))) (0, [(0, .int l0), (1, .int l1)], [], (jE0, M)) := by
    unfold f101
    refine g_pure (c' := (1, [(0, .int l0), (1, .int l1)], [.int l1], (jE0, M))) 1 rfl ?_
    refine g_if_lt (tgt := 22) rfl rfl (fun q1 => ?_) (fun q1 => ?_)
    · refine g_pure (c' := (23, [(0, .int l0), (1, .int l1)], [.int (0 : Int32)], (jE0, M))) 1 rfl ?_
      exact g_ret rfl rfl (fun _ h => h)
    · refine g_pure (c' := (7, [(0, .int l0), (1, .int l1)], [.int (31 : Int32), .int l1], (jE0, M))) 2 rfl ?_
      refine g_ic_ge (tgt := 22) rfl rfl (fun q2 => ?_) (fun q2 => ?_)
      · refine g_pure (c' := (15, [(0, .int l0), (1, .int l1)], [.int ((l0 >>> (l1 &&& (31 : Int32))) &&& (1 : Int32))], (jE0, M))) 5 rfl ?_
        refine g_if_eq (tgt := 22) rfl rfl (fun q3 => ?_) (fun q3 => ?_)
        · refine g_pure (c' := (23, [(0, .int l0), (1, .int l1)], [.int (0 : Int32)], (jE0, M))) 1 rfl ?_
          exact g_ret rfl rfl (fun _ h => h)
        · refine g_pure (c' := (23, [(0, .int l0), (1, .int l1)], [.int (1 : Int32)], (jE0, M))) 2 rfl ?_
          exact g_ret rfl rfl (fun _ h => h)
      · refine g_pure (c' := (23, [(0, .int l0), (1, .int l1)], [.int (0 : Int32)], (jE0, M))) 1 rfl ?_
        exact g_ret rfl rfl (fun _ h => h)
/-- CometKin$Country.seenBy -/
def f14 (M : JM) (l0 : Nat) (l1 : Int32) : Option Int32 := ((f101 (M l0 10) l1).bind fun v1 => (if v1 = (0 : Int32) then (some (M l0 12)) else (some (M l0 13))))
theorem c14 {xs : Option (List Int32)} {M : JM} (l0 : Nat) (l1 : Int32) (pl0 : jok jE0 l0 0 = true) : JG xs 1 14 (f14 M l0 l1) (fun x r => r = (some (.int x), (jE0, M))) (0, [(0, .ref l0), (1, .int l1)], [], (jE0, M)) := by
    unfold f14
    refine g_pure (c' := (1, [(0, .ref l0), (1, .int l1)], [.ref l0], (jE0, M))) 1 rfl ?_
    refine g_gf (ci := 0) (k := 10) rfl rfl rfl pl0 ?_
    refine g_pure (c' := (5, [(0, .ref l0), (1, .int l1)], [.int l1, .int (M l0 10)], (jE0, M))) 1 rfl ?_
    refine g_cI rfl (jc_s rfl rfl) (c101 (M l0 10) l1) (by decide) (fun v1 qv1 => ?_)
    refine g_if_eq (tgt := 18) rfl rfl (fun q2 => ?_) (fun q2 => ?_)
    · refine g_pure (c' := (19, [(0, .ref l0), (1, .int l1)], [.ref l0], (jE0, M))) 1 rfl ?_
      refine g_gf (ci := 0) (k := 12) rfl rfl rfl pl0 ?_
      exact g_ret rfl rfl (fun _ h => h)
    · refine g_pure (c' := (12, [(0, .ref l0), (1, .int l1)], [.ref l0], (jE0, M))) 1 rfl ?_
      refine g_gf (ci := 0) (k := 13) rfl rfl rfl pl0 ?_
      refine g_pure (c' := (22, [(0, .ref l0), (1, .int l1)], [.int (M l0 13)], (jE0, M))) 1 rfl ?_
      exact g_ret rfl rfl (fun _ h => h)
/-- CometKin$Row.get -/
def f42 (M : JM) (l0 : Nat) (l1 : Int32) : Option Int32 := (if l1 < (0 : Int32) then (some (-1 : Int32)) else (if l1 < (Int32.ofNat (jlen jE0 (jpt l0 0))) then ((jla (jpt l0 0) l1 M).bind fun v3 => (some v3)) else (some (-1 : Int32))))
theorem c42 {xs : Option (List Int32)} {M : JM} (l0 : Nat) (l1 : Int32) (pl0 : jok jE0 l0 3 = true) : JG xs 0 42 (f42 M l0 l1) (fun x r => r = (some (.int x), (jE0, M))) (0, [(0, .ref l0), (1, .int l1)], [], (jE0, M)) := by
    unfold f42
    refine g_pure (c' := (1, [(0, .ref l0), (1, .int l1)], [.int l1], (jE0, M))) 1 rfl ?_
    refine g_if_lt (tgt := 22) rfl rfl (fun q1 => ?_) (fun q1 => ?_)
    · refine g_pure (c' := (23, [(0, .ref l0), (1, .int l1)], [.int (-1 : Int32)], (jE0, M))) 1 rfl ?_
      exact g_ret rfl rfl (fun _ h => h)
    · refine g_pure (c' := (6, [(0, .ref l0), (1, .int l1)], [.ref l0, .int l1], (jE0, M))) 2 rfl ?_
      refine g_gp rfl rfl rfl pl0 (jp_ok (kd := 8) pl0 (by decide) (by decide) rfl rfl).1 ?_
      refine g_al rfl (by rw [(jk_ok (kd := 8) pl0 (by decide) (by decide) rfl rfl)]; simp) ?_
      refine g_ic_ge (tgt := 22) rfl rfl (fun q2 => ?_) (fun q2 => ?_)
      · refine g_pure (c' := (14, [(0, .ref l0), (1, .int l1)], [.ref l0], (jE0, M))) 1 rfl ?_
        refine g_gp rfl rfl rfl pl0 (jp_ok (kd := 8) pl0 (by decide) (by decide) rfl rfl).1 ?_
        refine g_pure (c' := (18, [(0, .ref l0), (1, .int l1)], [.int l1, .ref (jpt l0 0)], (jE0, M))) 1 rfl ?_
        refine g_ia rfl (jk_ok (kd := 8) pl0 (by decide) (by decide) rfl rfl) (fun v3 => ?_)
        refine g_pure (c' := (23, [(0, .ref l0), (1, .int l1)], [.int v3], (jE0, M))) 1 rfl ?_
        exact g_ret rfl rfl (fun _ h => h)
      · refine g_pure (c' := (23, [(0, .ref l0), (1, .int l1)], [.int (-1 : Int32)], (jE0, M))) 1 rfl ?_
        exact g_ret rfl rfl (fun _ h => h)
def f16_49 (M : JM) (h5 : Nat → Int32 → Int32 → Int32 → Int32 → Option Int32) (l0 : Nat) (l1 : Int32) (l2 : Int32) (l3 : Int32) (l4 : Int32) : Option Int32 := (h5 l0 l1 l2 l3 (l4 + (1 : Int32)))
theorem c16_49 {xs : Option (List Int32)} {M : JM} (h5 : Nat → Int32 → Int32 → Int32 → Int32 → Option Int32) (H5 : ∀ (l0 : Nat) (l1 : Int32) (l2 : Int32) (l3 : Int32) (l4 : Int32) (pl0 : jok jE0 l0 0 = true), JG xs 1 16 (h5 l0 l1 l2 l3 l4) (fun x r => r = (some (.int x), (jE0, M))) (5, [(0, .ref l0), (1, .int l1), (2, .int l2), (3, .int l3), (4, .int l4)], [], (jE0, M))) : ∀ (l0 : Nat) (l1 : Int32) (l2 : Int32) (l3 : Int32) (l4 : Int32) (pl0 : jok jE0 l0 0 = true), JG xs 1 16 (f16_49 M h5 l0 l1 l2 l3 l4) (fun x r => r = (some (.int x), (jE0, M))) (49, [(0, .ref l0), (1, .int l1), (2, .int l2), (3, .int l3), (4, .int l4)], [], (jE0, M)) := by
    intro l0 l1 l2 l3 l4 pl0
    unfold f16_49
    refine g_pure (c' := (5, [(4, .int (l4 + (1 : Int32))), (0, .ref l0), (1, .int l1), (2, .int l2), (3, .int l3)], [], (jE0, M))) 2 rfl ?_
    refine g_weakk (lv := [(0, .ref l0), (1, .int l1), (2, .int l2), (3, .int l3), (4, .int (l4 + (1 : Int32)))]) ⟨rfl, rfl, rfl, rfl, rfl, trivial⟩ [0, 1, 2, 3, 4] rfl (by decide) [4, 0, 1, 2, 3] rfl (by decide) ?_
    exact (H5 l0 l1 l2 l3 (l4 + (1 : Int32)) pl0)
def f16_5 (M : JM) : Nat → Nat → Int32 → Int32 → Int32 → Int32 → Option Int32
  | 0, _, _, _, _, _ => none
  | n + 1, l0, l1, l2, l3, l4 => (if l4 < (M l0 1) then ((f42 M (jpt l0 9) l4).bind fun v2 => ((f101 l1 l4).bind fun v3 => (if v3 = (0 : Int32) then (f16_49 M (f16_5 M n) l0 l1 l2 l3 l4) else (if l2 < v2 then (f16_49 M (f16_5 M n) l0 l1 l2 l3 l4) else (if l3 < v2 then (f16_49 M (f16_5 M n) l0 l1 l2 v2 l4) else (f16_49 M (f16_5 M n) l0 l1 l2 l3 l4)))))) else (some l3))
theorem c16_5 {xs : Option (List Int32)} {M : JM} : ∀ (n : Nat) (l0 : Nat) (l1 : Int32) (l2 : Int32) (l3 : Int32) (l4 : Int32) (pl0 : jok jE0 l0 0 = true), JG xs 1 16 (f16_5 M n l0 l1 l2 l3 l4) (fun x r => r = (some (.int x), (jE0, M))) (5, [(0, .ref l0), (1, .int l1), (2, .int l2), (3, .int l3), (4, .int l4)], [], (jE0, M))
  | 0, _, _, _, _, _, _ => by rw [f16_5]; exact g_none
  | n + 1, l0, l1, l2, l3, l4, pl0 => by
    rw [f16_5]
    refine g_pure (c' := (8, [(0, .ref l0), (1, .int l1), (2, .int l2), (3, .int l3), (4, .int l4)], [.ref l0, .int l4], (jE0, M))) 2 rfl ?_
    refine g_gf (ci := 0) (k := 1) rfl rfl rfl pl0 ?_
    refine g_ic_ge (tgt := 55) rfl rfl (fun q1 => ?_) (fun q1 => ?_)
    · refine g_pure (c' := (15, [(0, .ref l0), (1, .int l1), (2, .int l2), (3, .int l3), (4, .int l4)], [.ref l0], (jE0, M))) 1 rfl ?_
      refine g_gp rfl rfl rfl pl0 (jp_ok (kd := 3) pl0 (by decide) (by decide) rfl rfl).1 ?_
      refine g_pure (c' := (20, [(0, .ref l0), (1, .int l1), (2, .int l2), (3, .int l3), (4, .int l4)], [.int l4, .ref (jpt l0 9)], (jE0, M))) 1 rfl ?_
      refine g_cI rfl (jc_v rfl rfl (jv_o (jk_ok (kd := 3) pl0 (by decide) (by decide) rfl rfl) rfl) rfl) (c42 (jpt l0 9) l4 (jk_ok (kd := 3) pl0 (by decide) (by decide) rfl rfl)) (by decide) (fun v2 qv2 => ?_)
      refine g_pure (c' := (28, [(5, .int v2), (0, .ref l0), (1, .int l1), (2, .int l2), (3, .int l3), (4, .int l4)], [.int l4, .int l1], (jE0, M))) 3 rfl ?_
      refine g_cI rfl (jc_s rfl rfl) (c101 l1 l4) (by decide) (fun v3 qv3 => ?_)
      refine g_if_eq (tgt := 49) rfl rfl (fun q4 => ?_) (fun q4 => ?_)
      · refine g_weakk (lv := [(0, .ref l0), (1, .int l1), (2, .int l2), (3, .int l3), (4, .int l4)]) ⟨rfl, rfl, rfl, rfl, rfl, trivial⟩ [0, 1, 2, 3, 4] rfl (by decide) [5, 0, 1, 2, 3, 4] rfl (by decide) ?_
        exact (c16_49 (f16_5 M n) (c16_5 n) l0 l1 l2 l3 l4 pl0)
      · refine g_pure (c' := (37, [(5, .int v2), (0, .ref l0), (1, .int l1), (2, .int l2), (3, .int l3), (4, .int l4)], [.int l2, .int v2], (jE0, M))) 2 rfl ?_
        refine g_ic_gt (tgt := 49) rfl rfl (fun q5 => ?_) (fun q5 => ?_)
        · refine g_weakk (lv := [(0, .ref l0), (1, .int l1), (2, .int l2), (3, .int l3), (4, .int l4)]) ⟨rfl, rfl, rfl, rfl, rfl, trivial⟩ [0, 1, 2, 3, 4] rfl (by decide) [5, 0, 1, 2, 3, 4] rfl (by decide) ?_
          exact (c16_49 (f16_5 M n) (c16_5 n) l0 l1 l2 l3 l4 pl0)
        · refine g_pure (c' := (43, [(5, .int v2), (0, .ref l0), (1, .int l1), (2, .int l2), (3, .int l3), (4, .int l4)], [.int l3, .int v2], (jE0, M))) 2 rfl ?_
          refine g_ic_le (tgt := 49) rfl rfl (fun q6 => ?_) (fun q6 => ?_)
          · refine g_pure (c' := (49, [(3, .int v2), (5, .int v2), (0, .ref l0), (1, .int l1), (2, .int l2), (4, .int l4)], [], (jE0, M))) 2 rfl ?_
            refine g_weakk (lv := [(0, .ref l0), (1, .int l1), (2, .int l2), (3, .int v2), (4, .int l4)]) ⟨rfl, rfl, rfl, rfl, rfl, trivial⟩ [0, 1, 2, 3, 4] rfl (by decide) [3, 5, 0, 1, 2, 4] rfl (by decide) ?_
            exact (c16_49 (f16_5 M n) (c16_5 n) l0 l1 l2 v2 l4 pl0)
          · refine g_weakk (lv := [(0, .ref l0), (1, .int l1), (2, .int l2), (3, .int l3), (4, .int l4)]) ⟨rfl, rfl, rfl, rfl, rfl, trivial⟩ [0, 1, 2, 3, 4] rfl (by decide) [5, 0, 1, 2, 3, 4] rfl (by decide) ?_
            exact (c16_49 (f16_5 M n) (c16_5 n) l0 l1 l2 l3 l4 pl0)
    · refine g_pure (c' := (56, [(0, .ref l0), (1, .int l1), (2, .int l2), (3, .int l3), (4, .int l4)], [.int l3], (jE0, M))) 1 rfl ?_
      exact g_ret rfl rfl (fun _ h => h)
/-- CometKin$Country.latestYear -/
def f16 (M : JM) (l0 : Nat) (l1 : Int32) (l2 : Int32) : Option Int32 := (f16_5 M 1000 l0 l1 l2 (-1 : Int32) (0 : Int32))
theorem c16 {xs : Option (List Int32)} {M : JM} (l0 : Nat) (l1 : Int32) (l2 : Int32) (pl0 : jok jE0 l0 0 = true) : JG xs 1 16 (f16 M l0 l1 l2) (fun x r => r = (some (.int x), (jE0, M))) (0, [(0, .ref l0), (1, .int l1), (2, .int l2)], [], (jE0, M)) := by
    unfold f16
    refine g_pure (c' := (5, [(4, .int (0 : Int32)), (3, .int (-1 : Int32)), (0, .ref l0), (1, .int l1), (2, .int l2)], [], (jE0, M))) 4 rfl ?_
    refine g_weakk (lv := [(0, .ref l0), (1, .int l1), (2, .int l2), (3, .int (-1 : Int32)), (4, .int (0 : Int32))]) ⟨rfl, rfl, rfl, rfl, rfl, trivial⟩ [0, 1, 2, 3, 4] rfl (by decide) [4, 3, 0, 1, 2] rfl (by decide) ?_
    exact (c16_5 1000 l0 l1 l2 (-1 : Int32) (0 : Int32) pl0)
/-- CometKin.bit -/
def f100  (l0 : Int32) : Option Int32 := (if l0 < (0 : Int32) then (some (0 : Int32)) else (if l0 < (31 : Int32) then (some ((1 : Int32) <<< (l0 &&& (31 : Int32)))) else (some (0 : Int32))))
theorem c100 {xs : Option (List Int32)} {M : JM} (l0 : Int32) : JG xs 0 100 (f100 l0) (fun x r => r = (some (.int x), (jE0, M))) (0, [(0, .int l0)], [], (jE0, M)) := by
    unfold f100
    refine g_pure (c' := (1, [(0, .int l0)], [.int l0], (jE0, M))) 1 rfl ?_
    refine g_if_lt (tgt := 16) rfl rfl (fun q1 => ?_) (fun q1 => ?_)
    · refine g_pure (c' := (17, [(0, .int l0)], [.int (0 : Int32)], (jE0, M))) 1 rfl ?_
      exact g_ret rfl rfl (fun _ h => h)
    · refine g_pure (c' := (7, [(0, .int l0)], [.int (31 : Int32), .int l0], (jE0, M))) 2 rfl ?_
      refine g_ic_ge (tgt := 16) rfl rfl (fun q2 => ?_) (fun q2 => ?_)
      · refine g_pure (c' := (17, [(0, .int l0)], [.int ((1 : Int32) <<< (l0 &&& (31 : Int32)))], (jE0, M))) 4 rfl ?_
        exact g_ret rfl rfl (fun _ h => h)
      · refine g_pure (c' := (17, [(0, .int l0)], [.int (0 : Int32)], (jE0, M))) 1 rfl ?_
        exact g_ret rfl rfl (fun _ h => h)
def f18_91 (M : JM) (h5 : Nat → Int32 → Int32 → Int32 → Int32 → Option Int32) (l0 : Nat) (l1 : Int32) (l2 : Int32) (l3 : Int32) (l4 : Int32) : Option Int32 := (h5 l0 l1 l2 l3 (l4 + (1 : Int32)))
theorem c18_91 {xs : Option (List Int32)} {M : JM} (h5 : Nat → Int32 → Int32 → Int32 → Int32 → Option Int32) (H5 : ∀ (l0 : Nat) (l1 : Int32) (l2 : Int32) (l3 : Int32) (l4 : Int32) (pl0 : jok jE0 l0 0 = true), JG xs 1 18 (h5 l0 l1 l2 l3 l4) (fun x r => r = (some (.int x), (jE0, M))) (5, [(0, .ref l0), (1, .int l1), (2, .int l2), (3, .int l3), (4, .int l4)], [], (jE0, M))) : ∀ (l0 : Nat) (l1 : Int32) (l2 : Int32) (l3 : Int32) (l4 : Int32) (pl0 : jok jE0 l0 0 = true), JG xs 1 18 (f18_91 M h5 l0 l1 l2 l3 l4) (fun x r => r = (some (.int x), (jE0, M))) (91, [(0, .ref l0), (1, .int l1), (2, .int l2), (3, .int l3), (4, .int l4)], [], (jE0, M)) := by
    intro l0 l1 l2 l3 l4 pl0
    unfold f18_91
    refine g_pure (c' := (5, [(4, .int (l4 + (1 : Int32))), (0, .ref l0), (1, .int l1), (2, .int l2), (3, .int l3)], [], (jE0, M))) 2 rfl ?_
    refine g_weakk (lv := [(0, .ref l0), (1, .int l1), (2, .int l2), (3, .int l3), (4, .int (l4 + (1 : Int32)))]) ⟨rfl, rfl, rfl, rfl, rfl, trivial⟩ [0, 1, 2, 3, 4] rfl (by decide) [4, 0, 1, 2, 3] rfl (by decide) ?_
    exact (H5 l0 l1 l2 l3 (l4 + (1 : Int32)) pl0)
def f18_76 (M : JM) (h5 : Nat → Int32 → Int32 → Int32 → Int32 → Option Int32) (l0 : Nat) (l1 : Int32) (l2 : Int32) (l3 : Int32) (l4 : Int32) (l5 : Int32) : Option Int32 := (if (l1 &&& l5) = (0 : Int32) then (f18_91 M h5 l0 l1 l2 l3 l4) else ((f100 l4).bind fun v12 => (f18_91 M h5 l0 l1 l2 (l3 ||| v12) l4)))
theorem c18_76 {xs : Option (List Int32)} {M : JM} (h5 : Nat → Int32 → Int32 → Int32 → Int32 → Option Int32) (H5 : ∀ (l0 : Nat) (l1 : Int32) (l2 : Int32) (l3 : Int32) (l4 : Int32) (pl0 : jok jE0 l0 0 = true), JG xs 1 18 (h5 l0 l1 l2 l3 l4) (fun x r => r = (some (.int x), (jE0, M))) (5, [(0, .ref l0), (1, .int l1), (2, .int l2), (3, .int l3), (4, .int l4)], [], (jE0, M))) : ∀ (l0 : Nat) (l1 : Int32) (l2 : Int32) (l3 : Int32) (l4 : Int32) (l5 : Int32) (pl0 : jok jE0 l0 0 = true), JG xs 1 18 (f18_76 M h5 l0 l1 l2 l3 l4 l5) (fun x r => r = (some (.int x), (jE0, M))) (76, [(0, .ref l0), (1, .int l1), (2, .int l2), (3, .int l3), (4, .int l4), (5, .int l5)], [], (jE0, M)) := by
    intro l0 l1 l2 l3 l4 l5 pl0
    unfold f18_76
    refine g_pure (c' := (80, [(0, .ref l0), (1, .int l1), (2, .int l2), (3, .int l3), (4, .int l4), (5, .int l5)], [.int (l1 &&& l5)], (jE0, M))) 3 rfl ?_
    refine g_if_eq (tgt := 91) rfl rfl (fun q11 => ?_) (fun q11 => ?_)
    · refine g_weakk (lv := [(0, .ref l0), (1, .int l1), (2, .int l2), (3, .int l3), (4, .int l4)]) ⟨rfl, rfl, rfl, rfl, rfl, trivial⟩ [0, 1, 2, 3, 4] rfl (by decide) [0, 1, 2, 3, 4, 5] rfl (by decide) ?_
      exact (c18_91 h5 H5 l0 l1 l2 l3 l4 pl0)
    · refine g_pure (c' := (86, [(0, .ref l0), (1, .int l1), (2, .int l2), (3, .int l3), (4, .int l4), (5, .int l5)], [.int l4, .int l3], (jE0, M))) 2 rfl ?_
      refine g_cI rfl (jc_s rfl rfl) (c100 l4) (by decide) (fun v12 qv12 => ?_)
      refine g_pure (c' := (91, [(3, .int (l3 ||| v12)), (0, .ref l0), (1, .int l1), (2, .int l2), (4, .int l4), (5, .int l5)], [], (jE0, M))) 2 rfl ?_
      refine g_weakk (lv := [(0, .ref l0), (1, .int l1), (2, .int l2), (3, .int (l3 ||| v12)), (4, .int l4)]) ⟨rfl, rfl, rfl, rfl, rfl, trivial⟩ [0, 1, 2, 3, 4] rfl (by decide) [3, 0, 1, 2, 4, 5] rfl (by decide) ?_
      exact (c18_91 h5 H5 l0 l1 l2 (l3 ||| v12) l4 pl0)
def f18_5 (M : JM) : Nat → Nat → Int32 → Int32 → Int32 → Int32 → Option Int32
  | 0, _, _, _, _, _ => none
  | n + 1, l0, l1, l2, l3, l4 => (if l4 < (M l0 0) then ((f42 M (jpt l0 5) l4).bind fun v2 => ((f100 v2).bind fun v3 => ((f42 M (jpt l0 6) l4).bind fun v4 => ((f100 v4).bind fun v5 => (if (v3 ||| v5) = (0 : Int32) then (f18_91 M (f18_5 M n) l0 l1 l2 l3 l4) else ((f42 M (jpt l0 4) l4).bind fun v7 => (if l2 < v7 then (f18_91 M (f18_5 M n) l0 l1 l2 l3 l4) else ((f101 l1 l4).bind fun v9 => (if v9 = (0 : Int32) then (f18_76 M (f18_5 M n) l0 l1 l2 l3 l4 (v3 ||| v5)) else (f18_76 M (f18_5 M n) l0 l1 l2 (l3 ||| (v3 ||| v5)) l4 (v3 ||| v5))))))))))) else (some l3))
theorem c18_5 {xs : Option (List Int32)} {M : JM} : ∀ (n : Nat) (l0 : Nat) (l1 : Int32) (l2 : Int32) (l3 : Int32) (l4 : Int32) (pl0 : jok jE0 l0 0 = true), JG xs 1 18 (f18_5 M n l0 l1 l2 l3 l4) (fun x r => r = (some (.int x), (jE0, M))) (5, [(0, .ref l0), (1, .int l1), (2, .int l2), (3, .int l3), (4, .int l4)], [], (jE0, M))
  | 0, _, _, _, _, _, _ => by rw [f18_5]; exact g_none
  | n + 1, l0, l1, l2, l3, l4, pl0 => by
    rw [f18_5]
    refine g_pure (c' := (8, [(0, .ref l0), (1, .int l1), (2, .int l2), (3, .int l3), (4, .int l4)], [.ref l0, .int l4], (jE0, M))) 2 rfl ?_
    refine g_gf (ci := 0) (k := 0) rfl rfl rfl pl0 ?_
    refine g_ic_ge (tgt := 97) rfl rfl (fun q1 => ?_) (fun q1 => ?_)
    · refine g_pure (c' := (15, [(0, .ref l0), (1, .int l1), (2, .int l2), (3, .int l3), (4, .int l4)], [.ref l0], (jE0, M))) 1 rfl ?_
      refine g_gp rfl rfl rfl pl0 (jp_ok (kd := 3) pl0 (by decide) (by decide) rfl rfl).1 ?_
      refine g_pure (c' := (20, [(0, .ref l0), (1, .int l1), (2, .int l2), (3, .int l3), (4, .int l4)], [.int l4, .ref (jpt l0 5)], (jE0, M))) 1 rfl ?_
      refine g_cI rfl (jc_v rfl rfl (jv_o (jk_ok (kd := 3) pl0 (by decide) (by decide) rfl rfl) rfl) rfl) (c42 (jpt l0 5) l4 (jk_ok (kd := 3) pl0 (by decide) (by decide) rfl rfl)) (by decide) (fun v2 qv2 => ?_)
      refine g_cI rfl (jc_s rfl rfl) (c100 v2) (by decide) (fun v3 qv3 => ?_)
      refine g_pure (c' := (27, [(0, .ref l0), (1, .int l1), (2, .int l2), (3, .int l3), (4, .int l4)], [.ref l0, .int v3], (jE0, M))) 1 rfl ?_
      refine g_gp rfl rfl rfl pl0 (jp_ok (kd := 3) pl0 (by decide) (by decide) rfl rfl).1 ?_
      refine g_pure (c' := (32, [(0, .ref l0), (1, .int l1), (2, .int l2), (3, .int l3), (4, .int l4)], [.int l4, .ref (jpt l0 6), .int v3], (jE0, M))) 1 rfl ?_
      refine g_cI rfl (jc_v rfl rfl (jv_o (jk_ok (kd := 3) pl0 (by decide) (by decide) rfl rfl) rfl) rfl) (c42 (jpt l0 6) l4 (jk_ok (kd := 3) pl0 (by decide) (by decide) rfl rfl)) (by decide) (fun v4 qv4 => ?_)
      refine g_cI rfl (jc_s rfl rfl) (c100 v4) (by decide) (fun v5 qv5 => ?_)
      refine g_pure (c' := (43, [(5, .int (v3 ||| v5)), (0, .ref l0), (1, .int l1), (2, .int l2), (3, .int l3), (4, .int l4)], [.int (v3 ||| v5)], (jE0, M))) 3 rfl ?_
      refine g_if_eq (tgt := 91) rfl rfl (fun q6 => ?_) (fun q6 => ?_)
      · refine g_weakk (lv := [(0, .ref l0), (1, .int l1), (2, .int l2), (3, .int l3), (4, .int l4)]) ⟨rfl, rfl, rfl, rfl, rfl, trivial⟩ [0, 1, 2, 3, 4] rfl (by decide) [5, 0, 1, 2, 3, 4] rfl (by decide) ?_
        exact (c18_91 (f18_5 M n) (c18_5 n) l0 l1 l2 l3 l4 pl0)
      · refine g_pure (c' := (47, [(5, .int (v3 ||| v5)), (0, .ref l0), (1, .int l1), (2, .int l2), (3, .int l3), (4, .int l4)], [.ref l0], (jE0, M))) 1 rfl ?_
        refine g_gp rfl rfl rfl pl0 (jp_ok (kd := 3) pl0 (by decide) (by decide) rfl rfl).1 ?_
        refine g_pure (c' := (52, [(5, .int (v3 ||| v5)), (0, .ref l0), (1, .int l1), (2, .int l2), (3, .int l3), (4, .int l4)], [.int l4, .ref (jpt l0 4)], (jE0, M))) 1 rfl ?_
        refine g_cI rfl (jc_v rfl rfl (jv_o (jk_ok (kd := 3) pl0 (by decide) (by decide) rfl rfl) rfl) rfl) (c42 (jpt l0 4) l4 (jk_ok (kd := 3) pl0 (by decide) (by decide) rfl rfl)) (by decide) (fun v7 qv7 => ?_)
        refine g_pure (c' := (56, [(5, .int (v3 ||| v5)), (0, .ref l0), (1, .int l1), (2, .int l2), (3, .int l3), (4, .int l4)], [.int l2, .int v7], (jE0, M))) 1 rfl ?_
        refine g_ic_le (tgt := 62) rfl rfl (fun q8 => ?_) (fun q8 => ?_)
        · refine g_pure (c' := (91, [(5, .int (v3 ||| v5)), (0, .ref l0), (1, .int l1), (2, .int l2), (3, .int l3), (4, .int l4)], [], (jE0, M))) 1 rfl ?_
          refine g_weakk (lv := [(0, .ref l0), (1, .int l1), (2, .int l2), (3, .int l3), (4, .int l4)]) ⟨rfl, rfl, rfl, rfl, rfl, trivial⟩ [0, 1, 2, 3, 4] rfl (by decide) [5, 0, 1, 2, 3, 4] rfl (by decide) ?_
          exact (c18_91 (f18_5 M n) (c18_5 n) l0 l1 l2 l3 l4 pl0)
        · refine g_pure (c' := (65, [(5, .int (v3 ||| v5)), (0, .ref l0), (1, .int l1), (2, .int l2), (3, .int l3), (4, .int l4)], [.int l4, .int l1], (jE0, M))) 2 rfl ?_
          refine g_cI rfl (jc_s rfl rfl) (c101 l1 l4) (by decide) (fun v9 qv9 => ?_)
          refine g_if_eq (tgt := 76) rfl rfl (fun q10 => ?_) (fun q10 => ?_)
          · refine g_weakk (lv := [(0, .ref l0), (1, .int l1), (2, .int l2), (3, .int l3), (4, .int l4), (5, .int (v3 ||| v5))]) ⟨rfl, rfl, rfl, rfl, rfl, rfl, trivial⟩ [0, 1, 2, 3, 4, 5] rfl (by decide) [5, 0, 1, 2, 3, 4] rfl (by decide) ?_
            exact (c18_76 (f18_5 M n) (c18_5 n) l0 l1 l2 l3 l4 (v3 ||| v5) pl0)
          · refine g_pure (c' := (76, [(3, .int (l3 ||| (v3 ||| v5))), (5, .int (v3 ||| v5)), (0, .ref l0), (1, .int l1), (2, .int l2), (4, .int l4)], [], (jE0, M))) 4 rfl ?_
            refine g_weakk (lv := [(0, .ref l0), (1, .int l1), (2, .int l2), (3, .int (l3 ||| (v3 ||| v5))), (4, .int l4), (5, .int (v3 ||| v5))]) ⟨rfl, rfl, rfl, rfl, rfl, rfl, trivial⟩ [0, 1, 2, 3, 4, 5] rfl (by decide) [3, 5, 0, 1, 2, 4] rfl (by decide) ?_
            exact (c18_76 (f18_5 M n) (c18_5 n) l0 l1 l2 (l3 ||| (v3 ||| v5)) l4 (v3 ||| v5) pl0)
    · refine g_pure (c' := (98, [(0, .ref l0), (1, .int l1), (2, .int l2), (3, .int l3), (4, .int l4)], [.int l3], (jE0, M))) 1 rfl ?_
      exact g_ret rfl rfl (fun _ h => h)
/-- CometKin$Country.stepFrom -/
def f18 (M : JM) (l0 : Nat) (l1 : Int32) (l2 : Int32) : Option Int32 := (f18_5 M 1000 l0 l1 l2 l1 (0 : Int32))
theorem c18 {xs : Option (List Int32)} {M : JM} (l0 : Nat) (l1 : Int32) (l2 : Int32) (pl0 : jok jE0 l0 0 = true) : JG xs 1 18 (f18 M l0 l1 l2) (fun x r => r = (some (.int x), (jE0, M))) (0, [(0, .ref l0), (1, .int l1), (2, .int l2)], [], (jE0, M)) := by
    unfold f18
    refine g_pure (c' := (5, [(4, .int (0 : Int32)), (3, .int l1), (0, .ref l0), (1, .int l1), (2, .int l2)], [], (jE0, M))) 4 rfl ?_
    refine g_weakk (lv := [(0, .ref l0), (1, .int l1), (2, .int l2), (3, .int l1), (4, .int (0 : Int32))]) ⟨rfl, rfl, rfl, rfl, rfl, trivial⟩ [0, 1, 2, 3, 4] rfl (by decide) [4, 3, 0, 1, 2] rfl (by decide) ?_
    exact (c18_5 1000 l0 l1 l2 l1 (0 : Int32) pl0)
def f19_8 (M : JM) : Nat → Nat → Int32 → Int32 → Int32 → Option Int32
  | 0, _, _, _, _ => none
  | n + 1, l0, l2, l3, l4 => (if l4 < (M l0 0) then ((f18 M l0 l3 l2).bind fun v3 => (if v3 = l3 then (some l3) else ((f19_8 M n) l0 l2 v3 (l4 + (1 : Int32))))) else (some l3))
theorem c19_8 {xs : Option (List Int32)} {M : JM} : ∀ (n : Nat) (l0 : Nat) (l2 : Int32) (l3 : Int32) (l4 : Int32) (pl0 : jok jE0 l0 0 = true), JG xs 2 19 (f19_8 M n l0 l2 l3 l4) (fun x r => r = (some (.int x), (jE0, M))) (8, [(0, .ref l0), (2, .int l2), (3, .int l3), (4, .int l4)], [], (jE0, M))
  | 0, _, _, _, _, _ => by rw [f19_8]; exact g_none
  | n + 1, l0, l2, l3, l4, pl0 => by
    rw [f19_8]
    refine g_pure (c' := (11, [(0, .ref l0), (2, .int l2), (3, .int l3), (4, .int l4)], [.ref l0, .int l4], (jE0, M))) 2 rfl ?_
    refine g_gf (ci := 0) (k := 0) rfl rfl rfl pl0 ?_
    refine g_ic_ge (tgt := 42) rfl rfl (fun q2 => ?_) (fun q2 => ?_)
    · refine g_pure (c' := (20, [(0, .ref l0), (2, .int l2), (3, .int l3), (4, .int l4)], [.int l2, .int l3, .ref l0], (jE0, M))) 3 rfl ?_
      refine g_cI rfl (jc_v rfl rfl (jv_o pl0 rfl) rfl) (c18 l0 l3 l2 pl0) (by decide) (fun v3 qv3 => ?_)
      refine g_pure (c' := (28, [(5, .int v3), (0, .ref l0), (2, .int l2), (3, .int l3), (4, .int l4)], [.int l3, .int v3], (jE0, M))) 3 rfl ?_
      refine g_ic_ne (tgt := 33) rfl rfl (fun q4 => ?_) (fun q4 => ?_)
      · refine g_pure (c' := (32, [(5, .int v3), (0, .ref l0), (2, .int l2), (3, .int l3), (4, .int l4)], [.int l3], (jE0, M))) 1 rfl ?_
        exact g_ret rfl rfl (fun _ h => h)
      · refine g_pure (c' := (8, [(4, .int (l4 + (1 : Int32))), (3, .int v3), (5, .int v3), (0, .ref l0), (2, .int l2)], [], (jE0, M))) 4 rfl ?_
        refine g_weakk (lv := [(0, .ref l0), (2, .int l2), (3, .int v3), (4, .int (l4 + (1 : Int32)))]) ⟨rfl, rfl, rfl, rfl, trivial⟩ [0, 2, 3, 4] rfl (by decide) [4, 3, 5, 0, 2] rfl (by decide) ?_
        exact ((c19_8 n) l0 l2 v3 (l4 + (1 : Int32)) pl0)
    · refine g_pure (c' := (43, [(0, .ref l0), (2, .int l2), (3, .int l3), (4, .int l4)], [.int l3], (jE0, M))) 1 rfl ?_
      exact g_ret rfl rfl (fun _ h => h)
/-- CometKin$Country.allReached -/
def f19 (M : JM) (l0 : Nat) (l1 : Int32) (l2 : Int32) : Option Int32 := ((f100 l1).bind fun v1 => (f19_8 M 1000 l0 l2 v1 (0 : Int32)))
theorem c19 {xs : Option (List Int32)} {M : JM} (l0 : Nat) (l1 : Int32) (l2 : Int32) (pl0 : jok jE0 l0 0 = true) : JG xs 2 19 (f19 M l0 l1 l2) (fun x r => r = (some (.int x), (jE0, M))) (0, [(0, .ref l0), (1, .int l1), (2, .int l2)], [], (jE0, M)) := by
    unfold f19
    refine g_pure (c' := (1, [(0, .ref l0), (1, .int l1), (2, .int l2)], [.int l1], (jE0, M))) 1 rfl ?_
    refine g_cI rfl (jc_s rfl rfl) (c100 l1) (by decide) (fun v1 qv1 => ?_)
    refine g_pure (c' := (8, [(4, .int (0 : Int32)), (3, .int v1), (0, .ref l0), (1, .int l1), (2, .int l2)], [], (jE0, M))) 3 rfl ?_
    refine g_weakk (lv := [(0, .ref l0), (2, .int l2), (3, .int v1), (4, .int (0 : Int32))]) ⟨rfl, rfl, rfl, rfl, trivial⟩ [0, 2, 3, 4] rfl (by decide) [4, 3, 0, 1, 2] rfl (by decide) ?_
    exact (c19_8 1000 l0 l2 v1 (0 : Int32) pl0)
/-- CometKin$Country.kinOf -/
def f21 (M : JM) (l0 : Nat) (l1 : Int32) (l2 : Int32) : Option Int32 := ((f14 M l0 l1).bind fun v1 => ((f16 M l0 (v1 &&& (M l0 13)) l2).bind fun v2 => ((f19 M l0 l1 v2).bind fun v3 => ((f14 M l0 l1).bind fun v4 => ((f16 M l0 (v4 &&& (M l0 12)) l2).bind fun v5 => ((f19 M l0 l1 v5).bind fun v6 => ((f100 l1).bind fun v7 => (some (((v3 &&& (M l0 10)) ||| (v6 &&& ((M l0 10) ^^^ (-1 : Int32)))) &&& (v7 ^^^ (-1 : Int32)))))))))))
theorem c21 {xs : Option (List Int32)} {M : JM} (l0 : Nat) (l1 : Int32) (l2 : Int32) (pl0 : jok jE0 l0 0 = true) : JG xs 3 21 (f21 M l0 l1 l2) (fun x r => r = (some (.int x), (jE0, M))) (0, [(0, .ref l0), (1, .int l1), (2, .int l2)], [], (jE0, M)) := by
    unfold f21
    refine g_pure (c' := (5, [(0, .ref l0), (1, .int l1), (2, .int l2)], [.int l1, .ref l0, .ref l0, .int l1, .ref l0], (jE0, M))) 5 rfl ?_
    refine g_cI rfl (jc_v rfl rfl (jv_o pl0 rfl) rfl) (c14 l0 l1 pl0) (by decide) (fun v1 qv1 => ?_)
    refine g_pure (c' := (9, [(0, .ref l0), (1, .int l1), (2, .int l2)], [.ref l0, .int v1, .ref l0, .int l1, .ref l0], (jE0, M))) 1 rfl ?_
    refine g_gf (ci := 0) (k := 13) rfl rfl rfl pl0 ?_
    refine g_pure (c' := (14, [(0, .ref l0), (1, .int l1), (2, .int l2)], [.int l2, .int (v1 &&& (M l0 13)), .ref l0, .int l1, .ref l0], (jE0, M))) 2 rfl ?_
    refine g_cI rfl (jc_v rfl rfl (jv_o pl0 rfl) rfl) (c16 l0 (v1 &&& (M l0 13)) l2 pl0) (by decide) (fun v2 qv2 => ?_)
    refine g_cI rfl (jc_v rfl rfl (jv_o pl0 rfl) rfl) (c19 l0 l1 v2 pl0) (by decide) (fun v3 qv3 => ?_)
    refine g_pure (c' := (26, [(3, .int v3), (0, .ref l0), (1, .int l1), (2, .int l2)], [.int l1, .ref l0, .ref l0, .int l1, .ref l0], (jE0, M))) 6 rfl ?_
    refine g_cI rfl (jc_v rfl rfl (jv_o pl0 rfl) rfl) (c14 l0 l1 pl0) (by decide) (fun v4 qv4 => ?_)
    refine g_pure (c' := (30, [(3, .int v3), (0, .ref l0), (1, .int l1), (2, .int l2)], [.ref l0, .int v4, .ref l0, .int l1, .ref l0], (jE0, M))) 1 rfl ?_
    refine g_gf (ci := 0) (k := 12) rfl rfl rfl pl0 ?_
    refine g_pure (c' := (35, [(3, .int v3), (0, .ref l0), (1, .int l1), (2, .int l2)], [.int l2, .int (v4 &&& (M l0 12)), .ref l0, .int l1, .ref l0], (jE0, M))) 2 rfl ?_
    refine g_cI rfl (jc_v rfl rfl (jv_o pl0 rfl) rfl) (c16 l0 (v4 &&& (M l0 12)) l2 pl0) (by decide) (fun v5 qv5 => ?_)
    refine g_cI rfl (jc_v rfl rfl (jv_o pl0 rfl) rfl) (c19 l0 l1 v5 pl0) (by decide) (fun v6 qv6 => ?_)
    refine g_pure (c' := (45, [(4, .int v6), (3, .int v3), (0, .ref l0), (1, .int l1), (2, .int l2)], [.ref l0, .int v3], (jE0, M))) 3 rfl ?_
    refine g_gf (ci := 0) (k := 10) rfl rfl rfl pl0 ?_
    refine g_pure (c' := (52, [(4, .int v6), (3, .int v3), (0, .ref l0), (1, .int l1), (2, .int l2)], [.ref l0, .int v6, .int (v3 &&& (M l0 10))], (jE0, M))) 3 rfl ?_
    refine g_gf (ci := 0) (k := 10) rfl rfl rfl pl0 ?_
    refine g_pure (c' := (60, [(4, .int v6), (3, .int v3), (0, .ref l0), (1, .int l1), (2, .int l2)], [.int l1, .int ((v3 &&& (M l0 10)) ||| (v6 &&& ((M l0 10) ^^^ (-1 : Int32))))], (jE0, M))) 5 rfl ?_
    refine g_cI rfl (jc_s rfl rfl) (c100 l1) (by decide) (fun v7 qv7 => ?_)
    refine g_pure (c' := (66, [(4, .int v6), (3, .int v3), (0, .ref l0), (1, .int l1), (2, .int l2)], [.int (((v3 &&& (M l0 10)) ||| (v6 &&& ((M l0 10) ^^^ (-1 : Int32)))) &&& (v7 ^^^ (-1 : Int32)))], (jE0, M))) 3 rfl ?_
    exact g_ret rfl rfl (fun _ h => h)
/-- Integer.bitCount -/
def f207  (l0 : Int32) : Option Int32 := (some ((((((((l0 - ((((l0).toUInt32 >>> (((1 : Int32)).toUInt32 &&& Int32.toUInt32 31)).toInt32) &&& (1431655765 : Int32))) &&& (858993459 : Int32)) + (((((l0 - ((((l0).toUInt32 >>> (((1 : Int32)).toUInt32 &&& Int32.toUInt32 31)).toInt32) &&& (1431655765 : Int32)))).toUInt32 >>> (((2 : Int32)).toUInt32 &&& Int32.toUInt32 31)).toInt32) &&& (858993459 : Int32))) + ((((((l0 - ((((l0).toUInt32 >>> (((1 : Int32)).toUInt32 &&& Int32.toUInt32 31)).toInt32) &&& (1431655765 : Int32))) &&& (858993459 : Int32)) + (((((l0 - ((((l0).toUInt32 >>> (((1 : Int32)).toUInt32 &&& Int32.toUInt32 31)).toInt32) &&& (1431655765 : Int32)))).toUInt32 >>> (((2 : Int32)).toUInt32 &&& Int32.toUInt32 31)).toInt32) &&& (858993459 : Int32)))).toUInt32 >>> (((4 : Int32)).toUInt32 &&& Int32.toUInt32 31)).toInt32)) &&& (252645135 : Int32)) + ((((((((l0 - ((((l0).toUInt32 >>> (((1 : Int32)).toUInt32 &&& Int32.toUInt32 31)).toInt32) &&& (1431655765 : Int32))) &&& (858993459 : Int32)) + (((((l0 - ((((l0).toUInt32 >>> (((1 : Int32)).toUInt32 &&& Int32.toUInt32 31)).toInt32) &&& (1431655765 : Int32)))).toUInt32 >>> (((2 : Int32)).toUInt32 &&& Int32.toUInt32 31)).toInt32) &&& (858993459 : Int32))) + ((((((l0 - ((((l0).toUInt32 >>> (((1 : Int32)).toUInt32 &&& Int32.toUInt32 31)).toInt32) &&& (1431655765 : Int32))) &&& (858993459 : Int32)) + (((((l0 - ((((l0).toUInt32 >>> (((1 : Int32)).toUInt32 &&& Int32.toUInt32 31)).toInt32) &&& (1431655765 : Int32)))).toUInt32 >>> (((2 : Int32)).toUInt32 &&& Int32.toUInt32 31)).toInt32) &&& (858993459 : Int32)))).toUInt32 >>> (((4 : Int32)).toUInt32 &&& Int32.toUInt32 31)).toInt32)) &&& (252645135 : Int32))).toUInt32 >>> (((8 : Int32)).toUInt32 &&& Int32.toUInt32 31)).toInt32)) + (((((((((l0 - ((((l0).toUInt32 >>> (((1 : Int32)).toUInt32 &&& Int32.toUInt32 31)).toInt32) &&& (1431655765 : Int32))) &&& (858993459 : Int32)) + (((((l0 - ((((l0).toUInt32 >>> (((1 : Int32)).toUInt32 &&& Int32.toUInt32 31)).toInt32) &&& (1431655765 : Int32)))).toUInt32 >>> (((2 : Int32)).toUInt32 &&& Int32.toUInt32 31)).toInt32) &&& (858993459 : Int32))) + ((((((l0 - ((((l0).toUInt32 >>> (((1 : Int32)).toUInt32 &&& Int32.toUInt32 31)).toInt32) &&& (1431655765 : Int32))) &&& (858993459 : Int32)) + (((((l0 - ((((l0).toUInt32 >>> (((1 : Int32)).toUInt32 &&& Int32.toUInt32 31)).toInt32) &&& (1431655765 : Int32)))).toUInt32 >>> (((2 : Int32)).toUInt32 &&& Int32.toUInt32 31)).toInt32) &&& (858993459 : Int32)))).toUInt32 >>> (((4 : Int32)).toUInt32 &&& Int32.toUInt32 31)).toInt32)) &&& (252645135 : Int32)) + ((((((((l0 - ((((l0).toUInt32 >>> (((1 : Int32)).toUInt32 &&& Int32.toUInt32 31)).toInt32) &&& (1431655765 : Int32))) &&& (858993459 : Int32)) + (((((l0 - ((((l0).toUInt32 >>> (((1 : Int32)).toUInt32 &&& Int32.toUInt32 31)).toInt32) &&& (1431655765 : Int32)))).toUInt32 >>> (((2 : Int32)).toUInt32 &&& Int32.toUInt32 31)).toInt32) &&& (858993459 : Int32))) + ((((((l0 - ((((l0).toUInt32 >>> (((1 : Int32)).toUInt32 &&& Int32.toUInt32 31)).toInt32) &&& (1431655765 : Int32))) &&& (858993459 : Int32)) + (((((l0 - ((((l0).toUInt32 >>> (((1 : Int32)).toUInt32 &&& Int32.toUInt32 31)).toInt32) &&& (1431655765 : Int32)))).toUInt32 >>> (((2 : Int32)).toUInt32 &&& Int32.toUInt32 31)).toInt32) &&& (858993459 : Int32)))).toUInt32 >>> (((4 : Int32)).toUInt32 &&& Int32.toUInt32 31)).toInt32)) &&& (252645135 : Int32))).toUInt32 >>> (((8 : Int32)).toUInt32 &&& Int32.toUInt32 31)).toInt32))).toUInt32 >>> (((16 : Int32)).toUInt32 &&& Int32.toUInt32 31)).toInt32)) &&& (63 : Int32)))
theorem c207 {xs : Option (List Int32)} {M : JM} (l0 : Int32) : JG xs 0 207 (f207 l0) (fun x r => r = (some (.int x), (jE0, M))) (0, [(0, .int l0)], [], (jE0, M)) := by
    unfold f207
    refine g_pure (c' := (52, [(0, .int (((((((l0 - ((((l0).toUInt32 >>> (((1 : Int32)).toUInt32 &&& Int32.toUInt32 31)).toInt32) &&& (1431655765 : Int32))) &&& (858993459 : Int32)) + (((((l0 - ((((l0).toUInt32 >>> (((1 : Int32)).toUInt32 &&& Int32.toUInt32 31)).toInt32) &&& (1431655765 : Int32)))).toUInt32 >>> (((2 : Int32)).toUInt32 &&& Int32.toUInt32 31)).toInt32) &&& (858993459 : Int32))) + ((((((l0 - ((((l0).toUInt32 >>> (((1 : Int32)).toUInt32 &&& Int32.toUInt32 31)).toInt32) &&& (1431655765 : Int32))) &&& (858993459 : Int32)) + (((((l0 - ((((l0).toUInt32 >>> (((1 : Int32)).toUInt32 &&& Int32.toUInt32 31)).toInt32) &&& (1431655765 : Int32)))).toUInt32 >>> (((2 : Int32)).toUInt32 &&& Int32.toUInt32 31)).toInt32) &&& (858993459 : Int32)))).toUInt32 >>> (((4 : Int32)).toUInt32 &&& Int32.toUInt32 31)).toInt32)) &&& (252645135 : Int32)) + ((((((((l0 - ((((l0).toUInt32 >>> (((1 : Int32)).toUInt32 &&& Int32.toUInt32 31)).toInt32) &&& (1431655765 : Int32))) &&& (858993459 : Int32)) + (((((l0 - ((((l0).toUInt32 >>> (((1 : Int32)).toUInt32 &&& Int32.toUInt32 31)).toInt32) &&& (1431655765 : Int32)))).toUInt32 >>> (((2 : Int32)).toUInt32 &&& Int32.toUInt32 31)).toInt32) &&& (858993459 : Int32))) + ((((((l0 - ((((l0).toUInt32 >>> (((1 : Int32)).toUInt32 &&& Int32.toUInt32 31)).toInt32) &&& (1431655765 : Int32))) &&& (858993459 : Int32)) + (((((l0 - ((((l0).toUInt32 >>> (((1 : Int32)).toUInt32 &&& Int32.toUInt32 31)).toInt32) &&& (1431655765 : Int32)))).toUInt32 >>> (((2 : Int32)).toUInt32 &&& Int32.toUInt32 31)).toInt32) &&& (858993459 : Int32)))).toUInt32 >>> (((4 : Int32)).toUInt32 &&& Int32.toUInt32 31)).toInt32)) &&& (252645135 : Int32))).toUInt32 >>> (((8 : Int32)).toUInt32 &&& Int32.toUInt32 31)).toInt32)) + (((((((((l0 - ((((l0).toUInt32 >>> (((1 : Int32)).toUInt32 &&& Int32.toUInt32 31)).toInt32) &&& (1431655765 : Int32))) &&& (858993459 : Int32)) + (((((l0 - ((((l0).toUInt32 >>> (((1 : Int32)).toUInt32 &&& Int32.toUInt32 31)).toInt32) &&& (1431655765 : Int32)))).toUInt32 >>> (((2 : Int32)).toUInt32 &&& Int32.toUInt32 31)).toInt32) &&& (858993459 : Int32))) + ((((((l0 - ((((l0).toUInt32 >>> (((1 : Int32)).toUInt32 &&& Int32.toUInt32 31)).toInt32) &&& (1431655765 : Int32))) &&& (858993459 : Int32)) + (((((l0 - ((((l0).toUInt32 >>> (((1 : Int32)).toUInt32 &&& Int32.toUInt32 31)).toInt32) &&& (1431655765 : Int32)))).toUInt32 >>> (((2 : Int32)).toUInt32 &&& Int32.toUInt32 31)).toInt32) &&& (858993459 : Int32)))).toUInt32 >>> (((4 : Int32)).toUInt32 &&& Int32.toUInt32 31)).toInt32)) &&& (252645135 : Int32)) + ((((((((l0 - ((((l0).toUInt32 >>> (((1 : Int32)).toUInt32 &&& Int32.toUInt32 31)).toInt32) &&& (1431655765 : Int32))) &&& (858993459 : Int32)) + (((((l0 - ((((l0).toUInt32 >>> (((1 : Int32)).toUInt32 &&& Int32.toUInt32 31)).toInt32) &&& (1431655765 : Int32)))).toUInt32 >>> (((2 : Int32)).toUInt32 &&& Int32.toUInt32 31)).toInt32) &&& (858993459 : Int32))) + ((((((l0 - ((((l0).toUInt32 >>> (((1 : Int32)).toUInt32 &&& Int32.toUInt32 31)).toInt32) &&& (1431655765 : Int32))) &&& (858993459 : Int32)) + (((((l0 - ((((l0).toUInt32 >>> (((1 : Int32)).toUInt32 &&& Int32.toUInt32 31)).toInt32) &&& (1431655765 : Int32)))).toUInt32 >>> (((2 : Int32)).toUInt32 &&& Int32.toUInt32 31)).toInt32) &&& (858993459 : Int32)))).toUInt32 >>> (((4 : Int32)).toUInt32 &&& Int32.toUInt32 31)).toInt32)) &&& (252645135 : Int32))).toUInt32 >>> (((8 : Int32)).toUInt32 &&& Int32.toUInt32 31)).toInt32))).toUInt32 >>> (((16 : Int32)).toUInt32 &&& Int32.toUInt32 31)).toInt32)))], [.int ((((((((l0 - ((((l0).toUInt32 >>> (((1 : Int32)).toUInt32 &&& Int32.toUInt32 31)).toInt32) &&& (1431655765 : Int32))) &&& (858993459 : Int32)) + (((((l0 - ((((l0).toUInt32 >>> (((1 : Int32)).toUInt32 &&& Int32.toUInt32 31)).toInt32) &&& (1431655765 : Int32)))).toUInt32 >>> (((2 : Int32)).toUInt32 &&& Int32.toUInt32 31)).toInt32) &&& (858993459 : Int32))) + ((((((l0 - ((((l0).toUInt32 >>> (((1 : Int32)).toUInt32 &&& Int32.toUInt32 31)).toInt32) &&& (1431655765 : Int32))) &&& (858993459 : Int32)) + (((((l0 - ((((l0).toUInt32 >>> (((1 : Int32)).toUInt32 &&& Int32.toUInt32 31)).toInt32) &&& (1431655765 : Int32)))).toUInt32 >>> (((2 : Int32)).toUInt32 &&& Int32.toUInt32 31)).toInt32) &&& (858993459 : Int32)))).toUInt32 >>> (((4 : Int32)).toUInt32 &&& Int32.toUInt32 31)).toInt32)) &&& (252645135 : Int32)) + ((((((((l0 - ((((l0).toUInt32 >>> (((1 : Int32)).toUInt32 &&& Int32.toUInt32 31)).toInt32) &&& (1431655765 : Int32))) &&& (858993459 : Int32)) + (((((l0 - ((((l0).toUInt32 >>> (((1 : Int32)).toUInt32 &&& Int32.toUInt32 31)).toInt32) &&& (1431655765 : Int32)))).toUInt32 >>> (((2 : Int32)).toUInt32 &&& Int32.toUInt32 31)).toInt32) &&& (858993459 : Int32))) + ((((((l0 - ((((l0).toUInt32 >>> (((1 : Int32)).toUInt32 &&& Int32.toUInt32 31)).toInt32) &&& (1431655765 : Int32))) &&& (858993459 : Int32)) + (((((l0 - ((((l0).toUInt32 >>> (((1 : Int32)).toUInt32 &&& Int32.toUInt32 31)).toInt32) &&& (1431655765 : Int32)))).toUInt32 >>> (((2 : Int32)).toUInt32 &&& Int32.toUInt32 31)).toInt32) &&& (858993459 : Int32)))).toUInt32 >>> (((4 : Int32)).toUInt32 &&& Int32.toUInt32 31)).toInt32)) &&& (252645135 : Int32))).toUInt32 >>> (((8 : Int32)).toUInt32 &&& Int32.toUInt32 31)).toInt32)) + (((((((((l0 - ((((l0).toUInt32 >>> (((1 : Int32)).toUInt32 &&& Int32.toUInt32 31)).toInt32) &&& (1431655765 : Int32))) &&& (858993459 : Int32)) + (((((l0 - ((((l0).toUInt32 >>> (((1 : Int32)).toUInt32 &&& Int32.toUInt32 31)).toInt32) &&& (1431655765 : Int32)))).toUInt32 >>> (((2 : Int32)).toUInt32 &&& Int32.toUInt32 31)).toInt32) &&& (858993459 : Int32))) + ((((((l0 - ((((l0).toUInt32 >>> (((1 : Int32)).toUInt32 &&& Int32.toUInt32 31)).toInt32) &&& (1431655765 : Int32))) &&& (858993459 : Int32)) + (((((l0 - ((((l0).toUInt32 >>> (((1 : Int32)).toUInt32 &&& Int32.toUInt32 31)).toInt32) &&& (1431655765 : Int32)))).toUInt32 >>> (((2 : Int32)).toUInt32 &&& Int32.toUInt32 31)).toInt32) &&& (858993459 : Int32)))).toUInt32 >>> (((4 : Int32)).toUInt32 &&& Int32.toUInt32 31)).toInt32)) &&& (252645135 : Int32)) + ((((((((l0 - ((((l0).toUInt32 >>> (((1 : Int32)).toUInt32 &&& Int32.toUInt32 31)).toInt32) &&& (1431655765 : Int32))) &&& (858993459 : Int32)) + (((((l0 - ((((l0).toUInt32 >>> (((1 : Int32)).toUInt32 &&& Int32.toUInt32 31)).toInt32) &&& (1431655765 : Int32)))).toUInt32 >>> (((2 : Int32)).toUInt32 &&& Int32.toUInt32 31)).toInt32) &&& (858993459 : Int32))) + ((((((l0 - ((((l0).toUInt32 >>> (((1 : Int32)).toUInt32 &&& Int32.toUInt32 31)).toInt32) &&& (1431655765 : Int32))) &&& (858993459 : Int32)) + (((((l0 - ((((l0).toUInt32 >>> (((1 : Int32)).toUInt32 &&& Int32.toUInt32 31)).toInt32) &&& (1431655765 : Int32)))).toUInt32 >>> (((2 : Int32)).toUInt32 &&& Int32.toUInt32 31)).toInt32) &&& (858993459 : Int32)))).toUInt32 >>> (((4 : Int32)).toUInt32 &&& Int32.toUInt32 31)).toInt32)) &&& (252645135 : Int32))).toUInt32 >>> (((8 : Int32)).toUInt32 &&& Int32.toUInt32 31)).toInt32))).toUInt32 >>> (((16 : Int32)).toUInt32 &&& Int32.toUInt32 31)).toInt32)) &&& (63 : Int32))], (jE0, M))) 41 rfl ?_
    exact g_ret rfl rfl (fun _ h => h)
def f22_4 (M : JM) : Nat → Nat → Int32 → Int32 → Int32 → Option Int32
  | 0, _, _, _, _ => none
  | n + 1, l0, l1, l2, l3 => (if l3 < (M l0 0) then ((f21 M l0 l3 l1).bind fun v2 => ((f207 v2).bind fun v3 => ((f22_4 M n) l0 l1 (l2 + v3) (l3 + (1 : Int32))))) else ((jdv l2 (2 : Int32)).bind fun v4 => (some v4)))
theorem c22_4 {xs : Option (List Int32)} {M : JM} : ∀ (n : Nat) (l0 : Nat) (l1 : Int32) (l2 : Int32) (l3 : Int32) (pl0 : jok jE0 l0 0 = true), JG xs 4 22 (f22_4 M n l0 l1 l2 l3) (fun x r => r = (some (.int x), (jE0, M))) (4, [(0, .ref l0), (1, .int l1), (2, .int l2), (3, .int l3)], [], (jE0, M))
  | 0, _, _, _, _, _ => by rw [f22_4]; exact g_none
  | n + 1, l0, l1, l2, l3, pl0 => by
    rw [f22_4]
    refine g_pure (c' := (6, [(0, .ref l0), (1, .int l1), (2, .int l2), (3, .int l3)], [.ref l0, .int l3], (jE0, M))) 2 rfl ?_
    refine g_gf (ci := 0) (k := 0) rfl rfl rfl pl0 ?_
    refine g_ic_ge (tgt := 30) rfl rfl (fun q1 => ?_) (fun q1 => ?_)
    · refine g_pure (c' := (16, [(0, .ref l0), (1, .int l1), (2, .int l2), (3, .int l3)], [.int l1, .int l3, .ref l0, .int l2], (jE0, M))) 4 rfl ?_
      refine g_cI rfl (jc_v rfl rfl (jv_o pl0 rfl) rfl) (c21 l0 l3 l1 pl0) (by decide) (fun v2 qv2 => ?_)
      refine g_cI rfl (jc_s rfl rfl) (c207 v2) (by decide) (fun v3 qv3 => ?_)
      refine g_pure (c' := (4, [(3, .int (l3 + (1 : Int32))), (2, .int (l2 + v3)), (0, .ref l0), (1, .int l1)], [], (jE0, M))) 4 rfl ?_
      refine g_weakk (lv := [(0, .ref l0), (1, .int l1), (2, .int (l2 + v3)), (3, .int (l3 + (1 : Int32)))]) ⟨rfl, rfl, rfl, rfl, trivial⟩ [0, 1, 2, 3] rfl (by decide) [3, 2, 0, 1] rfl (by decide) ?_
      exact ((c22_4 n) l0 l1 (l2 + v3) (l3 + (1 : Int32)) pl0)
    · refine g_pure (c' := (32, [(0, .ref l0), (1, .int l1), (2, .int l2), (3, .int l3)], [.int (2 : Int32), .int l2], (jE0, M))) 2 rfl ?_
      refine g_d1 rfl (fun v4 => ?_)
      exact g_ret rfl rfl (fun _ h => h)
/-- CometKin$Country.pairsOfKin -/
def f22 (M : JM) (l0 : Nat) (l1 : Int32) : Option Int32 := (f22_4 M 1000 l0 l1 (0 : Int32) (0 : Int32))
theorem c22 {xs : Option (List Int32)} {M : JM} (l0 : Nat) (l1 : Int32) (pl0 : jok jE0 l0 0 = true) : JG xs 4 22 (f22 M l0 l1) (fun x r => r = (some (.int x), (jE0, M))) (0, [(0, .ref l0), (1, .int l1)], [], (jE0, M)) := by
    unfold f22
    refine g_pure (c' := (4, [(3, .int (0 : Int32)), (2, .int (0 : Int32)), (0, .ref l0), (1, .int l1)], [], (jE0, M))) 4 rfl ?_
    refine g_weakk (lv := [(0, .ref l0), (1, .int l1), (2, .int (0 : Int32)), (3, .int (0 : Int32))]) ⟨rfl, rfl, rfl, rfl, trivial⟩ [0, 1, 2, 3] rfl (by decide) [3, 2, 0, 1] rfl (by decide) ?_
    exact (c22_4 1000 l0 l1 (0 : Int32) (0 : Int32) pl0)
