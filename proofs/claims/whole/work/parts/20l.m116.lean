def f116_66 (h10 : Nat → Int32 → JM → Option JM) (h25 : Nat → Int32 → Int32 → JM → Option JM) (l0 : Nat) (l1 : Int32) (l2 : Int32) (M : JM) : Option JM := (h25 l0 l1 (l2 + (1 : Int32)) M)
set_option maxRecDepth 100000 in
theorem c116_66 {xs : Option (List Int32)} (h10 : Nat → Int32 → JM → Option JM) (H10 : ∀ (l0 : Nat) (l1 : Int32) (M : JM) (pl0 : jok jE0 l0 6 = true), JG xs 5 116 (h10 l0 l1 M) (fun x r => r = (none, (jE0, x))) (10, [(0, .ref l0), (1, .int l1)], [], (jE0, M))) (h25 : Nat → Int32 → Int32 → JM → Option JM) (H25 : ∀ (l0 : Nat) (l1 : Int32) (l2 : Int32) (M : JM) (pl0 : jok jE0 l0 6 = true), JG xs 5 116 (h25 l0 l1 l2 M) (fun x r => r = (none, (jE0, x))) (25, [(0, .ref l0), (1, .int l1), (2, .int l2)], [], (jE0, M))) : ∀ (l0 : Nat) (l1 : Int32) (l2 : Int32) (M : JM) (pl0 : jok jE0 l0 6 = true), JG xs 5 116 (f116_66 h10 h25 l0 l1 l2 M) (fun x r => r = (none, (jE0, x))) (66, [(0, .ref l0), (1, .int l1), (2, .int l2)], [], (jE0, M)) := by
    intro l0 l1 l2 M pl0
    unfold f116_66
    refine g_pure (c' := (25, [(2, .int (l2 + (1 : Int32))), (0, .ref l0), (1, .int l1)], [], (jE0, M))) 2 rfl ?_
    refine g_weakk (lv := [(0, .ref l0), (1, .int l1), (2, .int (l2 + (1 : Int32)))]) ⟨rfl, rfl, rfl, trivial⟩ [0, 1, 2] rfl (by decide) [2, 0, 1] rfl (by decide) ?_
    exact (H25 l0 l1 (l2 + (1 : Int32)) M pl0)
def f116_25 (h10 : Nat → Int32 → JM → Option JM) : Nat → Nat → Int32 → Int32 → JM → Option JM
  | 0, _, _, _, _ => none
  | n + 1, l0, l1, l2, M => (if l2 < (M (jpt l0 1) 0) then ((f109 M l0 l1 l2).bind fun v4 => (if v4 = (0 : Int32) then (f116_66 h10 (f116_25 h10 n) l0 l1 l2 M) else ((f42 M (jpt l0 10) l1).bind fun v6 => ((f100 l2).bind fun v7 => ((f43 (jpt l0 10) l1 (v6 ||| v7) M).bind fun M8 => (f116_66 h10 (f116_25 h10 n) l0 l1 l2 M8)))))) else (h10 l0 (l1 + (1 : Int32)) M))
set_option maxRecDepth 100000 in
theorem c116_25 {xs : Option (List Int32)} (h10 : Nat → Int32 → JM → Option JM) (H10 : ∀ (l0 : Nat) (l1 : Int32) (M : JM) (pl0 : jok jE0 l0 6 = true), JG xs 5 116 (h10 l0 l1 M) (fun x r => r = (none, (jE0, x))) (10, [(0, .ref l0), (1, .int l1)], [], (jE0, M))) : ∀ (n : Nat) (l0 : Nat) (l1 : Int32) (l2 : Int32) (M : JM) (pl0 : jok jE0 l0 6 = true), JG xs 5 116 (f116_25 h10 n l0 l1 l2 M) (fun x r => r = (none, (jE0, x))) (25, [(0, .ref l0), (1, .int l1), (2, .int l2)], [], (jE0, M))
  | 0, _, _, _, _, _ => by rw [f116_25]; exact g_none
  | n + 1, l0, l1, l2, M, pl0 => by
    rw [f116_25]
    refine g_pure (c' := (27, [(0, .ref l0), (1, .int l1), (2, .int l2)], [.ref l0, .int l2], (jE0, M))) 2 rfl ?_
    refine g_gp rfl rfl rfl pl0 (jp_ok (kd := 0) pl0 (by decide) (by decide) rfl rfl).1 ?_
    refine g_gf (ci := 0) (k := 0) rfl rfl rfl (jk_ok (kd := 0) pl0 (by decide) (by decide) rfl rfl) ?_
    refine g_ic_ge (tgt := 72) rfl rfl (fun q3 => ?_) (fun q3 => ?_)
    · refine g_pure (c' := (39, [(0, .ref l0), (1, .int l1), (2, .int l2)], [.int l2, .int l1, .ref l0], (jE0, M))) 3 rfl ?_
      refine g_cI rfl (jc_v rfl rfl (jv_o pl0 rfl) rfl) (c109 l0 l1 l2 pl0) (by decide) (fun v4 qv4 => ?_)
      refine g_if_eq (tgt := 66) rfl rfl (fun q5 => ?_) (fun q5 => ?_)
      · exact (c116_66 h10 H10 (f116_25 h10 n) (c116_25 h10 H10 n) l0 l1 l2 M pl0)
      · refine g_pure (c' := (46, [(0, .ref l0), (1, .int l1), (2, .int l2)], [.ref l0], (jE0, M))) 1 rfl ?_
        refine g_gp rfl rfl rfl pl0 (jp_ok (kd := 3) pl0 (by decide) (by decide) rfl rfl).1 ?_
        refine g_pure (c' := (51, [(0, .ref l0), (1, .int l1), (2, .int l2)], [.ref l0, .int l1, .ref (jpt l0 10)], (jE0, M))) 2 rfl ?_
        refine g_gp rfl rfl rfl pl0 (jp_ok (kd := 3) pl0 (by decide) (by decide) rfl rfl).1 ?_
        refine g_pure (c' := (55, [(0, .ref l0), (1, .int l1), (2, .int l2)], [.int l1, .ref (jpt l0 10), .int l1, .ref (jpt l0 10)], (jE0, M))) 1 rfl ?_
        refine g_cI rfl (jc_v rfl rfl (jv_o (jk_ok (kd := 3) pl0 (by decide) (by decide) rfl rfl) rfl) rfl) (c42 (jpt l0 10) l1 (jk_ok (kd := 3) pl0 (by decide) (by decide) rfl rfl)) (by decide) (fun v6 qv6 => ?_)
        refine g_pure (c' := (59, [(0, .ref l0), (1, .int l1), (2, .int l2)], [.int l2, .int v6, .int l1, .ref (jpt l0 10)], (jE0, M))) 1 rfl ?_
        refine g_cI rfl (jc_s rfl rfl) (c100 l2) (by decide) (fun v7 qv7 => ?_)
        refine g_pure (c' := (63, [(0, .ref l0), (1, .int l1), (2, .int l2)], [.int (v6 ||| v7), .int l1, .ref (jpt l0 10)], (jE0, M))) 1 rfl ?_
        refine g_wV rfl (jc_v rfl rfl (jv_o (jk_ok (kd := 3) pl0 (by decide) (by decide) rfl rfl) rfl) rfl) (c43 (jpt l0 10) l1 (v6 ||| v7) M (jk_ok (kd := 3) pl0 (by decide) (by decide) rfl rfl)) (by decide) (fun M8 => ?_)
        exact (c116_66 h10 H10 (f116_25 h10 n) (c116_25 h10 H10 n) l0 l1 l2 M8 pl0)
    · refine g_pure (c' := (10, [(1, .int (l1 + (1 : Int32))), (0, .ref l0), (2, .int l2)], [], (jE0, M))) 2 rfl ?_
      refine g_weakk (lv := [(0, .ref l0), (1, .int (l1 + (1 : Int32)))]) ⟨rfl, rfl, trivial⟩ [0, 1] rfl (by decide) [1, 0, 2] rfl (by decide) ?_
      exact (H10 l0 (l1 + (1 : Int32)) M pl0)
def f116_10  : Nat → Nat → Int32 → JM → Option JM
  | 0, _, _, _ => none
  | n + 1, l0, l1, M => (if l1 < (M (jpt l0 1) 0) then (f116_25 (f116_10 n) 1000 l0 l1 (l1 + (1 : Int32)) M) else (some M))
set_option maxRecDepth 100000 in
theorem c116_10 {xs : Option (List Int32)} : ∀ (n : Nat) (l0 : Nat) (l1 : Int32) (M : JM) (pl0 : jok jE0 l0 6 = true), JG xs 5 116 (f116_10 n l0 l1 M) (fun x r => r = (none, (jE0, x))) (10, [(0, .ref l0), (1, .int l1)], [], (jE0, M))
  | 0, _, _, _, _ => by rw [f116_10]; exact g_none
  | n + 1, l0, l1, M, pl0 => by
    rw [f116_10]
    refine g_pure (c' := (12, [(0, .ref l0), (1, .int l1)], [.ref l0, .int l1], (jE0, M))) 2 rfl ?_
    refine g_gp rfl rfl rfl pl0 (jp_ok (kd := 0) pl0 (by decide) (by decide) rfl rfl).1 ?_
    refine g_gf (ci := 0) (k := 0) rfl rfl rfl (jk_ok (kd := 0) pl0 (by decide) (by decide) rfl rfl) ?_
    refine g_ic_ge (tgt := 78) rfl rfl (fun q2 => ?_) (fun q2 => ?_)
    · refine g_pure (c' := (25, [(2, .int (l1 + (1 : Int32))), (0, .ref l0), (1, .int l1)], [], (jE0, M))) 4 rfl ?_
      refine g_weakk (lv := [(0, .ref l0), (1, .int l1), (2, .int (l1 + (1 : Int32)))]) ⟨rfl, rfl, rfl, trivial⟩ [0, 1, 2] rfl (by decide) [2, 0, 1] rfl (by decide) ?_
      exact (c116_25 (f116_10 n) (c116_10 n) 1000 l0 l1 (l1 + (1 : Int32)) M pl0)
    · exact g_ret rfl rfl (fun _ h => h)
/-- CometKin.findMatches -/
def f116  (l0 : Nat) (M : JM) : Option JM := ((f45 (jpt l0 10) (0 : Int32) M).bind fun M1 => (f116_10 1000 l0 (0 : Int32) M1))
set_option maxRecDepth 100000 in
theorem c116 {xs : Option (List Int32)} (l0 : Nat) (M : JM) (pl0 : jok jE0 l0 6 = true) : JG xs 5 116 (f116 l0 M) (fun x r => r = (none, (jE0, x))) (0, [(0, .ref l0)], [], (jE0, M)) := by
    unfold f116
    refine g_pure (c' := (1, [(0, .ref l0)], [.ref l0], (jE0, M))) 1 rfl ?_
    refine g_gp rfl rfl rfl pl0 (jp_ok (kd := 3) pl0 (by decide) (by decide) rfl rfl).1 ?_
    refine g_pure (c' := (5, [(0, .ref l0)], [.int (0 : Int32), .ref (jpt l0 10)], (jE0, M))) 1 rfl ?_
    refine g_wV rfl (jc_v rfl rfl (jv_o (jk_ok (kd := 3) pl0 (by decide) (by decide) rfl rfl) rfl) rfl) (c45 (jpt l0 10) (0 : Int32) M (jk_ok (kd := 3) pl0 (by decide) (by decide) rfl rfl)) (by decide) (fun M1 => ?_)
    refine g_pure (c' := (10, [(1, .int (0 : Int32)), (0, .ref l0)], [], (jE0, M1))) 2 rfl ?_
    refine g_weakk (lv := [(0, .ref l0), (1, .int (0 : Int32))]) ⟨rfl, rfl, trivial⟩ [0, 1] rfl (by decide) [1, 0] rfl (by decide) ?_
    exact (c116_10 1000 l0 (0 : Int32) M1 pl0)
def f119_2  : Nat → Int32 → Int32 → Option Int32
  | 0, _, _ => none
  | n + 1, l0, l1 => (if l1 < (9 : Int32) then ((f101 l0 l1).bind fun v2 => (if v2 = (0 : Int32) then ((f119_2 n) l0 (l1 + (1 : Int32))) else (some l1))) else (some (-1 : Int32)))
set_option maxRecDepth 100000 in
theorem c119_2 {xs : Option (List Int32)} {M : JM} : ∀ (n : Nat) (l0 : Int32) (l1 : Int32), JG xs 1 119 (f119_2 n l0 l1) (fun x r => r = (some (.int x), (jE0, M))) (2, [(0, .int l0), (1, .int l1)], [], (jE0, M))
  | 0, _, _ => by rw [f119_2]; exact g_none
  | n + 1, l0, l1 => by
    rw [f119_2]
    refine g_pure (c' := (5, [(0, .int l0), (1, .int l1)], [.int (9 : Int32), .int l1], (jE0, M))) 2 rfl ?_
    refine g_ic_ge (tgt := 24) rfl rfl (fun q1 => ?_) (fun q1 => ?_)
    · refine g_pure (c' := (10, [(0, .int l0), (1, .int l1)], [.int l1, .int l0], (jE0, M))) 2 rfl ?_
      refine g_cI rfl (jc_s rfl rfl) (c101 l0 l1) (by decide) (fun v2 qv2 => ?_)
      refine g_if_eq (tgt := 18) rfl rfl (fun q3 => ?_) (fun q3 => ?_)
      · refine g_pure (c' := (2, [(1, .int (l1 + (1 : Int32))), (0, .int l0)], [], (jE0, M))) 2 rfl ?_
        refine g_weakk (lv := [(0, .int l0), (1, .int (l1 + (1 : Int32)))]) ⟨rfl, rfl, trivial⟩ [0, 1] rfl (by decide) [1, 0] rfl (by decide) ?_
        exact ((c119_2 n) l0 (l1 + (1 : Int32)))
      · refine g_pure (c' := (17, [(0, .int l0), (1, .int l1)], [.int l1], (jE0, M))) 1 rfl ?_
        exact g_ret rfl rfl (fun _ h => h)
    · refine g_pure (c' := (25, [(0, .int l0), (1, .int l1)], [.int (-1 : Int32)], (jE0, M))) 1 rfl ?_
      exact g_ret rfl rfl (fun _ h => h)
/-- CometKin.leastOf -/
def f119  (l0 : Int32) : Option Int32 := (f119_2 1000 l0 (0 : Int32))
set_option maxRecDepth 100000 in
theorem c119 {xs : Option (List Int32)} {M : JM} (l0 : Int32) : JG xs 1 119 (f119 l0) (fun x r => r = (some (.int x), (jE0, M))) (0, [(0, .int l0)], [], (jE0, M)) := by
    unfold f119
    refine g_pure (c' := (2, [(1, .int (0 : Int32)), (0, .int l0)], [], (jE0, M))) 2 rfl ?_
    refine g_weakk (lv := [(0, .int l0), (1, .int (0 : Int32))]) ⟨rfl, rfl, trivial⟩ [0, 1] rfl (by decide) [1, 0] rfl (by decide) ?_
    exact (c119_2 1000 l0 (0 : Int32))
def f118_100 (fr : Nat → Int32 → Int32 → Option Int32) (M : JM) (h46 : Nat → Int32 → Int32 → Int32 → Int32 → Int32 → Int32 → Option Int32) (l0 : Nat) (l2 : Int32) (l3 : Int32) (l4 : Int32) (l5 : Int32) (l6 : Int32) (l7 : Int32) : Option Int32 := (h46 l0 l2 l3 l4 l5 l6 (l7 + (1 : Int32)))
set_option maxRecDepth 100000 in
theorem c118_100 {xs : Option (List Int32)} {nf : Nat} (fr : Nat → Int32 → Int32 → Option Int32) {M : JM} (Hr : ∀ (l0 : Nat) (l1 : Int32) (l2 : Int32) (_ : jok jE0 l0 3 = true), JG xs (nf + 2) 118 (fr l0 l1 l2) (fun x r => r = (some (.int x), (jE0, M))) (0, [(0, .ref l0), (1, .int l1), (2, .int l2)], [], (jE0, M))) (h46 : Nat → Int32 → Int32 → Int32 → Int32 → Int32 → Int32 → Option Int32) (H46 : ∀ (l0 : Nat) (l2 : Int32) (l3 : Int32) (l4 : Int32) (l5 : Int32) (l6 : Int32) (l7 : Int32) (pl0 : jok jE0 l0 3 = true), JG xs (nf + 3) 118 (h46 l0 l2 l3 l4 l5 l6 l7) (fun x r => r = (some (.int x), (jE0, M))) (46, [(0, .ref l0), (2, .int l2), (3, .int l3), (4, .int l4), (5, .int l5), (6, .int l6), (7, .int l7)], [], (jE0, M))) : ∀ (l0 : Nat) (l2 : Int32) (l3 : Int32) (l4 : Int32) (l5 : Int32) (l6 : Int32) (l7 : Int32) (pl0 : jok jE0 l0 3 = true), JG xs (nf + 3) 118 (f118_100 fr M h46 l0 l2 l3 l4 l5 l6 l7) (fun x r => r = (some (.int x), (jE0, M))) (100, [(0, .ref l0), (2, .int l2), (3, .int l3), (4, .int l4), (5, .int l5), (6, .int l6), (7, .int l7)], [], (jE0, M)) := by
    intro l0 l2 l3 l4 l5 l6 l7 pl0
    unfold f118_100
    refine g_pure (c' := (46, [(7, .int (l7 + (1 : Int32))), (0, .ref l0), (2, .int l2), (3, .int l3), (4, .int l4), (5, .int l5), (6, .int l6)], [], (jE0, M))) 2 rfl ?_
    refine g_weakk (lv := [(0, .ref l0), (2, .int l2), (3, .int l3), (4, .int l4), (5, .int l5), (6, .int l6), (7, .int (l7 + (1 : Int32)))]) ⟨rfl, rfl, rfl, rfl, rfl, rfl, rfl, trivial⟩ [0, 2, 3, 4, 5, 6, 7] rfl (by decide) [7, 0, 2, 3, 4, 5, 6] rfl (by decide) ?_
    exact (H46 l0 l2 l3 l4 l5 l6 (l7 + (1 : Int32)) pl0)
def f118_106 (fr : Nat → Int32 → Int32 → Option Int32) (M : JM) (l0 : Nat) (l2 : Int32) (l3 : Int32) (l4 : Int32) (l6 : Int32) : Option Int32 := (if l3 < l4 then ((fr l0 l6 (l2 + (1 : Int32))).bind fun v16 => ((f208 l3 v16).bind fun v17 => (some v17))) else (some l3))
set_option maxRecDepth 100000 in
theorem c118_106 {xs : Option (List Int32)} {nf : Nat} (fr : Nat → Int32 → Int32 → Option Int32) {M : JM} (Hr : ∀ (l0 : Nat) (l1 : Int32) (l2 : Int32) (_ : jok jE0 l0 3 = true), JG xs (nf + 2) 118 (fr l0 l1 l2) (fun x r => r = (some (.int x), (jE0, M))) (0, [(0, .ref l0), (1, .int l1), (2, .int l2)], [], (jE0, M))) : ∀ (l0 : Nat) (l2 : Int32) (l3 : Int32) (l4 : Int32) (l6 : Int32) (pl0 : jok jE0 l0 3 = true), JG xs (nf + 3) 118 (f118_106 fr M l0 l2 l3 l4 l6) (fun x r => r = (some (.int x), (jE0, M))) (106, [(0, .ref l0), (2, .int l2), (3, .int l3), (4, .int l4), (6, .int l6)], [], (jE0, M)) := by
    intro l0 l2 l3 l4 l6 pl0
    unfold f118_106
    refine g_pure (c' := (109, [(0, .ref l0), (2, .int l2), (3, .int l3), (4, .int l4), (6, .int l6)], [.int l4, .int l3], (jE0, M))) 2 rfl ?_
    refine g_ic_ge (tgt := 128) rfl rfl (fun q15 => ?_) (fun q15 => ?_)
    · refine g_pure (c' := (119, [(0, .ref l0), (2, .int l2), (3, .int l3), (4, .int l4), (6, .int l6)], [.int (l2 + (1 : Int32)), .int l6, .ref l0, .int l3], (jE0, M))) 6 rfl ?_
      refine g_cI rfl (jc_s rfl rfl) (Hr l0 l6 (l2 + (1 : Int32)) pl0) (Nat.le_refl _) (fun v16 qv16 => ?_)
      refine g_cI rfl (jc_s rfl rfl) (c208 l3 v16) (by omega) (fun v17 qv17 => ?_)
      refine g_pure (c' := (129, [(0, .ref l0), (2, .int l2), (3, .int l3), (4, .int l4), (6, .int l6)], [.int v17], (jE0, M))) 1 rfl ?_
      exact g_ret rfl rfl (fun _ h => h)
    · refine g_pure (c' := (129, [(0, .ref l0), (2, .int l2), (3, .int l3), (4, .int l4), (6, .int l6)], [.int l3], (jE0, M))) 1 rfl ?_
      exact g_ret rfl rfl (fun _ h => h)
def f118_46 (fr : Nat → Int32 → Int32 → Option Int32) (M : JM) : Nat → Nat → Int32 → Int32 → Int32 → Int32 → Int32 → Int32 → Option Int32
  | 0, _, _, _, _, _, _, _ => none
  | n + 1, l0, l2, l3, l4, l5, l6, l7 => (if l7 < (9 : Int32) then (if l3 < l4 then ((f42 M l0 l5).bind fun v9 => ((f101 (v9 &&& l6) l7).bind fun v10 => (if v10 = (0 : Int32) then (f118_100 fr M (f118_46 fr M n) l0 l2 l3 l4 l5 l6 l7) else ((f100 l7).bind fun v12 => ((fr l0 (l6 &&& (v12 ^^^ (-1 : Int32))) (l2 + (1 : Int32))).bind fun v13 => ((f208 l3 ((1 : Int32) + v13)).bind fun v14 => (f118_100 fr M (f118_46 fr M n) l0 l2 v14 l4 l5 l6 l7))))))) else (f118_106 fr M l0 l2 l3 l4 l6)) else (f118_106 fr M l0 l2 l3 l4 l6))
set_option maxRecDepth 100000 in
theorem c118_46 {xs : Option (List Int32)} {nf : Nat} (fr : Nat → Int32 → Int32 → Option Int32) {M : JM} (Hr : ∀ (l0 : Nat) (l1 : Int32) (l2 : Int32) (_ : jok jE0 l0 3 = true), JG xs (nf + 2) 118 (fr l0 l1 l2) (fun x r => r = (some (.int x), (jE0, M))) (0, [(0, .ref l0), (1, .int l1), (2, .int l2)], [], (jE0, M))) : ∀ (n : Nat) (l0 : Nat) (l2 : Int32) (l3 : Int32) (l4 : Int32) (l5 : Int32) (l6 : Int32) (l7 : Int32) (pl0 : jok jE0 l0 3 = true), JG xs (nf + 3) 118 (f118_46 fr M n l0 l2 l3 l4 l5 l6 l7) (fun x r => r = (some (.int x), (jE0, M))) (46, [(0, .ref l0), (2, .int l2), (3, .int l3), (4, .int l4), (5, .int l5), (6, .int l6), (7, .int l7)], [], (jE0, M))
  | 0, _, _, _, _, _, _, _, _ => by rw [f118_46]; exact g_none
  | n + 1, l0, l2, l3, l4, l5, l6, l7, pl0 => by
    rw [f118_46]
    refine g_pure (c' := (50, [(0, .ref l0), (2, .int l2), (3, .int l3), (4, .int l4), (5, .int l5), (6, .int l6), (7, .int l7)], [.int (9 : Int32), .int l7], (jE0, M))) 2 rfl ?_
    refine g_ic_ge (tgt := 106) rfl rfl (fun q7 => ?_) (fun q7 => ?_)
    · refine g_pure (c' := (56, [(0, .ref l0), (2, .int l2), (3, .int l3), (4, .int l4), (5, .int l5), (6, .int l6), (7, .int l7)], [.int l4, .int l3], (jE0, M))) 2 rfl ?_
      refine g_ic_ge (tgt := 106) rfl rfl (fun q8 => ?_) (fun q8 => ?_)
      · refine g_pure (c' := (62, [(0, .ref l0), (2, .int l2), (3, .int l3), (4, .int l4), (5, .int l5), (6, .int l6), (7, .int l7)], [.int l5, .ref l0], (jE0, M))) 2 rfl ?_
        refine g_cI rfl (jc_v rfl rfl (jv_o pl0 rfl) rfl) (c42 l0 l5 pl0) (by omega) (fun v9 qv9 => ?_)
        refine g_pure (c' := (70, [(0, .ref l0), (2, .int l2), (3, .int l3), (4, .int l4), (5, .int l5), (6, .int l6), (7, .int l7)], [.int l7, .int (v9 &&& l6)], (jE0, M))) 3 rfl ?_
        refine g_cI rfl (jc_s rfl rfl) (c101 (v9 &&& l6) l7) (by omega) (fun v10 qv10 => ?_)
        refine g_if_eq (tgt := 100) rfl rfl (fun q11 => ?_) (fun q11 => ?_)
        · exact (c118_100 fr Hr (f118_46 fr M n) (c118_46 fr Hr n) l0 l2 l3 l4 l5 l6 l7 pl0)
        · refine g_pure (c' := (83, [(0, .ref l0), (2, .int l2), (3, .int l3), (4, .int l4), (5, .int l5), (6, .int l6), (7, .int l7)], [.int l7, .int l6, .ref l0, .int (1 : Int32), .int l3], (jE0, M))) 5 rfl ?_
          refine g_cI rfl (jc_s rfl rfl) (c100 l7) (by omega) (fun v12 qv12 => ?_)
          refine g_pure (c' := (92, [(0, .ref l0), (2, .int l2), (3, .int l3), (4, .int l4), (5, .int l5), (6, .int l6), (7, .int l7)], [.int (l2 + (1 : Int32)), .int (l6 &&& (v12 ^^^ (-1 : Int32))), .ref l0, .int (1 : Int32), .int l3], (jE0, M))) 6 rfl ?_
          refine g_cI rfl (jc_s rfl rfl) (Hr l0 (l6 &&& (v12 ^^^ (-1 : Int32))) (l2 + (1 : Int32)) pl0) (Nat.le_refl _) (fun v13 qv13 => ?_)
          refine g_pure (c' := (96, [(0, .ref l0), (2, .int l2), (3, .int l3), (4, .int l4), (5, .int l5), (6, .int l6), (7, .int l7)], [.int ((1 : Int32) + v13), .int l3], (jE0, M))) 1 rfl ?_
          refine g_cI rfl (jc_s rfl rfl) (c208 l3 ((1 : Int32) + v13)) (by omega) (fun v14 qv14 => ?_)
          refine g_pure (c' := (100, [(3, .int v14), (0, .ref l0), (2, .int l2), (4, .int l4), (5, .int l5), (6, .int l6), (7, .int l7)], [], (jE0, M))) 1 rfl ?_
          refine g_weakk (lv := [(0, .ref l0), (2, .int l2), (3, .int v14), (4, .int l4), (5, .int l5), (6, .int l6), (7, .int l7)]) ⟨rfl, rfl, rfl, rfl, rfl, rfl, rfl, trivial⟩ [0, 2, 3, 4, 5, 6, 7] rfl (by decide) [3, 0, 2, 4, 5, 6, 7] rfl (by decide) ?_
          exact (c118_100 fr Hr (f118_46 fr M n) (c118_46 fr Hr n) l0 l2 v14 l4 l5 l6 l7 pl0)
      · refine g_weakk (lv := [(0, .ref l0), (2, .int l2), (3, .int l3), (4, .int l4), (6, .int l6)]) ⟨rfl, rfl, rfl, rfl, rfl, trivial⟩ [0, 2, 3, 4, 6] rfl (by decide) [0, 2, 3, 4, 5, 6, 7] rfl (by decide) ?_
        exact (c118_106 fr Hr l0 l2 l3 l4 l6 pl0)
    · refine g_weakk (lv := [(0, .ref l0), (2, .int l2), (3, .int l3), (4, .int l4), (6, .int l6)]) ⟨rfl, rfl, rfl, rfl, rfl, trivial⟩ [0, 2, 3, 4, 6] rfl (by decide) [0, 2, 3, 4, 5, 6, 7] rfl (by decide) ?_
      exact (c118_106 fr Hr l0 l2 l3 l4 l6 pl0)
/-- CometKin.mostPairs -/
def f118b (fr : Nat → Int32 → Int32 → Option Int32) (M : JM) (l0 : Nat) (l1 : Int32) (l2 : Int32) : Option Int32 := ((f207 l1).bind fun v1 => ((jdv v1 (2 : Int32)).bind fun v2 => (if v2 = (0 : Int32) then (some (0 : Int32)) else (if (9 : Int32) < l2 then (some (0 : Int32)) else ((f119 l1).bind fun v5 => ((f100 v5).bind fun v6 => (f118_46 fr M 1000 l0 l2 (0 : Int32) v2 v5 (l1 &&& (v6 ^^^ (-1 : Int32))) (v5 + (1 : Int32)))))))))
set_option maxRecDepth 100000 in
theorem c118b {xs : Option (List Int32)} {nf : Nat} (fr : Nat → Int32 → Int32 → Option Int32) {M : JM} (Hr : ∀ (l0 : Nat) (l1 : Int32) (l2 : Int32) (_ : jok jE0 l0 3 = true), JG xs (nf + 2) 118 (fr l0 l1 l2) (fun x r => r = (some (.int x), (jE0, M))) (0, [(0, .ref l0), (1, .int l1), (2, .int l2)], [], (jE0, M))) (l0 : Nat) (l1 : Int32) (l2 : Int32) (pl0 : jok jE0 l0 3 = true) : JG xs (nf + 3) 118 (f118b fr M l0 l1 l2) (fun x r => r = (some (.int x), (jE0, M))) (0, [(0, .ref l0), (1, .int l1), (2, .int l2)], [], (jE0, M)) := by
    unfold f118b
    refine g_pure (c' := (3, [(3, .int (0 : Int32)), (0, .ref l0), (1, .int l1), (2, .int l2)], [.int l1], (jE0, M))) 3 rfl ?_
    refine g_cI rfl (jc_s rfl rfl) (c207 l1) (by omega) (fun v1 qv1 => ?_)
    refine g_pure (c' := (7, [(3, .int (0 : Int32)), (0, .ref l0), (1, .int l1), (2, .int l2)], [.int (2 : Int32), .int v1], (jE0, M))) 1 rfl ?_
    refine g_d1 rfl (fun v2 => ?_)
    refine g_pure (c' := (12, [(4, .int v2), (3, .int (0 : Int32)), (0, .ref l0), (1, .int l1), (2, .int l2)], [.int v2], (jE0, M))) 2 rfl ?_
    refine g_if_eq (tgt := 21) rfl rfl (fun q3 => ?_) (fun q3 => ?_)
    · refine g_pure (c' := (22, [(4, .int v2), (3, .int (0 : Int32)), (0, .ref l0), (1, .int l1), (2, .int l2)], [.int (0 : Int32)], (jE0, M))) 1 rfl ?_
      exact g_ret rfl rfl (fun _ h => h)
    · refine g_pure (c' := (18, [(4, .int v2), (3, .int (0 : Int32)), (0, .ref l0), (1, .int l1), (2, .int l2)], [.int (9 : Int32), .int l2], (jE0, M))) 2 rfl ?_
      refine g_ic_le (tgt := 23) rfl rfl (fun q4 => ?_) (fun q4 => ?_)
      · refine g_pure (c' := (22, [(4, .int v2), (3, .int (0 : Int32)), (0, .ref l0), (1, .int l1), (2, .int l2)], [.int (0 : Int32)], (jE0, M))) 1 rfl ?_
        exact g_ret rfl rfl (fun _ h => h)
      · refine g_pure (c' := (24, [(4, .int v2), (3, .int (0 : Int32)), (0, .ref l0), (1, .int l1), (2, .int l2)], [.int l1], (jE0, M))) 1 rfl ?_
        refine g_cI rfl (jc_s rfl rfl) (c119 l1) (by omega) (fun v5 qv5 => ?_)
        refine g_pure (c' := (32, [(5, .int v5), (4, .int v2), (3, .int (0 : Int32)), (0, .ref l0), (1, .int l1), (2, .int l2)], [.int v5, .int l1], (jE0, M))) 3 rfl ?_
        refine g_cI rfl (jc_s rfl rfl) (c100 v5) (by omega) (fun v6 qv6 => ?_)
        refine g_pure (c' := (46, [(7, .int (v5 + (1 : Int32))), (6, .int (l1 &&& (v6 ^^^ (-1 : Int32)))), (5, .int v5), (4, .int v2), (3, .int (0 : Int32)), (0, .ref l0), (1, .int l1), (2, .int l2)], [], (jE0, M))) 8 rfl ?_
        refine g_weakk (lv := [(0, .ref l0), (2, .int l2), (3, .int (0 : Int32)), (4, .int v2), (5, .int v5), (6, .int (l1 &&& (v6 ^^^ (-1 : Int32)))), (7, .int (v5 + (1 : Int32)))]) ⟨rfl, rfl, rfl, rfl, rfl, rfl, rfl, trivial⟩ [0, 2, 3, 4, 5, 6, 7] rfl (by decide) [7, 6, 5, 4, 3, 0, 1, 2] rfl (by decide) ?_
        exact (c118_46 fr Hr 1000 l0 l2 (0 : Int32) v2 v5 (l1 &&& (v6 ^^^ (-1 : Int32))) (v5 + (1 : Int32)) pl0)
def f118 (M : JM) : Nat → Nat → Int32 → Int32 → Option Int32
  | 0, _, _, _ => none
  | n + 1, l0, l1, l2 => f118b (f118 M n) M l0 l1 l2
theorem c118 {xs : Option (List Int32)} {M : JM} : ∀ (n : Nat) (l0 : Nat) (l1 l2 : Int32) (_ : jok jE0 l0 3 = true), JG xs (n + 2) 118 (f118 M n l0 l1 l2) (fun x r => r = (some (.int x), (jE0, M))) (0, [(0, .ref l0), (1, .int l1), (2, .int l2)], [], (jE0, M))
  | 0, _, _, _, _ => by rw [f118]; exact g_none
  | n + 1, l0, l1, l2, p => by
    rw [f118]
    exact c118b (nf := n) (f118 M n) (c118 n) l0 l1 l2 p
def f117_79 (M : JM) (h25 : Nat → Int32 → Int32 → Int32 → Int32 → Option Int32) (l0 : Nat) (l1 : Int32) (l2 : Int32) (l3 : Int32) (l4 : Int32) : Option Int32 := (h25 l0 l1 l2 l3 (l4 + (1 : Int32)))
set_option maxRecDepth 100000 in
theorem c117_79 {xs : Option (List Int32)} {M : JM} (h25 : Nat → Int32 → Int32 → Int32 → Int32 → Option Int32) (H25 : ∀ (l0 : Nat) (l1 : Int32) (l2 : Int32) (l3 : Int32) (l4 : Int32) (pl0 : jok jE0 l0 6 = true), JG xs 15 117 (h25 l0 l1 l2 l3 l4) (fun x r => r = (some (.int x), (jE0, M))) (25, [(0, .ref l0), (1, .int l1), (2, .int l2), (3, .int l3), (4, .int l4)], [], (jE0, M))) : ∀ (l0 : Nat) (l1 : Int32) (l2 : Int32) (l3 : Int32) (l4 : Int32) (pl0 : jok jE0 l0 6 = true), JG xs 15 117 (f117_79 M h25 l0 l1 l2 l3 l4) (fun x r => r = (some (.int x), (jE0, M))) (79, [(0, .ref l0), (1, .int l1), (2, .int l2), (3, .int l3), (4, .int l4)], [], (jE0, M)) := by
    intro l0 l1 l2 l3 l4 pl0
    unfold f117_79
    refine g_pure (c' := (25, [(4, .int (l4 + (1 : Int32))), (0, .ref l0), (1, .int l1), (2, .int l2), (3, .int l3)], [], (jE0, M))) 2 rfl ?_
    refine g_weakk (lv := [(0, .ref l0), (1, .int l1), (2, .int l2), (3, .int l3), (4, .int (l4 + (1 : Int32)))]) ⟨rfl, rfl, rfl, rfl, rfl, trivial⟩ [0, 1, 2, 3, 4] rfl (by decide) [4, 0, 1, 2, 3] rfl (by decide) ?_
    exact (H25 l0 l1 l2 l3 (l4 + (1 : Int32)) pl0)
def f117_25 (M : JM) : Nat → Nat → Int32 → Int32 → Int32 → Int32 → Option Int32
  | 0, _, _, _, _, _ => none
  | n + 1, l0, l1, l2, l3, l4 => (if l4 < (M (jpt l0 1) 0) then ((f42 M (jpt l0 10) l1).bind fun v4 => ((f101 v4 l4).bind fun v5 => (if v5 = (0 : Int32) then (f117_79 M (f117_25 M n) l0 l1 l2 l3 l4) else ((f100 l4).bind fun v7 => ((f118 M 11 (jpt l0 10) (l3 &&& (v7 ^^^ (-1 : Int32))) (0 : Int32)).bind fun v8 => (if ((1 : Int32) + v8) = l2 then (some l4) else (f117_79 M (f117_25 M n) l0 l1 l2 l3 l4))))))) else (some (-1 : Int32)))
set_option maxRecDepth 100000 in
theorem c117_25 {xs : Option (List Int32)} {M : JM} : ∀ (n : Nat) (l0 : Nat) (l1 : Int32) (l2 : Int32) (l3 : Int32) (l4 : Int32) (pl0 : jok jE0 l0 6 = true), JG xs 15 117 (f117_25 M n l0 l1 l2 l3 l4) (fun x r => r = (some (.int x), (jE0, M))) (25, [(0, .ref l0), (1, .int l1), (2, .int l2), (3, .int l3), (4, .int l4)], [], (jE0, M))
  | 0, _, _, _, _, _, _ => by rw [f117_25]; exact g_none
  | n + 1, l0, l1, l2, l3, l4, pl0 => by
    rw [f117_25]
    refine g_pure (c' := (28, [(0, .ref l0), (1, .int l1), (2, .int l2), (3, .int l3), (4, .int l4)], [.ref l0, .int l4], (jE0, M))) 2 rfl ?_
    refine g_gp rfl rfl rfl pl0 (jp_ok (kd := 0) pl0 (by decide) (by decide) rfl rfl).1 ?_
    refine g_gf (ci := 0) (k := 0) rfl rfl rfl (jk_ok (kd := 0) pl0 (by decide) (by decide) rfl rfl) ?_
    refine g_ic_ge (tgt := 85) rfl rfl (fun q3 => ?_) (fun q3 => ?_)
    · refine g_pure (c' := (38, [(0, .ref l0), (1, .int l1), (2, .int l2), (3, .int l3), (4, .int l4)], [.ref l0], (jE0, M))) 1 rfl ?_
      refine g_gp rfl rfl rfl pl0 (jp_ok (kd := 3) pl0 (by decide) (by decide) rfl rfl).1 ?_
      refine g_pure (c' := (42, [(0, .ref l0), (1, .int l1), (2, .int l2), (3, .int l3), (4, .int l4)], [.int l1, .ref (jpt l0 10)], (jE0, M))) 1 rfl ?_
      refine g_cI rfl (jc_v rfl rfl (jv_o (jk_ok (kd := 3) pl0 (by decide) (by decide) rfl rfl) rfl) rfl) (c42 (jpt l0 10) l1 (jk_ok (kd := 3) pl0 (by decide) (by decide) rfl rfl)) (by decide) (fun v4 qv4 => ?_)
      refine g_pure (c' := (47, [(0, .ref l0), (1, .int l1), (2, .int l2), (3, .int l3), (4, .int l4)], [.int l4, .int v4], (jE0, M))) 1 rfl ?_
      refine g_cI rfl (jc_s rfl rfl) (c101 v4 l4) (by decide) (fun v5 qv5 => ?_)
      refine g_if_eq (tgt := 79) rfl rfl (fun q6 => ?_) (fun q6 => ?_)
      · exact (c117_79 (f117_25 M n) (c117_25 n) l0 l1 l2 l3 l4 pl0)
      · refine g_pure (c' := (55, [(0, .ref l0), (1, .int l1), (2, .int l2), (3, .int l3), (4, .int l4)], [.ref l0, .int (1 : Int32)], (jE0, M))) 2 rfl ?_
        refine g_gp rfl rfl rfl pl0 (jp_ok (kd := 3) pl0 (by decide) (by decide) rfl rfl).1 ?_
        refine g_pure (c' := (61, [(0, .ref l0), (1, .int l1), (2, .int l2), (3, .int l3), (4, .int l4)], [.int l4, .int l3, .ref (jpt l0 10), .int (1 : Int32)], (jE0, M))) 2 rfl ?_
        refine g_cI rfl (jc_s rfl rfl) (c100 l4) (by decide) (fun v7 qv7 => ?_)
        refine g_pure (c' := (68, [(0, .ref l0), (1, .int l1), (2, .int l2), (3, .int l3), (4, .int l4)], [.int (0 : Int32), .int (l3 &&& (v7 ^^^ (-1 : Int32))), .ref (jpt l0 10), .int (1 : Int32)], (jE0, M))) 4 rfl ?_
        refine g_cI rfl (jc_s rfl rfl) (c118 11 (jpt l0 10) (l3 &&& (v7 ^^^ (-1 : Int32))) (0 : Int32) (jk_ok (kd := 3) pl0 (by decide) (by decide) rfl rfl)) (by decide) (fun v8 qv8 => ?_)
        refine g_pure (c' := (73, [(0, .ref l0), (1, .int l1), (2, .int l2), (3, .int l3), (4, .int l4)], [.int l2, .int ((1 : Int32) + v8)], (jE0, M))) 2 rfl ?_
        refine g_ic_ne (tgt := 79) rfl rfl (fun q9 => ?_) (fun q9 => ?_)
        · refine g_pure (c' := (78, [(0, .ref l0), (1, .int l1), (2, .int l2), (3, .int l3), (4, .int l4)], [.int l4], (jE0, M))) 1 rfl ?_
          exact g_ret rfl rfl (fun _ h => h)
        · exact (c117_79 (f117_25 M n) (c117_25 n) l0 l1 l2 l3 l4 pl0)
    · refine g_pure (c' := (86, [(0, .ref l0), (1, .int l1), (2, .int l2), (3, .int l3), (4, .int l4)], [.int (-1 : Int32)], (jE0, M))) 1 rfl ?_
      exact g_ret rfl rfl (fun _ h => h)
/-- CometKin.firstPartner -/
def f117 (M : JM) (l0 : Nat) (l1 : Int32) (l2 : Int32) : Option Int32 := ((f102 (M (jpt l0 1) 0)).bind fun v1 => ((f102 (l1 + (1 : Int32))).bind fun v2 => (f117_25 M 1000 l0 l1 l2 (v1 &&& (v2 ^^^ (-1 : Int32))) (l1 + (1 : Int32)))))
set_option maxRecDepth 100000 in
theorem c117 {xs : Option (List Int32)} {M : JM} (l0 : Nat) (l1 : Int32) (l2 : Int32) (pl0 : jok jE0 l0 6 = true) : JG xs 15 117 (f117 M l0 l1 l2) (fun x r => r = (some (.int x), (jE0, M))) (0, [(0, .ref l0), (1, .int l1), (2, .int l2)], [], (jE0, M)) := by
    unfold f117
    refine g_pure (c' := (1, [(0, .ref l0), (1, .int l1), (2, .int l2)], [.ref l0], (jE0, M))) 1 rfl ?_
    refine g_gp rfl rfl rfl pl0 (jp_ok (kd := 0) pl0 (by decide) (by decide) rfl rfl).1 ?_
    refine g_gf (ci := 0) (k := 0) rfl rfl rfl (jk_ok (kd := 0) pl0 (by decide) (by decide) rfl rfl) ?_
    refine g_cI rfl (jc_s rfl rfl) (c102 (M (jpt l0 1) 0)) (by decide) (fun v1 qv1 => ?_)
    refine g_pure (c' := (13, [(0, .ref l0), (1, .int l1), (2, .int l2)], [.int (l1 + (1 : Int32)), .int v1], (jE0, M))) 3 rfl ?_
    refine g_cI rfl (jc_s rfl rfl) (c102 (l1 + (1 : Int32))) (by decide) (fun v2 qv2 => ?_)
    refine g_pure (c' := (25, [(4, .int (l1 + (1 : Int32))), (3, .int (v1 &&& (v2 ^^^ (-1 : Int32)))), (0, .ref l0), (1, .int l1), (2, .int l2)], [], (jE0, M))) 8 rfl ?_
    refine g_weakk (lv := [(0, .ref l0), (1, .int l1), (2, .int l2), (3, .int (v1 &&& (v2 ^^^ (-1 : Int32)))), (4, .int (l1 + (1 : Int32)))]) ⟨rfl, rfl, rfl, rfl, rfl, trivial⟩ [0, 1, 2, 3, 4] rfl (by decide) [4, 3, 0, 1, 2] rfl (by decide) ?_
    exact (c117_25 1000 l0 l1 l2 (v1 &&& (v2 ^^^ (-1 : Int32))) (l1 + (1 : Int32)) pl0)
def f91_43  : Nat → Nat → Int32 → Int32 → Int32 → JM → Option (Int32 × JM)
  | 0, _, _, _, _, _ => none
  | n + 1, l0, l1, l2, l3, M => (if l3 < (M (jpt l0 1) 0) then ((f117 M l0 l3 l2).bind fun v8 => (if v8 = (-1 : Int32) then ((f91_43 n) l0 l1 l2 (l3 + (1 : Int32)) M) else (if l1 = (1 : Int32) then (some (l3, M)) else (some (v8, M))))) else (some ((-1 : Int32), M)))
set_option maxRecDepth 100000 in
theorem c91_43 {xs : Option (List Int32)} : ∀ (n : Nat) (l0 : Nat) (l1 : Int32) (l2 : Int32) (l3 : Int32) (M : JM) (pl0 : jok jE0 l0 6 = true), JG xs 16 91 (f91_43 n l0 l1 l2 l3 M) (fun x r => r = (some (.int x.1), (jE0, x.2))) (43, [(0, .ref l0), (1, .int l1), (2, .int l2), (3, .int l3)], [], (jE0, M))
  | 0, _, _, _, _, _, _ => by rw [f91_43]; exact g_none
  | n + 1, l0, l1, l2, l3, M, pl0 => by
    rw [f91_43]
    refine g_pure (c' := (45, [(0, .ref l0), (1, .int l1), (2, .int l2), (3, .int l3)], [.ref l0, .int l3], (jE0, M))) 2 rfl ?_
    refine g_gp rfl rfl rfl pl0 (jp_ok (kd := 0) pl0 (by decide) (by decide) rfl rfl).1 ?_
    refine g_gf (ci := 0) (k := 0) rfl rfl rfl (jk_ok (kd := 0) pl0 (by decide) (by decide) rfl rfl) ?_
    refine g_ic_ge (tgt := 86) rfl rfl (fun q7 => ?_) (fun q7 => ?_)
    · refine g_pure (c' := (57, [(0, .ref l0), (1, .int l1), (2, .int l2), (3, .int l3)], [.int l2, .int l3, .ref l0], (jE0, M))) 3 rfl ?_
      refine g_cI rfl (jc_v rfl rfl (jv_o pl0 rfl) rfl) (c117 l0 l3 l2 pl0) (by decide) (fun v8 qv8 => ?_)
      refine g_pure (c' := (65, [(4, .int v8), (0, .ref l0), (1, .int l1), (2, .int l2), (3, .int l3)], [.int (-1 : Int32), .int v8], (jE0, M))) 3 rfl ?_
      refine g_ic_eq (tgt := 80) rfl rfl (fun q9 => ?_) (fun q9 => ?_)
      · refine g_pure (c' := (43, [(3, .int (l3 + (1 : Int32))), (4, .int v8), (0, .ref l0), (1, .int l1), (2, .int l2)], [], (jE0, M))) 2 rfl ?_
        refine g_weakk (lv := [(0, .ref l0), (1, .int l1), (2, .int l2), (3, .int (l3 + (1 : Int32)))]) ⟨rfl, rfl, rfl, rfl, trivial⟩ [0, 1, 2, 3] rfl (by decide) [3, 4, 0, 1, 2] rfl (by decide) ?_
        exact ((c91_43 n) l0 l1 l2 (l3 + (1 : Int32)) M pl0)
      · refine g_pure (c' := (70, [(4, .int v8), (0, .ref l0), (1, .int l1), (2, .int l2), (3, .int l3)], [.int (1 : Int32), .int l1], (jE0, M))) 2 rfl ?_
        refine g_ic_ne (tgt := 77) rfl rfl (fun q10 => ?_) (fun q10 => ?_)
        · refine g_pure (c' := (79, [(4, .int v8), (0, .ref l0), (1, .int l1), (2, .int l2), (3, .int l3)], [.int l3], (jE0, M))) 2 rfl ?_
          exact g_ret rfl rfl (fun _ h => h)
        · refine g_pure (c' := (79, [(4, .int v8), (0, .ref l0), (1, .int l1), (2, .int l2), (3, .int l3)], [.int v8], (jE0, M))) 1 rfl ?_
          exact g_ret rfl rfl (fun _ h => h)
    · refine g_pure (c' := (87, [(0, .ref l0), (1, .int l1), (2, .int l2), (3, .int l3)], [.int (-1 : Int32)], (jE0, M))) 1 rfl ?_
      exact g_ret rfl rfl (fun _ h => h)
/-- CometKin.weddings -/
def f91  (l0 : Nat) (l1 : Int32) (M : JM) : Option (Int32 × JM) := (if l1 < (0 : Int32) then (some ((-3 : Int32), M)) else (if (2 : Int32) < l1 then (some ((-3 : Int32), M)) else ((f116 l0 M).bind fun M3 => ((f102 (M3 (jpt l0 1) 0)).bind fun v4 => ((f118 M3 11 (jpt l0 10) v4 (0 : Int32)).bind fun v5 => (if l1 = (0 : Int32) then (some (v5, M3)) else (f91_43 1000 l0 l1 v5 (0 : Int32) M3)))))))
set_option maxRecDepth 100000 in
theorem c91 {xs : Option (List Int32)} (l0 : Nat) (l1 : Int32) (M : JM) (pl0 : jok jE0 l0 6 = true) : JG xs 16 91 (f91 l0 l1 M) (fun x r => r = (some (.int x.1), (jE0, x.2))) (0, [(0, .ref l0), (1, .int l1)], [], (jE0, M)) := by
    unfold f91
    refine g_pure (c' := (1, [(0, .ref l0), (1, .int l1)], [.int l1], (jE0, M))) 1 rfl ?_
    refine g_if_lt (tgt := 9) rfl rfl (fun q1 => ?_) (fun q1 => ?_)
    · refine g_pure (c' := (11, [(0, .ref l0), (1, .int l1)], [.int (-3 : Int32)], (jE0, M))) 1 rfl ?_
      exact g_ret rfl rfl (fun _ h => h)
    · refine g_pure (c' := (6, [(0, .ref l0), (1, .int l1)], [.int (2 : Int32), .int l1], (jE0, M))) 2 rfl ?_
      refine g_ic_le (tgt := 12) rfl rfl (fun q2 => ?_) (fun q2 => ?_)
      · refine g_pure (c' := (11, [(0, .ref l0), (1, .int l1)], [.int (-3 : Int32)], (jE0, M))) 1 rfl ?_
        exact g_ret rfl rfl (fun _ h => h)
      · refine g_pure (c' := (13, [(0, .ref l0), (1, .int l1)], [.ref l0], (jE0, M))) 1 rfl ?_
        refine g_wV rfl (jc_v rfl rfl (jv_o pl0 rfl) rfl) (c116 l0 M pl0) (by decide) (fun M3 => ?_)
        refine g_pure (c' := (17, [(0, .ref l0), (1, .int l1)], [.ref l0], (jE0, M3))) 1 rfl ?_
        refine g_gp rfl rfl rfl pl0 (jp_ok (kd := 3) pl0 (by decide) (by decide) rfl rfl).1 ?_
        refine g_pure (c' := (21, [(0, .ref l0), (1, .int l1)], [.ref l0, .ref (jpt l0 10)], (jE0, M3))) 1 rfl ?_
        refine g_gp rfl rfl rfl pl0 (jp_ok (kd := 0) pl0 (by decide) (by decide) rfl rfl).1 ?_
        refine g_gf (ci := 0) (k := 0) rfl rfl rfl (jk_ok (kd := 0) pl0 (by decide) (by decide) rfl rfl) ?_
        refine g_cI rfl (jc_s rfl rfl) (c102 (M3 (jpt l0 1) 0)) (by decide) (fun v4 qv4 => ?_)
        refine g_pure (c' := (31, [(0, .ref l0), (1, .int l1)], [.int (0 : Int32), .int v4, .ref (jpt l0 10)], (jE0, M3))) 1 rfl ?_
        refine g_cI rfl (jc_s rfl rfl) (c118 11 (jpt l0 10) v4 (0 : Int32) (jk_ok (kd := 3) pl0 (by decide) (by decide) rfl rfl)) (by decide) (fun v5 qv5 => ?_)
        refine g_pure (c' := (36, [(2, .int v5), (0, .ref l0), (1, .int l1)], [.int l1], (jE0, M3))) 2 rfl ?_
        refine g_if_ne (tgt := 41) rfl rfl (fun q6 => ?_) (fun q6 => ?_)
        · refine g_pure (c' := (40, [(2, .int v5), (0, .ref l0), (1, .int l1)], [.int v5], (jE0, M3))) 1 rfl ?_
          exact g_ret rfl rfl (fun _ h => h)
        · refine g_pure (c' := (43, [(3, .int (0 : Int32)), (2, .int v5), (0, .ref l0), (1, .int l1)], [], (jE0, M3))) 2 rfl ?_
          refine g_weakk (lv := [(0, .ref l0), (1, .int l1), (2, .int v5), (3, .int (0 : Int32))]) ⟨rfl, rfl, rfl, rfl, trivial⟩ [0, 1, 2, 3] rfl (by decide) [3, 2, 0, 1] rfl (by decide) ?_
          exact (c91_43 1000 l0 l1 v5 (0 : Int32) M3 pl0)
def f191_55 (h2 : Nat → Int32 → JM → Option JM) (h19 : Nat → Int32 → Int32 → JM → Option JM) (l0 : Nat) (l1 : Int32) (l2 : Int32) (s0 : Int32) (s1 : Int32) (s2 : Int32) (s3 : Nat) (M : JM) : Option JM := ((jsa s3 s2 (s1 ||| s0) M).bind fun M6 => (h19 l0 l1 (l2 + (1 : Int32)) M6))
set_option maxRecDepth 100000 in
theorem c191_55 {xs : Option (List Int32)} (h2 : Nat → Int32 → JM → Option JM) (H2 : ∀ (l0 : Nat) (l1 : Int32) (M : JM) (pl0 : jok jE0 l0 7 = true), JG xs 8 191 (h2 l0 l1 M) (fun x r => r = (none, (jE0, x))) (2, [(0, .ref l0), (1, .int l1)], [], (jE0, M))) (h19 : Nat → Int32 → Int32 → JM → Option JM) (H19 : ∀ (l0 : Nat) (l1 : Int32) (l2 : Int32) (M : JM) (pl0 : jok jE0 l0 7 = true), JG xs 8 191 (h19 l0 l1 l2 M) (fun x r => r = (none, (jE0, x))) (19, [(0, .ref l0), (1, .int l1), (2, .int l2)], [], (jE0, M))) : ∀ (l0 : Nat) (l1 : Int32) (l2 : Int32) (s0 : Int32) (s1 : Int32) (s2 : Int32) (s3 : Nat) (M : JM) (pl0 : jok jE0 l0 7 = true) (ps3 : jok jE0 s3 8 = true), JG xs 8 191 (f191_55 h2 h19 l0 l1 l2 s0 s1 s2 s3 M) (fun x r => r = (none, (jE0, x))) (55, [(0, .ref l0), (1, .int l1), (2, .int l2)], [.int s0, .int s1, .int s2, .ref s3], (jE0, M)) := by
    intro l0 l1 l2 s0 s1 s2 s3 M pl0 ps3
    unfold f191_55
    refine g_pure (c' := (56, [(0, .ref l0), (1, .int l1), (2, .int l2)], [.int (s1 ||| s0), .int s2, .ref s3], (jE0, M))) 1 rfl ?_
    refine g_is rfl ps3 (fun M6 => ?_)
    refine g_pure (c' := (19, [(2, .int (l2 + (1 : Int32))), (0, .ref l0), (1, .int l1)], [], (jE0, M6))) 2 rfl ?_
    refine g_weakk (lv := [(0, .ref l0), (1, .int l1), (2, .int (l2 + (1 : Int32)))]) ⟨rfl, rfl, rfl, trivial⟩ [0, 1, 2] rfl (by decide) [2, 0, 1] rfl (by decide) ?_
    exact (H19 l0 l1 (l2 + (1 : Int32)) M6 pl0)
def f191_54 (h2 : Nat → Int32 → JM → Option JM) (h19 : Nat → Int32 → Int32 → JM → Option JM) (l0 : Nat) (l1 : Int32) (l2 : Int32) (s0 : Int32) (s1 : Int32) (s2 : Nat) (M : JM) : Option JM := (f191_55 h2 h19 l0 l1 l2 (0 : Int32) s0 s1 s2 M)
set_option maxRecDepth 100000 in
theorem c191_54 {xs : Option (List Int32)} (h2 : Nat → Int32 → JM → Option JM) (H2 : ∀ (l0 : Nat) (l1 : Int32) (M : JM) (pl0 : jok jE0 l0 7 = true), JG xs 8 191 (h2 l0 l1 M) (fun x r => r = (none, (jE0, x))) (2, [(0, .ref l0), (1, .int l1)], [], (jE0, M))) (h19 : Nat → Int32 → Int32 → JM → Option JM) (H19 : ∀ (l0 : Nat) (l1 : Int32) (l2 : Int32) (M : JM) (pl0 : jok jE0 l0 7 = true), JG xs 8 191 (h19 l0 l1 l2 M) (fun x r => r = (none, (jE0, x))) (19, [(0, .ref l0), (1, .int l1), (2, .int l2)], [], (jE0, M))) : ∀ (l0 : Nat) (l1 : Int32) (l2 : Int32) (s0 : Int32) (s1 : Int32) (s2 : Nat) (M : JM) (pl0 : jok jE0 l0 7 = true) (ps2 : jok jE0 s2 8 = true), JG xs 8 191 (f191_54 h2 h19 l0 l1 l2 s0 s1 s2 M) (fun x r => r = (none, (jE0, x))) (54, [(0, .ref l0), (1, .int l1), (2, .int l2)], [.int s0, .int s1, .ref s2], (jE0, M)) := by
    intro l0 l1 l2 s0 s1 s2 M pl0 ps2
    unfold f191_54
    refine g_pure (c' := (55, [(0, .ref l0), (1, .int l1), (2, .int l2)], [.int (0 : Int32), .int s0, .int s1, .ref s2], (jE0, M))) 1 rfl ?_
    exact (c191_55 h2 H2 h19 H19 l0 l1 l2 (0 : Int32) s0 s1 s2 M pl0 ps2)
def f191_19 (h2 : Nat → Int32 → JM → Option JM) : Nat → Nat → Int32 → Int32 → JM → Option JM
  | 0, _, _, _, _ => none
  | n + 1, l0, l1, l2, M => (if l2 < (M l0 7) then ((jla (jpt l0 25) l1 M).bind fun v4 => (if l2 = l1 then (f191_54 h2 (f191_19 h2 n) l0 l1 l2 v4 l1 (jpt l0 25) M) else ((f173 l0 l1 l2 M).bind fun z10 => (if z10.1 = (0 : Int32) then (f191_54 h2 (f191_19 h2 n) l0 l1 l2 v4 l1 (jpt l0 25) z10.2) else (f191_55 h2 (f191_19 h2 n) l0 l1 l2 ((1 : Int32) <<< (l2 &&& (31 : Int32))) v4 l1 (jpt l0 25) z10.2))))) else (h2 l0 (l1 + (1 : Int32)) M))
set_option maxRecDepth 100000 in
theorem c191_19 {xs : Option (List Int32)} (h2 : Nat → Int32 → JM → Option JM) (H2 : ∀ (l0 : Nat) (l1 : Int32) (M : JM) (pl0 : jok jE0 l0 7 = true), JG xs 8 191 (h2 l0 l1 M) (fun x r => r = (none, (jE0, x))) (2, [(0, .ref l0), (1, .int l1)], [], (jE0, M))) : ∀ (n : Nat) (l0 : Nat) (l1 : Int32) (l2 : Int32) (M : JM) (pl0 : jok jE0 l0 7 = true), JG xs 8 191 (f191_19 h2 n l0 l1 l2 M) (fun x r => r = (none, (jE0, x))) (19, [(0, .ref l0), (1, .int l1), (2, .int l2)], [], (jE0, M))
  | 0, _, _, _, _, _ => by rw [f191_19]; exact g_none
  | n + 1, l0, l1, l2, M, pl0 => by
    rw [f191_19]
    refine g_pure (c' := (21, [(0, .ref l0), (1, .int l1), (2, .int l2)], [.ref l0, .int l2], (jE0, M))) 2 rfl ?_
    refine g_gf (ci := 7) (k := 7) rfl rfl rfl pl0 ?_
    refine g_ic_ge (tgt := 63) rfl rfl (fun q3 => ?_) (fun q3 => ?_)
    · refine g_pure (c' := (28, [(0, .ref l0), (1, .int l1), (2, .int l2)], [.ref l0], (jE0, M))) 1 rfl ?_
      refine g_gp rfl rfl rfl pl0 (jp_ok (kd := 8) pl0 (by decide) (by decide) rfl rfl).1 ?_
      refine g_pure (c' := (33, [(0, .ref l0), (1, .int l1), (2, .int l2)], [.int l1, .ref (jpt l0 25), .int l1, .ref (jpt l0 25)], (jE0, M))) 2 rfl ?_
      refine g_ia rfl (jk_ok (kd := 8) pl0 (by decide) (by decide) rfl rfl) (fun v4 => ?_)
      refine g_pure (c' := (36, [(0, .ref l0), (1, .int l1), (2, .int l2)], [.int l1, .int l2, .int v4, .int l1, .ref (jpt l0 25)], (jE0, M))) 2 rfl ?_
      refine g_ic_eq (tgt := 54) rfl rfl (fun q5 => ?_) (fun q5 => ?_)
      · exact (c191_54 h2 H2 (f191_19 h2 n) (c191_19 h2 H2 n) l0 l1 l2 v4 l1 (jpt l0 25) M pl0 (jk_ok (kd := 8) pl0 (by decide) (by decide) rfl rfl))
      · refine g_pure (c' := (42, [(0, .ref l0), (1, .int l1), (2, .int l2)], [.int l2, .int l1, .ref l0, .int v4, .int l1, .ref (jpt l0 25)], (jE0, M))) 3 rfl ?_
        refine g_wI rfl (jc_v rfl rfl (jv_o pl0 rfl) rfl) (c173 l0 l1 l2 M pl0) (by decide) (fun v8 M7 qv8 => ?_)
        refine g_if_eq (tgt := 54) rfl rfl (fun q9 => ?_) (fun q9 => ?_)
        · exact (c191_54 h2 H2 (f191_19 h2 n) (c191_19 h2 H2 n) l0 l1 l2 v4 l1 (jpt l0 25) M7 pl0 (jk_ok (kd := 8) pl0 (by decide) (by decide) rfl rfl))
        · refine g_pure (c' := (55, [(0, .ref l0), (1, .int l1), (2, .int l2)], [.int ((1 : Int32) <<< (l2 &&& (31 : Int32))), .int v4, .int l1, .ref (jpt l0 25)], (jE0, M7))) 4 rfl ?_
          exact (c191_55 h2 H2 (f191_19 h2 n) (c191_19 h2 H2 n) l0 l1 l2 ((1 : Int32) <<< (l2 &&& (31 : Int32))) v4 l1 (jpt l0 25) M7 pl0 (jk_ok (kd := 8) pl0 (by decide) (by decide) rfl rfl))
    · refine g_pure (c' := (2, [(1, .int (l1 + (1 : Int32))), (0, .ref l0), (2, .int l2)], [], (jE0, M))) 2 rfl ?_
      refine g_weakk (lv := [(0, .ref l0), (1, .int (l1 + (1 : Int32)))]) ⟨rfl, rfl, trivial⟩ [0, 1] rfl (by decide) [1, 0, 2] rfl (by decide) ?_
      exact (H2 l0 (l1 + (1 : Int32)) M pl0)
def f191_201 (h71 : Nat → Int32 → JM → Option JM) (h129 : Nat → Int32 → Int32 → Int32 → Int32 → JM → Option JM) (l0 : Nat) (l1 : Int32) (l2 : Int32) (l4 : Int32) (s0 : Int32) (M : JM) : Option JM := (h129 l0 l1 l2 s0 (l4 + (1 : Int32)) M)
set_option maxRecDepth 100000 in
theorem c191_201 {xs : Option (List Int32)} (h71 : Nat → Int32 → JM → Option JM) (H71 : ∀ (l0 : Nat) (l1 : Int32) (M : JM) (pl0 : jok jE0 l0 7 = true), JG xs 8 191 (h71 l0 l1 M) (fun x r => r = (none, (jE0, x))) (71, [(0, .ref l0), (1, .int l1)], [], (jE0, M))) (h129 : Nat → Int32 → Int32 → Int32 → Int32 → JM → Option JM) (H129 : ∀ (l0 : Nat) (l1 : Int32) (l2 : Int32) (l3 : Int32) (l4 : Int32) (M : JM) (pl0 : jok jE0 l0 7 = true), JG xs 8 191 (h129 l0 l1 l2 l3 l4 M) (fun x r => r = (none, (jE0, x))) (129, [(0, .ref l0), (1, .int l1), (2, .int l2), (3, .int l3), (4, .int l4)], [], (jE0, M))) : ∀ (l0 : Nat) (l1 : Int32) (l2 : Int32) (l4 : Int32) (s0 : Int32) (M : JM) (pl0 : jok jE0 l0 7 = true), JG xs 8 191 (f191_201 h71 h129 l0 l1 l2 l4 s0 M) (fun x r => r = (none, (jE0, x))) (201, [(0, .ref l0), (1, .int l1), (2, .int l2), (4, .int l4)], [.int s0], (jE0, M)) := by
    intro l0 l1 l2 l4 s0 M pl0
    unfold f191_201
    refine g_pure (c' := (129, [(4, .int (l4 + (1 : Int32))), (3, .int s0), (0, .ref l0), (1, .int l1), (2, .int l2)], [], (jE0, M))) 3 rfl ?_
    refine g_weakk (lv := [(0, .ref l0), (1, .int l1), (2, .int l2), (3, .int s0), (4, .int (l4 + (1 : Int32)))]) ⟨rfl, rfl, rfl, rfl, rfl, trivial⟩ [0, 1, 2, 3, 4] rfl (by decide) [4, 3, 0, 1, 2] rfl (by decide) ?_
    exact (H129 l0 l1 l2 s0 (l4 + (1 : Int32)) M pl0)
def f191_187 (h71 : Nat → Int32 → JM → Option JM) (h129 : Nat → Int32 → Int32 → Int32 → Int32 → JM → Option JM) (l0 : Nat) (l1 : Int32) (l2 : Int32) (l3 : Int32) (l4 : Int32) (s0 : Int32) (M : JM) : Option JM := (if l3 < s0 then (f191_201 h71 h129 l0 l1 l2 l4 s0 M) else (f191_201 h71 h129 l0 l1 l2 l4 l3 M))
set_option maxRecDepth 100000 in
theorem c191_187 {xs : Option (List Int32)} (h71 : Nat → Int32 → JM → Option JM) (H71 : ∀ (l0 : Nat) (l1 : Int32) (M : JM) (pl0 : jok jE0 l0 7 = true), JG xs 8 191 (h71 l0 l1 M) (fun x r => r = (none, (jE0, x))) (71, [(0, .ref l0), (1, .int l1)], [], (jE0, M))) (h129 : Nat → Int32 → Int32 → Int32 → Int32 → JM → Option JM) (H129 : ∀ (l0 : Nat) (l1 : Int32) (l2 : Int32) (l3 : Int32) (l4 : Int32) (M : JM) (pl0 : jok jE0 l0 7 = true), JG xs 8 191 (h129 l0 l1 l2 l3 l4 M) (fun x r => r = (none, (jE0, x))) (129, [(0, .ref l0), (1, .int l1), (2, .int l2), (3, .int l3), (4, .int l4)], [], (jE0, M))) : ∀ (l0 : Nat) (l1 : Int32) (l2 : Int32) (l3 : Int32) (l4 : Int32) (s0 : Int32) (M : JM) (pl0 : jok jE0 l0 7 = true), JG xs 8 191 (f191_187 h71 h129 l0 l1 l2 l3 l4 s0 M) (fun x r => r = (none, (jE0, x))) (187, [(0, .ref l0), (1, .int l1), (2, .int l2), (3, .int l3), (4, .int l4)], [.int s0], (jE0, M)) := by
    intro l0 l1 l2 l3 l4 s0 M pl0
    unfold f191_187
    refine g_pure (c' := (192, [(5, .int s0), (0, .ref l0), (1, .int l1), (2, .int l2), (3, .int l3), (4, .int l4)], [.int l3, .int s0], (jE0, M))) 3 rfl ?_
    refine g_ic_le (tgt := 200) rfl rfl (fun q21 => ?_) (fun q21 => ?_)
    · refine g_pure (c' := (201, [(5, .int s0), (0, .ref l0), (1, .int l1), (2, .int l2), (3, .int l3), (4, .int l4)], [.int s0], (jE0, M))) 2 rfl ?_
      refine g_weakk (lv := [(0, .ref l0), (1, .int l1), (2, .int l2), (4, .int l4)]) ⟨rfl, rfl, rfl, rfl, trivial⟩ [0, 1, 2, 4] rfl (by decide) [5, 0, 1, 2, 3, 4] rfl (by decide) ?_
      exact (c191_201 h71 H71 h129 H129 l0 l1 l2 l4 s0 M pl0)
    · refine g_pure (c' := (201, [(5, .int s0), (0, .ref l0), (1, .int l1), (2, .int l2), (3, .int l3), (4, .int l4)], [.int l3], (jE0, M))) 1 rfl ?_
      refine g_weakk (lv := [(0, .ref l0), (1, .int l1), (2, .int l2), (4, .int l4)]) ⟨rfl, rfl, rfl, rfl, trivial⟩ [0, 1, 2, 4] rfl (by decide) [5, 0, 1, 2, 3, 4] rfl (by decide) ?_
      exact (c191_201 h71 H71 h129 H129 l0 l1 l2 l4 l3 M pl0)
def f191_208 (h71 : Nat → Int32 → JM → Option JM) (l0 : Nat) (l1 : Int32) (l3 : Int32) (M : JM) : Option JM := ((jsa (jpt l0 24) l1 l3 M).bind fun M23 => (h71 l0 (l1 + (1 : Int32)) M23))
set_option maxRecDepth 100000 in
theorem c191_208 {xs : Option (List Int32)} (h71 : Nat → Int32 → JM → Option JM) (H71 : ∀ (l0 : Nat) (l1 : Int32) (M : JM) (pl0 : jok jE0 l0 7 = true), JG xs 8 191 (h71 l0 l1 M) (fun x r => r = (none, (jE0, x))) (71, [(0, .ref l0), (1, .int l1)], [], (jE0, M))) : ∀ (l0 : Nat) (l1 : Int32) (l3 : Int32) (M : JM) (pl0 : jok jE0 l0 7 = true), JG xs 8 191 (f191_208 h71 l0 l1 l3 M) (fun x r => r = (none, (jE0, x))) (208, [(0, .ref l0), (1, .int l1), (3, .int l3)], [], (jE0, M)) := by
    intro l0 l1 l3 M pl0
    unfold f191_208
    refine g_pure (c' := (209, [(0, .ref l0), (1, .int l1), (3, .int l3)], [.ref l0], (jE0, M))) 1 rfl ?_
    refine g_gp rfl rfl rfl pl0 (jp_ok (kd := 8) pl0 (by decide) (by decide) rfl rfl).1 ?_
    refine g_pure (c' := (214, [(0, .ref l0), (1, .int l1), (3, .int l3)], [.int l3, .int l1, .ref (jpt l0 24)], (jE0, M))) 2 rfl ?_
    refine g_is rfl (jk_ok (kd := 8) pl0 (by decide) (by decide) rfl rfl) (fun M23 => ?_)
    refine g_pure (c' := (71, [(1, .int (l1 + (1 : Int32))), (0, .ref l0), (3, .int l3)], [], (jE0, M23))) 2 rfl ?_
    refine g_weakk (lv := [(0, .ref l0), (1, .int (l1 + (1 : Int32)))]) ⟨rfl, rfl, trivial⟩ [0, 1] rfl (by decide) [1, 0, 3] rfl (by decide) ?_
    exact (H71 l0 (l1 + (1 : Int32)) M23 pl0)
def f191_129 (h71 : Nat → Int32 → JM → Option JM) : Nat → Nat → Int32 → Int32 → Int32 → Int32 → JM → Option JM
  | 0, _, _, _, _, _, _ => none
  | n + 1, l0, l1, l2, l3, l4, M => (if l4 < (M l0 7) then (if l2 < (M l0 7) then ((jla (jpt l0 25) l2 M).bind fun v18 => ((f126 (l1 &&& v18) l4).bind fun v19 => (if v19 = (0 : Int32) then (f191_187 h71 (f191_129 h71 n) l0 l1 l2 l3 l4 (0 : Int32) M) else ((jla (jpt l0 24) ((l1 &&& (((1 : Int32) <<< (l2 &&& (31 : Int32))) ^^^ (-1 : Int32))) &&& (((1 : Int32) <<< (l4 &&& (31 : Int32))) ^^^ (-1 : Int32))) M).bind fun v22 => (f191_187 h71 (f191_129 h71 n) l0 l1 l2 l3 l4 ((1 : Int32) + v22) M))))) else (f191_208 h71 l0 l1 l3 M)) else (f191_208 h71 l0 l1 l3 M))
set_option maxRecDepth 100000 in
theorem c191_129 {xs : Option (List Int32)} (h71 : Nat → Int32 → JM → Option JM) (H71 : ∀ (l0 : Nat) (l1 : Int32) (M : JM) (pl0 : jok jE0 l0 7 = true), JG xs 8 191 (h71 l0 l1 M) (fun x r => r = (none, (jE0, x))) (71, [(0, .ref l0), (1, .int l1)], [], (jE0, M))) : ∀ (n : Nat) (l0 : Nat) (l1 : Int32) (l2 : Int32) (l3 : Int32) (l4 : Int32) (M : JM) (pl0 : jok jE0 l0 7 = true), JG xs 8 191 (f191_129 h71 n l0 l1 l2 l3 l4 M) (fun x r => r = (none, (jE0, x))) (129, [(0, .ref l0), (1, .int l1), (2, .int l2), (3, .int l3), (4, .int l4)], [], (jE0, M))
  | 0, _, _, _, _, _, _, _ => by rw [f191_129]; exact g_none
  | n + 1, l0, l1, l2, l3, l4, M, pl0 => by
    rw [f191_129]
    refine g_pure (c' := (132, [(0, .ref l0), (1, .int l1), (2, .int l2), (3, .int l3), (4, .int l4)], [.ref l0, .int l4], (jE0, M))) 2 rfl ?_
    refine g_gf (ci := 7) (k := 7) rfl rfl rfl pl0 ?_
    refine g_ic_ge (tgt := 208) rfl rfl (fun q16 => ?_) (fun q16 => ?_)
    · refine g_pure (c' := (140, [(0, .ref l0), (1, .int l1), (2, .int l2), (3, .int l3), (4, .int l4)], [.ref l0, .int l2], (jE0, M))) 2 rfl ?_
      refine g_gf (ci := 7) (k := 7) rfl rfl rfl pl0 ?_
      refine g_ic_ge (tgt := 208) rfl rfl (fun q17 => ?_) (fun q17 => ?_)
      · refine g_pure (c' := (148, [(0, .ref l0), (1, .int l1), (2, .int l2), (3, .int l3), (4, .int l4)], [.ref l0, .int l1], (jE0, M))) 2 rfl ?_
        refine g_gp rfl rfl rfl pl0 (jp_ok (kd := 8) pl0 (by decide) (by decide) rfl rfl).1 ?_
        refine g_pure (c' := (152, [(0, .ref l0), (1, .int l1), (2, .int l2), (3, .int l3), (4, .int l4)], [.int l2, .ref (jpt l0 25), .int l1], (jE0, M))) 1 rfl ?_
        refine g_ia rfl (jk_ok (kd := 8) pl0 (by decide) (by decide) rfl rfl) (fun v18 => ?_)
        refine g_pure (c' := (156, [(0, .ref l0), (1, .int l1), (2, .int l2), (3, .int l3), (4, .int l4)], [.int l4, .int (l1 &&& v18)], (jE0, M))) 2 rfl ?_
        refine g_cI rfl (jc_s rfl rfl) (c126 (l1 &&& v18) l4) (by decide) (fun v19 qv19 => ?_)
        refine g_if_eq (tgt := 186) rfl rfl (fun q20 => ?_) (fun q20 => ?_)
        · refine g_pure (c' := (187, [(0, .ref l0), (1, .int l1), (2, .int l2), (3, .int l3), (4, .int l4)], [.int (0 : Int32)], (jE0, M))) 1 rfl ?_
          exact (c191_187 h71 H71 (f191_129 h71 n) (c191_129 h71 H71 n) l0 l1 l2 l3 l4 (0 : Int32) M pl0)
        · refine g_pure (c' := (164, [(0, .ref l0), (1, .int l1), (2, .int l2), (3, .int l3), (4, .int l4)], [.ref l0, .int (1 : Int32)], (jE0, M))) 2 rfl ?_
          refine g_gp rfl rfl rfl pl0 (jp_ok (kd := 8) pl0 (by decide) (by decide) rfl rfl).1 ?_
          refine g_pure (c' := (181, [(0, .ref l0), (1, .int l1), (2, .int l2), (3, .int l3), (4, .int l4)], [.int ((l1 &&& (((1 : Int32) <<< (l2 &&& (31 : Int32))) ^^^ (-1 : Int32))) &&& (((1 : Int32) <<< (l4 &&& (31 : Int32))) ^^^ (-1 : Int32))), .ref (jpt l0 24), .int (1 : Int32)], (jE0, M))) 13 rfl ?_
          refine g_ia rfl (jk_ok (kd := 8) pl0 (by decide) (by decide) rfl rfl) (fun v22 => ?_)
          refine g_pure (c' := (187, [(0, .ref l0), (1, .int l1), (2, .int l2), (3, .int l3), (4, .int l4)], [.int ((1 : Int32) + v22)], (jE0, M))) 2 rfl ?_
          exact (c191_187 h71 H71 (f191_129 h71 n) (c191_129 h71 H71 n) l0 l1 l2 l3 l4 ((1 : Int32) + v22) M pl0)
      · refine g_weakk (lv := [(0, .ref l0), (1, .int l1), (3, .int l3)]) ⟨rfl, rfl, rfl, trivial⟩ [0, 1, 3] rfl (by decide) [0, 1, 2, 3, 4] rfl (by decide) ?_
        exact (c191_208 h71 H71 l0 l1 l3 M pl0)
    · refine g_weakk (lv := [(0, .ref l0), (1, .int l1), (3, .int l3)]) ⟨rfl, rfl, rfl, trivial⟩ [0, 1, 3] rfl (by decide) [0, 1, 2, 3, 4] rfl (by decide) ?_
      exact (c191_208 h71 H71 l0 l1 l3 M pl0)
def f191_125 (h71 : Nat → Int32 → JM → Option JM) (l0 : Nat) (l1 : Int32) (l2 : Int32) (s0 : Int32) (M : JM) : Option JM := (f191_129 h71 1000 l0 l1 l2 s0 (0 : Int32) M)
set_option maxRecDepth 100000 in
theorem c191_125 {xs : Option (List Int32)} (h71 : Nat → Int32 → JM → Option JM) (H71 : ∀ (l0 : Nat) (l1 : Int32) (M : JM) (pl0 : jok jE0 l0 7 = true), JG xs 8 191 (h71 l0 l1 M) (fun x r => r = (none, (jE0, x))) (71, [(0, .ref l0), (1, .int l1)], [], (jE0, M))) : ∀ (l0 : Nat) (l1 : Int32) (l2 : Int32) (s0 : Int32) (M : JM) (pl0 : jok jE0 l0 7 = true), JG xs 8 191 (f191_125 h71 l0 l1 l2 s0 M) (fun x r => r = (none, (jE0, x))) (125, [(0, .ref l0), (1, .int l1), (2, .int l2)], [.int s0], (jE0, M)) := by
    intro l0 l1 l2 s0 M pl0
    unfold f191_125
    refine g_pure (c' := (129, [(4, .int (0 : Int32)), (3, .int s0), (0, .ref l0), (1, .int l1), (2, .int l2)], [], (jE0, M))) 3 rfl ?_
    refine g_weakk (lv := [(0, .ref l0), (1, .int l1), (2, .int l2), (3, .int s0), (4, .int (0 : Int32))]) ⟨rfl, rfl, rfl, rfl, rfl, trivial⟩ [0, 1, 2, 3, 4] rfl (by decide) [4, 3, 0, 1, 2] rfl (by decide) ?_
    exact (c191_129 h71 H71 1000 l0 l1 l2 s0 (0 : Int32) M pl0)
def f191_105 (h71 : Nat → Int32 → JM → Option JM) (l0 : Nat) (l1 : Int32) (l2 : Int32) (M : JM) : Option JM := (if l1 = (0 : Int32) then (f191_125 h71 l0 l1 l2 (0 : Int32) M) else ((jla (jpt l0 24) (l1 &&& (((1 : Int32) <<< (l2 &&& (31 : Int32))) ^^^ (-1 : Int32))) M).bind fun v24 => (f191_125 h71 l0 l1 l2 v24 M)))
set_option maxRecDepth 100000 in
theorem c191_105 {xs : Option (List Int32)} (h71 : Nat → Int32 → JM → Option JM) (H71 : ∀ (l0 : Nat) (l1 : Int32) (M : JM) (pl0 : jok jE0 l0 7 = true), JG xs 8 191 (h71 l0 l1 M) (fun x r => r = (none, (jE0, x))) (71, [(0, .ref l0), (1, .int l1)], [], (jE0, M))) : ∀ (l0 : Nat) (l1 : Int32) (l2 : Int32) (M : JM) (pl0 : jok jE0 l0 7 = true), JG xs 8 191 (f191_105 h71 l0 l1 l2 M) (fun x r => r = (none, (jE0, x))) (105, [(0, .ref l0), (1, .int l1), (2, .int l2)], [], (jE0, M)) := by
    intro l0 l1 l2 M pl0
    unfold f191_105
    refine g_pure (c' := (106, [(0, .ref l0), (1, .int l1), (2, .int l2)], [.int l1], (jE0, M))) 1 rfl ?_
    refine g_if_ne (tgt := 113) rfl rfl (fun q15 => ?_) (fun q15 => ?_)
    · refine g_pure (c' := (125, [(0, .ref l0), (1, .int l1), (2, .int l2)], [.int (0 : Int32)], (jE0, M))) 2 rfl ?_
      exact (c191_125 h71 H71 l0 l1 l2 (0 : Int32) M pl0)
    · refine g_pure (c' := (114, [(0, .ref l0), (1, .int l1), (2, .int l2)], [.ref l0], (jE0, M))) 1 rfl ?_
      refine g_gp rfl rfl rfl pl0 (jp_ok (kd := 8) pl0 (by decide) (by decide) rfl rfl).1 ?_
      refine g_pure (c' := (124, [(0, .ref l0), (1, .int l1), (2, .int l2)], [.int (l1 &&& (((1 : Int32) <<< (l2 &&& (31 : Int32))) ^^^ (-1 : Int32))), .ref (jpt l0 24)], (jE0, M))) 7 rfl ?_
      refine g_ia rfl (jk_ok (kd := 8) pl0 (by decide) (by decide) rfl rfl) (fun v24 => ?_)
      exact (c191_125 h71 H71 l0 l1 l2 v24 M pl0)
def f191_83 (h71 : Nat → Int32 → JM → Option JM) : Nat → Nat → Int32 → Int32 → JM → Option JM
  | 0, _, _, _, _ => none
  | n + 1, l0, l1, l2, M => (if l2 < (M l0 7) then ((f126 l1 l2).bind fun v13 => (if v13 = (0 : Int32) then ((f191_83 h71 n) l0 l1 (l2 + (1 : Int32)) M) else (f191_105 h71 l0 l1 l2 M))) else (f191_105 h71 l0 l1 l2 M))
set_option maxRecDepth 100000 in
theorem c191_83 {xs : Option (List Int32)} (h71 : Nat → Int32 → JM → Option JM) (H71 : ∀ (l0 : Nat) (l1 : Int32) (M : JM) (pl0 : jok jE0 l0 7 = true), JG xs 8 191 (h71 l0 l1 M) (fun x r => r = (none, (jE0, x))) (71, [(0, .ref l0), (1, .int l1)], [], (jE0, M))) : ∀ (n : Nat) (l0 : Nat) (l1 : Int32) (l2 : Int32) (M : JM) (pl0 : jok jE0 l0 7 = true), JG xs 8 191 (f191_83 h71 n l0 l1 l2 M) (fun x r => r = (none, (jE0, x))) (83, [(0, .ref l0), (1, .int l1), (2, .int l2)], [], (jE0, M))
  | 0, _, _, _, _, _ => by rw [f191_83]; exact g_none
  | n + 1, l0, l1, l2, M, pl0 => by
    rw [f191_83]
    refine g_pure (c' := (85, [(0, .ref l0), (1, .int l1), (2, .int l2)], [.ref l0, .int l2], (jE0, M))) 2 rfl ?_
    refine g_gf (ci := 7) (k := 7) rfl rfl rfl pl0 ?_
    refine g_ic_ge (tgt := 105) rfl rfl (fun q12 => ?_) (fun q12 => ?_)
    · refine g_pure (c' := (93, [(0, .ref l0), (1, .int l1), (2, .int l2)], [.int l2, .int l1], (jE0, M))) 2 rfl ?_
      refine g_cI rfl (jc_s rfl rfl) (c126 l1 l2) (by decide) (fun v13 qv13 => ?_)
      refine g_if_ne (tgt := 105) rfl rfl (fun q14 => ?_) (fun q14 => ?_)
      · refine g_pure (c' := (83, [(2, .int (l2 + (1 : Int32))), (0, .ref l0), (1, .int l1)], [], (jE0, M))) 2 rfl ?_
        refine g_weakk (lv := [(0, .ref l0), (1, .int l1), (2, .int (l2 + (1 : Int32)))]) ⟨rfl, rfl, rfl, trivial⟩ [0, 1, 2] rfl (by decide) [2, 0, 1] rfl (by decide) ?_
        exact ((c191_83 h71 H71 n) l0 l1 (l2 + (1 : Int32)) M pl0)
      · exact (c191_105 h71 H71 l0 l1 l2 M pl0)
    · exact (c191_105 h71 H71 l0 l1 l2 M pl0)
def f191_71  : Nat → Nat → Int32 → JM → Option JM
  | 0, _, _, _ => none
  | n + 1, l0, l1, M => (if l1 < ((1 : Int32) <<< ((M l0 7) &&& (31 : Int32))) then (f191_83 (f191_71 n) 1000 l0 l1 (0 : Int32) M) else (some M))
set_option maxRecDepth 100000 in
theorem c191_71 {xs : Option (List Int32)} : ∀ (n : Nat) (l0 : Nat) (l1 : Int32) (M : JM) (pl0 : jok jE0 l0 7 = true), JG xs 8 191 (f191_71 n l0 l1 M) (fun x r => r = (none, (jE0, x))) (71, [(0, .ref l0), (1, .int l1)], [], (jE0, M))
  | 0, _, _, _, _ => by rw [f191_71]; exact g_none
  | n + 1, l0, l1, M, pl0 => by
    rw [f191_71]
    refine g_pure (c' := (74, [(0, .ref l0), (1, .int l1)], [.ref l0, .int (1 : Int32), .int l1], (jE0, M))) 3 rfl ?_
    refine g_gf (ci := 7) (k := 7) rfl rfl rfl pl0 ?_
    refine g_pure (c' := (78, [(0, .ref l0), (1, .int l1)], [.int ((1 : Int32) <<< ((M l0 7) &&& (31 : Int32))), .int l1], (jE0, M))) 1 rfl ?_
    refine g_ic_ge (tgt := 221) rfl rfl (fun q11 => ?_) (fun q11 => ?_)
    · refine g_pure (c' := (83, [(2, .int (0 : Int32)), (0, .ref l0), (1, .int l1)], [], (jE0, M))) 2 rfl ?_
      refine g_weakk (lv := [(0, .ref l0), (1, .int l1), (2, .int (0 : Int32))]) ⟨rfl, rfl, rfl, trivial⟩ [0, 1, 2] rfl (by decide) [2, 0, 1] rfl (by decide) ?_
      exact (c191_83 (f191_71 n) (c191_71 n) 1000 l0 l1 (0 : Int32) M pl0)
    · exact g_ret rfl rfl (fun _ h => h)
def f191_2  : Nat → Nat → Int32 → JM → Option JM
  | 0, _, _, _ => none
  | n + 1, l0, l1, M => (if l1 < (M l0 7) then ((jsa (jpt l0 25) l1 (0 : Int32) M).bind fun M2 => (f191_19 (f191_2 n) 1000 l0 l1 (0 : Int32) M2)) else (f191_71 1000 l0 (0 : Int32) M))
set_option maxRecDepth 100000 in
theorem c191_2 {xs : Option (List Int32)} : ∀ (n : Nat) (l0 : Nat) (l1 : Int32) (M : JM) (pl0 : jok jE0 l0 7 = true), JG xs 8 191 (f191_2 n l0 l1 M) (fun x r => r = (none, (jE0, x))) (2, [(0, .ref l0), (1, .int l1)], [], (jE0, M))
  | 0, _, _, _, _ => by rw [f191_2]; exact g_none
  | n + 1, l0, l1, M, pl0 => by
    rw [f191_2]
    refine g_pure (c' := (4, [(0, .ref l0), (1, .int l1)], [.ref l0, .int l1], (jE0, M))) 2 rfl ?_
    refine g_gf (ci := 7) (k := 7) rfl rfl rfl pl0 ?_
    refine g_ic_ge (tgt := 69) rfl rfl (fun q1 => ?_) (fun q1 => ?_)
    · refine g_pure (c' := (11, [(0, .ref l0), (1, .int l1)], [.ref l0], (jE0, M))) 1 rfl ?_
      refine g_gp rfl rfl rfl pl0 (jp_ok (kd := 8) pl0 (by decide) (by decide) rfl rfl).1 ?_
      refine g_pure (c' := (16, [(0, .ref l0), (1, .int l1)], [.int (0 : Int32), .int l1, .ref (jpt l0 25)], (jE0, M))) 2 rfl ?_
      refine g_is rfl (jk_ok (kd := 8) pl0 (by decide) (by decide) rfl rfl) (fun M2 => ?_)
      refine g_pure (c' := (19, [(2, .int (0 : Int32)), (0, .ref l0), (1, .int l1)], [], (jE0, M2))) 2 rfl ?_
      refine g_weakk (lv := [(0, .ref l0), (1, .int l1), (2, .int (0 : Int32))]) ⟨rfl, rfl, rfl, trivial⟩ [0, 1, 2] rfl (by decide) [2, 0, 1] rfl (by decide) ?_
      exact (c191_19 (f191_2 n) (c191_2 n) 1000 l0 l1 (0 : Int32) M2 pl0)
    · refine g_pure (c' := (71, [(1, .int (0 : Int32)), (0, .ref l0)], [], (jE0, M))) 2 rfl ?_
      refine g_weakk (lv := [(0, .ref l0), (1, .int (0 : Int32))]) ⟨rfl, rfl, trivial⟩ [0, 1] rfl (by decide) [1, 0] rfl (by decide) ?_
      exact (c191_71 1000 l0 (0 : Int32) M pl0)
/-- CometKinModel.layMosts -/
def f191  (l0 : Nat) (M : JM) : Option JM := (f191_2 1000 l0 (0 : Int32) M)
set_option maxRecDepth 100000 in
theorem c191 {xs : Option (List Int32)} (l0 : Nat) (M : JM) (pl0 : jok jE0 l0 7 = true) : JG xs 8 191 (f191 l0 M) (fun x r => r = (none, (jE0, x))) (0, [(0, .ref l0)], [], (jE0, M)) := by
    unfold f191
    refine g_pure (c' := (2, [(1, .int (0 : Int32)), (0, .ref l0)], [], (jE0, M))) 2 rfl ?_
    refine g_weakk (lv := [(0, .ref l0), (1, .int (0 : Int32))]) ⟨rfl, rfl, trivial⟩ [0, 1] rfl (by decide) [1, 0] rfl (by decide) ?_
    exact (c191_2 1000 l0 (0 : Int32) M pl0)
