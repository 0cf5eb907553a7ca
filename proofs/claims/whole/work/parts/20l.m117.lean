def f117_79 (M : JM) (h25 : Nat → Int32 → Int32 → Int32 → Int32 → Option Int32) (l0 : Nat) (l1 : Int32) (l2 : Int32) (l3 : Int32) (l4 : Int32) : Option Int32 := (h25 l0 l1 l2 l3 (l4 + (1 : Int32)))
theorem c117_79 {xs : Option (List Int32)} {M : JM} (h25 : Nat → Int32 → Int32 → Int32 → Int32 → Option Int32) (H25 : ∀ (l0 : Nat) (l1 : Int32) (l2 : Int32) (l3 : Int32) (l4 : Int32) (pl0 : jok jE0 l0 6 = true), JG xs 15 117 (h25 l0 l1 l2 l3 l4) (fun x r => r = (some (.int x), (jE0, M))) (25, [(0, .ref l0), (1, .int l1), (2, .int l2), (3, .int l3), (4, .int l4)], [], (jE0, M))) : ∀ (l0 : Nat) (l1 : Int32) (l2 : Int32) (l3 : Int32) (l4 : Int32) (pl0 : jok jE0 l0 6 = true), JG xs 15 117 (f117_79 M h25 l0 l1 l2 l3 l4) (fun x r => r = (some (.int x), (jE0, M))) (79, [(0, .ref l0), (1, .int l1), (2, .int l2), (3, .int l3), (4, .int l4)], [], (jE0, M)) := by
    intro l0 l1 l2 l3 l4 pl0
    unfold f117_79
    refine g_pure (c' := (25, [(4, .int (l4 + (1 : Int32))), (0, .ref l0), (1, .int l1), (2, .int l2), (3, .int l3)], [], (jE0, M))) 2 rfl ?_
    refine g_weakk (lv := [(0, .ref l0), (1, .int l1), (2, .int l2), (3, .int l3), (4, .int (l4 + (1 : Int32)))]) ⟨rfl, rfl, rfl, rfl, rfl, trivial⟩ [0, 1, 2, 3, 4] rfl (by decide) [4, 0, 1, 2, 3] rfl (by decide) ?_
    exact (H25 l0 l1 l2 l3 (l4 + (1 : Int32)) pl0)
def f117_25 (M : JM) : Nat → Nat → Int32 → Int32 → Int32 → Int32 → Option Int32
  | 0, _, _, _, _, _ => none
  | n + 1, l0, l1, l2, l3, l4 => (if l4 < (M (jpt l0 1) 0) then ((f42 M (jpt l0 10) l1).bind fun v4 => ((f101 v4 l4).bind fun v5 => (if v5 = (0 : Int32) then (f117_79 M (f117_25 M n) l0 l1 l2 l3 l4) else ((f100 l4).bind fun v7 => ((f118 M 11 (jpt l0 10) (l3 &&& (v7 ^^^ (-1 : Int32))) (0 : Int32)).bind fun v8 => (if ((1 : Int32) + v8) = l2 then (some l4) else (f117_79 M (f117_25 M n) l0 l1 l2 l3 l4))))))) else (some (-1 : Int32)))
theorem c117_25 {xs : Option (List Int32)} {M : JM} : ∀ (n : Nat) (l0 : Nat) (l1 : Int32) (l2 : Int32) (l3 : Int32) (l4 : Int32) (pl0 : jok jE0 l0 6 = true), JG xs 15 117 (f117_25 M n l0 l1 l2 l3 l4) (fun x r => r = (some (.int x), (jE0, M))) (25, [(0, .ref l0), (1, .int l1), (2, .int l2), (3, .int l3), (4, .int l4)], [], (jE0, M))
  | 0, _, _, _, _, _, _ => by rw [f117_25]; exact g_none
  | n + 1, l0, l1, l2, l3, l4, pl0 => by
    rw [f117_25]
    refine g_pure (c' := (28, [(0, .ref l0), (1, .int l1), (2, .int l2), (3, .int l3), (4, .int l4)], [.ref l0, .int l4], (jE0, M))) 2 rfl ?_
    refine g_gp rfl rfl rfl pl0 (jp_ok (kd := 0) pl0 (by decide) (by decide) rfl rfl).1 ?_
    refine g_gf (ci := 0) (k := 0) rfl rfl rfl (jk_ok (kd := 0) pl0 (by decide) (by decide) rfl rfl) ?_
    refine g_ic_ge (tgt := 85) rfl rfl (fun q3 => ?_) (fun q3 => ?_)
    · refine g_pure (c' := (38, [(0, .ref l0), (1, .int l1), (2, .int l2), (3, .int l3), (4, .int l4)], [.ref l0], (jE0, M))) 1 rfl ?_
      refine g_gp rfl rfl rfl pl0 (jp_ok (kd := 3) pl0 (by decide) (by decide) rfl rfl).1 ?_
      refine g_pure (c' := (42, [(0, .ref l0), (1, .int l1), (2, .int l2), (3, .int l3), (4, .int l4)], [.int l1, .ref (jpt l0 10)], (jE0, M))) 1 rfl ?_
      refine g_cI rfl (jc_v rfl rfl (jv_o (jk_ok (kd := 3) pl0 (by decide) (by decide) rfl rfl) rfl) rfl) (c42 (jpt l0 10) l1 (jk_ok (kd := 3) pl0 (by decide) (by decide) rfl rfl)) (by decide) (fun v4 qv4 => ?_)
      refine g_pure (c' := (47, [(0, .ref l0), (1, .int l1), (2, .int l2), (3, .int l3), (4, .int l4)], [.int l4, .int v4], (jE0, M))) 1 rfl ?_
      refine g_cI rfl (jc_s rfl rfl) (c101 v4 l4) (by decide) (fun v5 qv5 => ?_)
      refine g_if_eq (tgt := 79) rfl rfl (fun q6 => ?_) (fun q6 => ?_)
      · exact (c117_79 (f117_25 M n) (c117_25 n) l0 l1 l2 l3 l4 pl0)
      · refine g_pure (c' := (55, [(0, .ref l0), (1, .int l1), (2, .int l2), (3, .int l3), (4, .int l4)], [.ref l0, .int (1 : Int32)], (jE0, M))) 2 rfl ?_
        refine g_gp rfl rfl rfl pl0 (jp_ok (kd := 3) pl0 (by decide) (by decide) rfl rfl).1 ?_
        refine g_pure (c' := (61, [(0, .ref l0), (1, .int l1), (2, .int l2), (3, .int l3), (4, .int l4)], [.int l4, .int l3, .ref (jpt l0 10), .int (1 : Int32)], (jE0, M))) 2 rfl ?_
        refine g_cI rfl (jc_s rfl rfl) (c100 l4) (by decide) (fun v7 qv7 => ?_)
        refine g_pure (c' := (68, [(0, .ref l0), (1, .int l1), (2, .int l2), (3, .int l3), (4, .int l4)], [.int (0 : Int32), .int (l3 &&& (v7 ^^^ (-1 : Int32))), .ref (jpt l0 10), .int (1 : Int32)], (jE0, M))) 4 rfl ?_
        refine g_cI rfl (jc_s rfl rfl) (c118 11 (jpt l0 10) (l3 &&& (v7 ^^^ (-1 : Int32))) (0 : Int32) (jk_ok (kd := 3) pl0 (by decide) (by decide) rfl rfl)) (by decide) (fun v8 qv8 => ?_)
        refine g_pure (c' := (73, [(0, .ref l0), (1, .int l1), (2, .int l2), (3, .int l3), (4, .int l4)], [.int l2, .int ((1 : Int32) + v8)], (jE0, M))) 2 rfl ?_
        refine g_ic_ne (tgt := 79) rfl rfl (fun q9 => ?_) (fun q9 => ?_)
        · refine g_pure (c' := (78, [(0, .ref l0), (1, .int l1), (2, .int l2), (3, .int l3), (4, .int l4)], [.int l4], (jE0, M))) 1 rfl ?_
          exact g_ret rfl rfl (fun _ h => h)
        · exact (c117_79 (f117_25 M n) (c117_25 n) l0 l1 l2 l3 l4 pl0)
    · refine g_pure (c' := (86, [(0, .ref l0), (1, .int l1), (2, .int l2), (3, .int l3), (4, .int l4)], [.int (-1 : Int32)], (jE0, M))) 1 rfl ?_
      exact g_ret rfl rfl (fun _ h => h)
/-- CometKin.firstPartner -/
def f117 (M : JM) (l0 : Nat) (l1 : Int32) (l2 : Int32) : Option Int32 := ((f102 (M (jpt l0 1) 0)).bind fun v1 => ((f102 (l1 + (1 : Int32))).bind fun v2 => (f117_25 M 1000 l0 l1 l2 (v1 &&& (v2 ^^^ (-1 : Int32))) (l1 + (1 : Int32)))))
theorem c117 {xs : Option (List Int32)} {M : JM} (l0 : Nat) (l1 : Int32) (l2 : Int32) (pl0 : jok jE0 l0 6 = true) : JG xs 15 117 (f117 M l0 l1 l2) (fun x r => r = (some (.int x), (jE0, M))) (0, [(0, .ref l0), (1, .int l1), (2, .int l2)], [], (jE0, M)) := by
    unfold f117
    refine g_pure (c' := (1, [(0, .ref l0), (1, .int l1), (2, .int l2)], [.ref l0], (jE0, M))) 1 rfl ?_
    refine g_gp rfl rfl rfl pl0 (jp_ok (kd := 0) pl0 (by decide) (by decide) rfl rfl).1 ?_
    refine g_gf (ci := 0) (k := 0) rfl rfl rfl (jk_ok (kd := 0) pl0 (by decide) (by decide) rfl rfl) ?_
    refine g_cI rfl (jc_s rfl rfl) (c102 (M (jpt l0 1) 0)) (by decide) (fun v1 qv1 => ?_)
    refine g_pure (c' := (13, [(0, .ref l0), (1, .int l1), (2, .int l2)], [.int (l1 + (1 : Int32)), .int v1], (jE0, M))) 3 rfl ?_
    refine g_cI rfl (jc_s rfl rfl) (c102 (l1 + (1 : Int32))) (by decide) (fun v2 qv2 => ?_)
    refine g_pure (c' := (25, [(4, .int (l1 + (1 : Int32))), (3, .int (v1 &&& (v2 ^^^ (-1 : Int32)))), (0, .ref l0), (1, .int l1), (2, .int l2)], [], (jE0, M))) 8 rfl ?_
    refine g_weakk (lv := [(0, .ref l0), (1, .int l1), (2, .int l2), (3, .int (v1 &&& (v2 ^^^ (-1 : Int32)))), (4, .int (l1 + (1 : Int32)))]) ⟨rfl, rfl, rfl, rfl, rfl, trivial⟩ [0, 1, 2, 3, 4] rfl (by decide) [4, 3, 0, 1, 2] rfl (by decide) ?_
    exact (c117_25 1000 l0 l1 l2 (v1 &&& (v2 ^^^ (-1 : Int32))) (l1 + (1 : Int32)) pl0)
def f91_43  : Nat → Nat → Int32 → Int32 → Int32 → JM → Option (Int32 × JM)
  | 0, _, _, _, _, _ => none
  | n + 1, l0, l1, l2, l3, M => (if l3 < (M (jpt l0 1) 0) then ((f117 M l0 l3 l2).bind fun v8 => (if v8 = (-1 : Int32) then ((f91_43 n) l0 l1 l2 (l3 + (1 : Int32)) M) else (if l1 = (1 : Int32) then (some (l3, M)) else (some (v8, M))))) else (some ((-1 : Int32), M)))
theorem c91_43 {xs : Option (List Int32)} : ∀ (n : Nat) (l0 : Nat) (l1 : Int32) (l2 : Int32) (l3 : Int32) (M : JM) (pl0 : jok jE0 l0 6 = true), JG xs 16 91 (f91_43 n l0 l1 l2 l3 M) (fun x r => r = (some (.int x.1), (jE0, x.2))) (43, [(0, .ref l0), (1, .int l1), (2, .int l2), (3, .int l3)], [], (jE0, M))
  | 0, _, _, _, _, _, _ => by rw [f91_43]; exact g_none
  | n + 1, l0, l1, l2, l3, M, pl0 => by
    rw [f91_43]
    refine g_pure (c' := (45, [(0, .ref l0), (1, .int l1), (2, .int l2), (3, .int l3)], [.ref l0, .int l3], (jE0, M))) 2 rfl ?_
    refine g_gp rfl rfl rfl pl0 (jp_ok (kd := 0) pl0 (by decide) (by decide) rfl rfl).1 ?_
    refine g_gf (ci := 0) (k := 0) rfl rfl rfl (jk_ok (kd := 0) pl0 (by decide) (by decide) rfl rfl) ?_
    refine g_ic_ge (tgt := 86) rfl rfl (fun q7 => ?_) (fun q7 => ?_)
    · refine g_pure (c' := (57, [(0, .ref l0), (1, .int l1), (2, .int l2), (3, .int l3)], [.int l2, .int l3, .ref l0], (jE0, M))) 3 rfl ?_
      refine g_cI rfl (jc_v rfl rfl (jv_o pl0 rfl) rfl) (c117 l0 l3 l2 pl0) (by decide) (fun v8 qv8 => ?_)
      refine g_pure (c' := (65, [(4, .int v8), (0, .ref l0), (1, .int l1), (2, .int l2), (3, .int l3)], [.int (-1 : Int32), .int v8], (jE0, M))) 3 rfl ?_
      refine g_ic_eq (tgt := 80) rfl rfl (fun q9 => ?_) (fun q9 => ?_)
      · refine g_pure (c' := (43, [(3, .int (l3 + (1 : Int32))), (4, .int v8), (0, .ref l0), (1, .int l1), (2, .int l2)], [], (jE0, M))) 2 rfl ?_
        refine g_weakk (lv := [(0, .ref l0), (1, .int l1), (2, .int l2), (3, .int (l3 + (1 : Int32)))]) ⟨rfl, rfl, rfl, rfl, trivial⟩ [0, 1, 2, 3] rfl (by decide) [3, 4, 0, 1, 2] rfl (by decide) ?_
        exact ((c91_43 n) l0 l1 l2 (l3 + (1 : Int32)) M pl0)
      · refine g_pure (c' := (70, [(4, .int v8), (0, .ref l0), (1, .int l1), (2, .int l2), (3, .int l3)], [.int (1 : Int32), .int l1], (jE0, M))) 2 rfl ?_
        refine g_ic_ne (tgt := 77) rfl rfl (fun q10 => ?_) (fun q10 => ?_)
        · refine g_pure (c' := (79, [(4, .int v8), (0, .ref l0), (1, .int l1), (2, .int l2), (3, .int l3)], [.int l3], (jE0, M))) 2 rfl ?_
          exact g_ret rfl rfl (fun _ h => h)
        · refine g_pure (c' := (79, [(4, .int v8), (0, .ref l0), (1, .int l1), (2, .int l2), (3, .int l3)], [.int v8], (jE0, M))) 1 rfl ?_
          exact g_ret rfl rfl (fun _ h => h)
    · refine g_pure (c' := (87, [(0, .ref l0), (1, .int l1), (2, .int l2), (3, .int l3)], [.int (-1 : Int32)], (jE0, M))) 1 rfl ?_
      exact g_ret rfl rfl (fun _ h => h)
/-- CometKin.weddings -/
def f91  (l0 : Nat) (l1 : Int32) (M : JM) : Option (Int32 × JM) := (if l1 < (0 : Int32) then (some ((-3 : Int32), M)) else (if (2 : Int32) < l1 then (some ((-3 : Int32), M)) else ((f116 l0 M).bind fun M3 => ((f102 (M3 (jpt l0 1) 0)).bind fun v4 => ((f118 M3 11 (jpt l0 10) v4 (0 : Int32)).bind fun v5 => (if l1 = (0 : Int32) then (some (v5, M3)) else (f91_43 1000 l0 l1 v5 (0 : Int32) M3)))))))
theorem c91 {xs : Option (List Int32)} (l0 : Nat) (l1 : Int32) (M : JM) (pl0 : jok jE0 l0 6 = true) : JG xs 16 91 (f91 l0 l1 M) (fun x r => r = (some (.int x.1), (jE0, x.2))) (0, [(0, .ref l0), (1, .int l1)], [], (jE0, M)) := by
    unfold f91
    refine g_pure (c' := (1, [(0, .ref l0), (1, .int l1)], [.int l1], (jE0, M))) 1 rfl ?_
    refine g_if_lt (tgt := 9) rfl rfl (fun q1 => ?_) (fun q1 => ?_)
    · refine g_pure (c' := (11, [(0, .ref l0), (1, .int l1)], [.int (-3 : Int32)], (jE0, M))) 1 rfl ?_
      exact g_ret rfl rfl (fun _ h => h)
    · refine g_pure (c' := (6, [(0, .ref l0), (1, .int l1)], [.int (2 : Int32), .int l1], (jE0, M))) 2 rfl ?_
      refine g_ic_le (tgt := 12) rfl rfl (fun q2 => ?_) (fun q2 => ?_)
      · refine g_pure (c' := (11, [(0, .ref l0), (1, .int l1)], [.int (-3 : Int32)], (jE0, M))) 1 rfl ?_
        exact g_ret rfl rfl (fun _ h => h)
      · refine g_pure (c' := (13, [(0, .ref l0), (1, .int l1)], [.ref l0], (jE0, M))) 1 rfl ?_
        refine g_wV rfl (jc_v rfl rfl (jv_o pl0 rfl) rfl) (c116 l0 M pl0) (by decide) (fun M3 => ?_)
        refine g_pure (c' := (17, [(0, .ref l0), (1, .int l1)], [.ref l0], (jE0, M3))) 1 rfl ?_
        refine g_gp rfl rfl rfl pl0 (jp_ok (kd := 3) pl0 (by decide) (by decide) rfl rfl).1 ?_
        refine g_pure (c' := (21, [(0, .ref l0), (1, .int l1)], [.ref l0, .ref (jpt l0 10)], (jE0, M3))) 1 rfl ?_
        refine g_gp rfl rfl rfl pl0 (jp_ok (kd := 0) pl0 (by decide) (by decide) rfl rfl).1 ?_
        refine g_gf (ci := 0) (k := 0) rfl rfl rfl (jk_ok (kd := 0) pl0 (by decide) (by decide) rfl rfl) ?_
        refine g_cI rfl (jc_s rfl rfl) (c102 (M3 (jpt l0 1) 0)) (by decide) (fun v4 qv4 => ?_)
        refine g_pure (c' := (31, [(0, .ref l0), (1, .int l1)], [.int (0 : Int32), .int v4, .ref (jpt l0 10)], (jE0, M3))) 1 rfl ?_
        refine g_cI rfl (jc_s rfl rfl) (c118 11 (jpt l0 10) v4 (0 : Int32) (jk_ok (kd := 3) pl0 (by decide) (by decide) rfl rfl)) (by decide) (fun v5 qv5 => ?_)
        refine g_pure (c' := (36, [(2, .int v5), (0, .ref l0), (1, .int l1)], [.int l1], (jE0, M3))) 2 rfl ?_
        refine g_if_ne (tgt := 41) rfl rfl (fun q6 => ?_) (fun q6 => ?_)
        · refine g_pure (c' := (40, [(2, .int v5), (0, .ref l0), (1, .int l1)], [.int v5], (jE0, M3))) 1 rfl ?_
          exact g_ret rfl rfl (fun _ h => h)
        · refine g_pure (c' := (43, [(3, .int (0 : Int32)), (2, .int v5), (0, .ref l0), (1, .int l1)], [], (jE0, M3))) 2 rfl ?_
          refine g_weakk (lv := [(0, .ref l0), (1, .int l1), (2, .int v5), (3, .int (0 : Int32))]) ⟨rfl, rfl, rfl, rfl, trivial⟩ [0, 1, 2, 3] rfl (by decide) [3, 2, 0, 1] rfl (by decide) ?_
          exact (c91_43 1000 l0 l1 v5 (0 : Int32) M3 pl0)
def f191_55 (h2 : Nat → Int32 → JM → Option JM) (h19 : Nat → Int32 → Int32 → JM → Option JM) (l0 : Nat) (l1 : Int32) (l2 : Int32) (s0 : Int32) (s1 : Int32) (s2 : Int32) (s3 : Nat) (M : JM) : Option JM := ((jsa s3 s2 (s1 ||| s0) M).bind fun M6 => (h19 l0 l1 (l2 + (1 : Int32)) M6))
theorem c191_55 {xs : Option (List Int32)} (h2 : Nat → Int32 → JM → Option JM) (H2 : ∀ (l0 : Nat) (l1 : Int32) (M : JM) (pl0 : jok jE0 l0 7 = true), JG xs 8 191 (h2 l0 l1 M) (fun x r => r = (none, (jE0, x))) (2, [(0, .ref l0), (1, .int l1)], [], (jE0, M))) (h19 : Nat → Int32 → Int32 → JM → Option JM) (H19 : ∀ (l0 : Nat) (l1 : Int32) (l2 : Int32) (M : JM) (pl0 : jok jE0 l0 7 = true), JG xs 8 191 (h19 l0 l1 l2 M) (fun x r => r = (none, (jE0, x))) (19, [(0, .ref l0), (1, .int l1), (2, .int l2)], [], (jE0, M))) : ∀ (l0 : Nat) (l1 : Int32) (l2 : Int32) (s0 : Int32) (s1 : Int32) (s2 : Int32) (s3 : Nat) (M : JM) (pl0 : jok jE0 l0 7 = true) (ps3 : jok jE0 s3 8 = true), JG xs 8 191 (f191_55 h2 h19 l0 l1 l2 s0 s1 s2 s3 M) (fun x r => r = (none, (jE0, x))) (55, [(0, .ref l0), (1, .int l1), (2, .int l2)], [.int s0, .int s1, .int s2, .ref s3], (jE0, M)) := by
    intro l0 l1 l2 s0 s1 s2 s3 M pl0 ps3
    unfold f191_55
    refine g_pure (c' := (56, [(0, .ref l0), (1, .int l1), (2, .int l2)], [.int (s1 ||| s0), .int s2, .ref s3], (jE0, M))) 1 rfl ?_
    refine g_is rfl ps3 (fun M6 => ?_)
    refine g_pure (c' := (19, [(2, .int (l2 + (1 : Int32))), (0, .ref l0), (1, .int l1)], [], (jE0, M6))) 2 rfl ?_
    refine g_weakk (lv := [(0, .ref l0), (1, .int l1), (2, .int (l2 + (1 : Int32)))]) ⟨rfl, rfl, rfl, trivial⟩ [0, 1, 2] rfl (by decide) [2, 0, 1] rfl (by decide) ?_
    exact (H19 l0 l1 (l2 + (1 : Int32)) M6 pl0)
def f191_54 (h2 : Nat → Int32 → JM → Option JM) (h19 : Nat → Int32 → Int32 → JM → Option JM) (l0 : Nat) (l1 : Int32) (l2 : Int32) (s0 : Int32) (s1 : Int32) (s2 : Nat) (M : JM) : Option JM := (f191_55 h2 h19 l0 l1 l2 (0 : Int32) s0 s1 s2 M)
theorem c191_54 {xs : Option (List Int32)} (h2 : Nat → Int32 → JM → Option JM) (H2 : ∀ (l0 : Nat) (l1 : Int32) (M : JM) (pl0 : jok jE0 l0 7 = true), JG xs 8 191 (h2 l0 l1 M) (fun x r => r = (none, (jE0, x))) (2, [(0, .ref l0), (1, .int l1)], [], (jE0, M))) (h19 : Nat → Int32 → Int32 → JM → Option JM) (H19 : ∀ (l0 : Nat) (l1 : Int32) (l2 : Int32) (M : JM) (pl0 : jok jE0 l0 7 = true), JG xs 8 191 (h19 l0 l1 l2 M) (fun x r => r = (none, (jE0, x))) (19, [(0, .ref l0), (1, .int l1), (2, .int l2)], [], (jE0, M))) : ∀ (l0 : Nat) (l1 : Int32) (l2 : Int32) (s0 : Int32) (s1 : Int32) (s2 : Nat) (M : JM) (pl0 : jok jE0 l0 7 = true) (ps2 : jok jE0 s2 8 = true), JG xs 8 191 (f191_54 h2 h19 l0 l1 l2 s0 s1 s2 M) (fun x r => r = (none, (jE0, x))) (54, [(0, .ref l0), (1, .int l1), (2, .int l2)], [.int s0, .int s1, .ref s2], (jE0, M)) := by
    intro l0 l1 l2 s0 s1 s2 M pl0 ps2
    unfold f191_54
    refine g_pure (c' := (55, [(0, .ref l0), (1, .int l1), (2, .int l2)], [.int (0 : Int32), .int s0, .int s1, .ref s2], (jE0, M))) 1 rfl ?_
    exact (c191_55 h2 H2 h19 H19 l0 l1 l2 (0 : Int32) s0 s1 s2 M pl0 ps2)
def f191_19 (h2 : Nat → Int32 → JM → Option JM) : Nat → Nat → Int32 → Int32 → JM → Option JM
  | 0, _, _, _, _ => none
  | n + 1, l0, l1, l2, M => (if l2 < (M l0 7) then ((jla (jpt l0 25) l1 M).bind fun v4 => (if l2 = l1 then (f191_54 h2 (f191_19 h2 n) l0 l1 l2 v4 l1 (jpt l0 25) M) else ((f173 l0 l1 l2 M).bind fun z10 => (if z10.1 = (0 : Int32) then (f191_54 h2 (f191_19 h2 n) l0 l1 l2 v4 l1 (jpt l0 25) z10.2) else (f191_55 h2 (f191_19 h2 n) l0 l1 l2 ((1 : Int32) <<< (l2 &&& (31 : Int32))) v4 l1 (jpt l0 25) z10.2))))) else (h2 l0 (l1 + (1 : Int32)) M))
theorem c191_19 {xs : Option (List Int32)} (h2 : Nat → Int32 → JM → Option JM) (H2 : ∀ (l0 : Nat) (l1 : Int32) (M : JM) (pl0 : jok jE0 l0 7 = true), JG xs 8 191 (h2 l0 l1 M) (fun x r => r = (none, (jE0, x))) (2, [(0, .ref l0), (1, .int l1)], [], (jE0, M))) : ∀ (n : Nat) (l0 : Nat) (l1 : Int32) (l2 : Int32) (M : JM) (pl0 : jok jE0 l0 7 = true), JG xs 8 191 (f191_19 h2 n l0 l1 l2 M) (fun x r => r = (none, (jE0, x))) (19, [(0, .ref l0), (1, .int l1), (2, .int l2)], [], (jE0, M))
  | 0, _, _, _, _, _ => by rw [f191_19]; exact g_none
  | n + 1, l0, l1, l2, M, pl0 => by
    rw [f191_19]
    refine g_pure (c' := (21, [(0, .ref l0), (1, .int l1), (2, .int l2)], [.ref l0, .int l2], (jE0, M))) 2 rfl ?_
    refine g_gf (ci := 7) (k := 7) rfl rfl rfl pl0 ?_
    refine g_ic_ge (tgt := 63) rfl rfl (fun q3 => ?_) (fun q3 => ?_)
    · refine g_pure (c' := (28, [(0, .ref l0), (1, .int l1), (2, .int l2)], [.ref l0], (jE0, M))) 1 rfl ?_
      refine g_gp rfl rfl rfl pl0 (jp_ok (kd := 8) pl0 (by decide) (by decide) rfl rfl).1 ?_
      refine g_pure (c' := (33, [(0, .ref l0), (1, .int l1), (2, .int l2)], [.int l1, .ref (jpt l0 25), .int l1, .ref (jpt l0 25)], (jE0, M))) 2 rfl ?_
      refine g_ia rfl (jk_ok (kd := 8) pl0 (by decide) (by decide) rfl rfl) (fun v4 => ?_)
      refine g_pure (c' := (36, [(0, .ref l0), (1, .int l1), (2, .int l2)], [.int l1, .int l2, .int v4, .int l1, .ref (jpt l0 25)], (jE0, M))) 2 rfl ?_
      refine g_ic_eq (tgt := 54) rfl rfl (fun q5 => ?_) (fun q5 => ?_)
      · exact (c191_54 h2 H2 (f191_19 h2 n) (c191_19 h2 H2 n) l0 l1 l2 v4 l1 (jpt l0 25) M pl0 (jk_ok (kd := 8) pl0 (by decide) (by decide) rfl rfl))
      · refine g_pure (c' := (42, [(0, .ref l0), (1, .int l1), (2, .int l2)], [.int l2, .int l1, .ref l0, .int v4, .int l1, .ref (jpt l0 25)], (jE0, M))) 3 rfl ?_
        refine g_wI rfl (jc_v rfl rfl (jv_o pl0 rfl) rfl) (c173 l0 l1 l2 M pl0) (by decide) (fun v8 M7 qv8 => ?_)
        refine g_if_eq (tgt := 54) rfl rfl (fun q9 => ?_) (fun q9 => ?_)
        · exact (c191_54 h2 H2 (f191_19 h2 n) (c191_19 h2 H2 n) l0 l1 l2 v4 l1 (jpt l0 25) M7 pl0 (jk_ok (kd := 8) pl0 (by decide) (by decide) rfl rfl))
        · refine g_pure (c' := (55, [(0, .ref l0), (1, .int l1), (2, .int l2)], [.int ((1 : Int32) <<< (l2 &&& (31 : Int32))), .int v4, .int l1, .ref (jpt l0 25)], (jE0, M7))) 4 rfl ?_
          exact (c191_55 h2 H2 (f191_19 h2 n) (c191_19 h2 H2 n) l0 l1 l2 ((1 : Int32) <<< (l2 &&& (31 : Int32))) v4 l1 (jpt l0 25) M7 pl0 (jk_ok (kd := 8) pl0 (by decide) (by decide) rfl rfl))
    · refine g_pure (c' := (2, [(1, .int (l1 + (1 : Int32))), (0, .ref l0), (2, .int l2)], [], (jE0, M))) 2 rfl ?_
      refine g_weakk (lv := [(0, .ref l0), (1, .int (l1 + (1 : Int32)))]) ⟨rfl, rfl, trivial⟩ [0, 1] rfl (by decide) [1, 0, 2] rfl (by decide) ?_
      exact (H2 l0 (l1 + (1 : Int32)) M pl0)
def f191_201 (h71 : Nat → Int32 → JM → Option JM) (h129 : Nat → Int32 → Int32 → Int32 → Int32 → JM → Option JM) (l0 : Nat) (l1 : Int32) (l2 : Int32) (l4 : Int32) (s0 : Int32) (M : JM) : Option JM := (h129 l0 l1 l2 s0 (l4 + (1 : Int32)) M)
theorem c191_201 {xs : Option (List Int32)} (h71 : Nat → Int32 → JM → Option JM) (H71 : ∀ (l0 : Nat) (l1 : Int32) (M : JM) (pl0 : jok jE0 l0 7 = true), JG xs 8 191 (h71 l0 l1 M) (fun x r => r = (none, (jE0, x))) (71, [(0, .ref l0), (1, .int l1)], [], (jE0, M))) (h129 : Nat → Int32 → Int32 → Int32 → Int32 → JM → Option JM) (H129 : ∀ (l0 : Nat) (l1 : Int32) (l2 : Int32) (l3 : Int32) (l4 : Int32) (M : JM) (pl0 : jok jE0 l0 7 = true), JG xs 8 191 (h129 l0 l1 l2 l3 l4 M) (fun x r => r = (none, (jE0, x))) (129, [(0, .ref l0), (1, .int l1), (2, .int l2), (3, .int l3), (4, .int l4)], [], (jE0, M))) : ∀ (l0 : Nat) (l1 : Int32) (l2 : Int32) (l4 : Int32) (s0 : Int32) (M : JM) (pl0 : jok jE0 l0 7 = true), JG xs 8 191 (f191_201 h71 h129 l0 l1 l2 l4 s0 M) (fun x r => r = (none, (jE0, x))) (201, [(0, .ref l0), (1, .int l1), (2, .int l2), (4, .int l4)], [.int s0], (jE0, M)) := by
    intro l0 l1 l2 l4 s0 M pl0
    unfold f191_201
    refine g_pure (c' := (129, [(4, .int (l4 + (1 : Int32))), (3, .int s0), (0, .ref l0), (1, .int l1), (2, .int l2)], [], (jE0, M))) 3 rfl ?_
    refine g_weakk (lv := [(0, .ref l0), (1, .int l1), (2, .int l2), (3, .int s0), (4, .int (l4 + (1 : Int32)))]) ⟨rfl, rfl, rfl, rfl, rfl, trivial⟩ [0, 1, 2, 3, 4] rfl (by decide) [4, 3, 0, 1, 2] rfl (by decide) ?_
    exact (H129 l0 l1 l2 s0 (l4 + (1 : Int32)) M pl0)
def f191_187 (h71 : Nat → Int32 → JM → Option JM) (h129 : Nat → Int32 → Int32 → Int32 → Int32 → JM → Option JM) (l0 : Nat) (l1 : Int32) (l2 : Int32) (l3 : Int32) (l4 : Int32) (s0 : Int32) (M : JM) : Option JM := (if l3 < s0 then (f191_201 h71 h129 l0 l1 l2 l4 s0 M) else (f191_201 h71 h129 l0 l1 l2 l4 l3 M))
theorem c191_187 {xs : Option (List Int32)} (h71 : Nat → Int32 → JM → Option JM) (H71 : ∀ (l0 : Nat) (l1 : Int32) (M : JM) (pl0 : jok jE0 l0 7 = true), JG xs 8 191 (h71 l0 l1 M) (fun x r => r = (none, (jE0, x))) (71, [(0, .ref l0), (1, .int l1)], [], (jE0, M))) (h129 : Nat → Int32 → Int32 → Int32 → Int32 → JM → Option JM) (H129 : ∀ (l0 : Nat) (l1 : Int32) (l2 : Int32) (l3 : Int32) (l4 : Int32) (M : JM) (pl0 : jok jE0 l0 7 = true), JG xs 8 191 (h129 l0 l1 l2 l3 l4 M) (fun x r => r = (none, (jE0, x))) (129, [(0, .ref l0), (1, .int l1), (2, .int l2), (3, .int l3), (4, .int l4)], [], (jE0, M))) : ∀ (l0 : Nat) (l1 : Int32) (l2 : Int32) (l3 : Int32) (l4 : Int32) (s0 : Int32) (M : JM) (pl0 : jok jE0 l0 7 = true), JG xs 8 191 (f191_187 h71 h129 l0 l1 l2 l3 l4 s0 M) (fun x r => r = (none, (jE0, x))) (187, [(0, .ref l0), (1, .int l1), (2, .int l2), (3, .int l3), (4, .int l4)], [.int s0], (jE0, M)) := by
    intro l0 l1 l2 l3 l4 s0 M pl0
    unfold f191_187
    refine g_pure (c' := (192, [(5, .int s0), (0, .ref l0), (1, .int l1), (2, .int l2), (3, .int l3), (4, .int l4)], [.int l3, .int s0], (jE0, M))) 3 rfl ?_
    refine g_ic_le (tgt := 200) rfl rfl (fun q21 => ?_) (fun q21 => ?_)
    · refine g_pure (c' := (201, [(5, .int s0), (0, .ref l0), (1, .int l1), (2, .int l2), (3, .int l3), (4, .int l4)], [.int s0], (jE0, M))) 2 rfl ?_
      refine g_weakk (lv := [(0, .ref l0), (1, .int l1), (2, .int l2), (4, .int l4)]) ⟨rfl, rfl, rfl, rfl, trivial⟩ [0, 1, 2, 4] rfl (by decide) [5, 0, 1, 2, 3, 4] rfl (by decide) ?_
      exact (c191_201 h71 H71 h129 H129 l0 l1 l2 l4 s0 M pl0)
    · refine g_pure (c' := (201, [(5, .int s0), (0, .ref l0), (1, .int l1), (2, .int l2), (3, .int l3), (4, .int l4)], [.int l3], (jE0, M))) 1 rfl ?_
      refine g_weakk (lv := [(0, .ref l0), (1, .int l1), (2, .int l2), (4, .int l4)]) ⟨rfl, rfl, rfl, rfl, trivial⟩ [0, 1, 2, 4] rfl (by decide) [5, 0, 1, 2, 3, 4] rfl (by decide) ?_
      exact (c191_201 h71 H71 h129 H129 l0 l1 l2 l4 l3 M pl0)
def f191_208 (h71 : Nat → Int32 → JM → Option JM) (l0 : Nat) (l1 : Int32) (l3 : Int32) (M : JM) : Option JM := ((jsa (jpt l0 24) l1 l3 M).bind fun M23 => (h71 l0 (l1 + (1 : Int32)) M23))
theorem c191_208 {xs : Option (List Int32)} (h71 : Nat → Int32 → JM → Option JM) (H71 : ∀ (l0 : Nat) (l1 : Int32) (M : JM) (pl0 : jok jE0 l0 7 = true), JG xs 8 191 (h71 l0 l1 M) (fun x r => r = (none, (jE0, x))) (71, [(0, .ref l0), (1, .int l1)], [], (jE0, M))) : ∀ (l0 : Nat) (l1 : Int32) (l3 : Int32) (M : JM) (pl0 : jok jE0 l0 7 = true), JG xs 8 191 (f191_208 h71 l0 l1 l3 M) (fun x r => r = (none, (jE0, x))) (208, [(0, .ref l0), (1, .int l1), (3, .int l3)], [], (jE0, M)) := by
    intro l0 l1 l3 M pl0
    unfold f191_208
    refine g_pure (c' := (209, [(0, .ref l0), (1, .int l1), (3, .int l3)], [.ref l0], (jE0, M))) 1 rfl ?_
    refine g_gp rfl rfl rfl pl0 (jp_ok (kd := 8) pl0 (by decide) (by decide) rfl rfl).1 ?_
    refine g_pure (c' := (214, [(0, .ref l0), (1, .int l1), (3, .int l3)], [.int l3, .int l1, .ref (jpt l0 24)], (jE0, M))) 2 rfl ?_
    refine g_is rfl (jk_ok (kd := 8) pl0 (by decide) (by decide) rfl rfl) (fun M23 => ?_)
    refine g_pure (c' := (71, [(1, .int (l1 + (1 : Int32))), (0, .ref l0), (3, .int l3)], [], (jE0, M23))) 2 rfl ?_
    refine g_weakk (lv := [(0, .ref l0), (1, .int (l1 + (1 : Int32)))]) ⟨rfl, rfl, trivial⟩ [0, 1] rfl (by decide) [1, 0, 3] rfl (by decide) ?_
    exact (H71 l0 (l1 + (1 : Int32)) M23 pl0)
def f191_129 (h71 : Nat → Int32 → JM → Option JM) : Nat → Nat → Int32 → Int32 → Int32 → Int32 → JM → Option JM
  | 0, _, _, _, _, _, _ => none
  | n + 1, l0, l1, l2, l3, l4, M => (if l4 < (M l0 7) then (if l2 < (M l0 7) then ((jla (jpt l0 25) l2 M).bind fun v18 => ((f126 (l1 &&& v18) l4).bind fun v19 => (if v19 = (0 : Int32) then (f191_187 h71 (f191_129 h71 n) l0 l1 l2 l3 l4 (0 : Int32) M) else ((jla (jpt l0 24) ((l1 &&& (((1 : Int32) <<< (l2 &&& (31 : Int32))) ^^^ (-1 : Int32))) &&& (((1 : Int32) <<< (l4 &&& (31 : Int32))) ^^^ (-1 : Int32))) M).bind fun v22 => (f191_187 h71 (f191_129 h71 n) l0 l1 l2 l3 l4 ((1 : Int32) + v22) M))))) else (f191_208 h71 l0 l1 l3 M)) else (f191_208 h71 l0 l1 l3 M))
theorem c191_129 {xs : Option (List Int32)} (h71 : Nat → Int32 → JM → Option JM) (H71 : ∀ (l0 : Nat) (l1 : Int32) (M : JM) (pl0 : jok jE0 l0 7 = true), JG xs 8 191 (h71 l0 l1 M) (fun x r => r = (none, (jE0, x))) (71, [(0, .ref l0), (1, .int l1)], [], (jE0, M))) : ∀ (n : Nat) (l0 : Nat) (l1 : Int32) (l2 : Int32) (l3 : Int32) (l4 : Int32) (M : JM) (pl0 : jok jE0 l0 7 = true), JG xs 8 191 (f191_129 h71 n l0 l1 l2 l3 l4 M) (fun x r => r = (none, (jE0, x))) (129, [(0, .ref l0), (1, .int l1), (2, .int l2), (3, .int l3), (4, .int l4)], [], (jE0, M))
  | 0, _, _, _, _, _, _, _ => by rw [f191_129]; exact g_none
  | n + 1, l0, l1, l2, l3, l4, M, pl0 => by
    rw [f191_129]
    refine g_pure (c' := (132, [(0, .ref l0), (1, .int l1), (2, .int l2), (3, .int l3), (4, .int l4)], [.ref l0, .int l4], (jE0, M))) 2 rfl ?_
    refine g_gf (ci := 7) (k := 7) rfl rfl rfl pl0 ?_
    refine g_ic_ge (tgt := 208) rfl rfl (fun q16 => ?_) (fun q16 => ?_)
    · refine g_pure (c' := (140, [(0, .ref l0), (1, .int l1), (2, .int l2), (3, .int l3), (4, .int l4)], [.ref l0, .int l2], (jE0, M))) 2 rfl ?_
      refine g_gf (ci := 7) (k := 7) rfl rfl rfl pl0 ?_
      refine g_ic_ge (tgt := 208) rfl rfl (fun q17 => ?_) (fun q17 => ?_)
      · refine g_pure (c' := (148, [(0, .ref l0), (1, .int l1), (2, .int l2), (3, .int l3), (4, .int l4)], [.ref l0, .int l1], (jE0, M))) 2 rfl ?_
        refine g_gp rfl rfl rfl pl0 (jp_ok (kd := 8) pl0 (by decide) (by decide) rfl rfl).1 ?_
        refine g_pure (c' := (152, [(0, .ref l0), (1, .int l1), (2, .int l2), (3, .int l3), (4, .int l4)], [.int l2, .ref (jpt l0 25), .int l1], (jE0, M))) 1 rfl ?_
        refine g_ia rfl (jk_ok (kd := 8) pl0 (by decide) (by decide) rfl rfl) (fun v18 => ?_)
        refine g_pure (c' := (156, [(0, .ref l0), (1, .int l1), (2, .int l2), (3, .int l3), (4, .int l4)], [.int l4, .int (l1 &&& v18)], (jE0, M))) 2 rfl ?_
        refine g_cI rfl (jc_s rfl rfl) (c126 (l1 &&& v18) l4) (by decide) (fun v19 qv19 => ?_)
        refine g_if_eq (tgt := 186) rfl rfl (fun q20 => ?_) (fun q20 => ?_)
        · refine g_pure (c' := (187, [(0, .ref l0), (1, .int l1), (2, .int l2), (3, .int l3), (4, .int l4)], [.int (0 : Int32)], (jE0, M))) 1 rfl ?_
          exact (c191_187 h71 H71 (f191_129 h71 n) (c191_129 h71 H71 n) l0 l1 l2 l3 l4 (0 : Int32) M pl0)
        · refine g_pure (c' := (164, [(0, .ref l0), (1, .int l1), (2, .int l2), (3, .int l3), (4, .int l4)], [.ref l0, .int (1 : Int32)], (jE0, M))) 2 rfl ?_
          refine g_gp rfl rfl rfl pl0 (jp_ok (kd := 8) pl0 (by decide) (by decide) rfl rfl).1 ?_
          refine g_pure (c' := (181, [(0, .ref l0), (1, .int l1), (2, .int l2), (3, .int l3), (4, .int l4)], [.int ((l1 &&& (((1 : Int32) <<< (l2 &&& (31 : Int32))) ^^^ (-1 : Int32))) &&& (((1 : Int32) <<< (l4 &&& (31 : Int32))) ^^^ (-1 : Int32))), .ref (jpt l0 24), .int (1 : Int32)], (jE0, M))) 13 rfl ?_
          refine g_ia rfl (jk_ok (kd := 8) pl0 (by decide) (by decide) rfl rfl) (fun v22 => ?_)
          refine g_pure (c' := (187, [(0, .ref l0), (1, .int l1), (2, .int l2), (3, .int l3), (4, .int l4)], [.int ((1 : Int32) + v22)], (jE0, M))) 2 rfl ?_
          exact (c191_187 h71 H71 (f191_129 h71 n) (c191_129 h71 H71 n) l0 l1 l2 l3 l4 ((1 : Int32) + v22) M pl0)
      · refine g_weakk (lv := [(0, .ref l0), (1, .int l1), (3, .int l3)]) ⟨rfl, rfl, rfl, trivial⟩ [0, 1, 3] rfl (by decide) [0, 1, 2, 3, 4] rfl (by decide) ?_
        exact (c191_208 h71 H71 l0 l1 l3 M pl0)
    · refine g_weakk (lv := [(0, .ref l0), (1, .int l1), (3, .int l3)]) ⟨rfl, rfl, rfl, trivial⟩ [0, 1, 3] rfl (by decide) [0, 1, 2, 3, 4] rfl (by decide) ?_
      exact (c191_208 h71 H71 l0 l1 l3 M pl0)
def f191_125 (h71 : Nat → Int32 → JM → Option JM) (l0 : Nat) (l1 : Int32) (l2 : Int32) (s0 : Int32) (M : JM) : Option JM := (f191_129 h71 1000 l0 l1 l2 s0 (0 : Int32) M)
theorem c191_125 {xs : Option (List Int32)} (h71 : Nat → Int32 → JM → Option JM) (H71 : ∀ (l0 : Nat) (l1 : Int32) (M : JM) (pl0 : jok jE0 l0 7 = true), JG xs 8 191 (h71 l0 l1 M) (fun x r => r = (none, (jE0, x))) (71, [(0, .ref l0), (1, .int l1)], [], (jE0, M))) : ∀ (l0 : Nat) (l1 : Int32) (l2 : Int32) (s0 : Int32) (M : JM) (pl0 : jok jE0 l0 7 = true), JG xs 8 191 (f191_125 h71 l0 l1 l2 s0 M) (fun x r => r = (none, (jE0, x))) (125, [(0, .ref l0), (1, .int l1), (2, .int l2)], [.int s0], (jE0, M)) := by
    intro l0 l1 l2 s0 M pl0
    unfold f191_125
    refine g_pure (c' := (129, [(4, .int (0 : Int32)), (3, .int s0), (0, .ref l0), (1, .int l1), (2, .int l2)], [], (jE0, M))) 3 rfl ?_
    refine g_weakk (lv := [(0, .ref l0), (1, .int l1), (2, .int l2), (3, .int s0), (4, .int (0 : Int32))]) ⟨rfl, rfl, rfl, rfl, rfl, trivial⟩ [0, 1, 2, 3, 4] rfl (by decide) [4, 3, 0, 1, 2] rfl (by decide) ?_
    exact (c191_129 h71 H71 1000 l0 l1 l2 s0 (0 : Int32) M pl0)
def f191_105 (h71 : Nat → Int32 → JM → Option JM) (l0 : Nat) (l1 : Int32) (l2 : Int32) (M : JM) : Option JM := (if l1 = (0 : Int32) then (f191_125 h71 l0 l1 l2 (0 : Int32) M) else ((jla (jpt l0 24) (l1 &&& (((1 : Int32) <<< (l2 &&& (31 : Int32))) ^^^ (-1 : Int32))) M).bind fun v24 => (f191_125 h71 l0 l1 l2 v24 M)))
theorem c191_105 {xs : Option (List Int32)} (h71 : Nat → Int32 → JM → Option JM) (H71 : ∀ (l0 : Nat) (l1 : Int32) (M : JM) (pl0 : jok jE0 l0 7 = true), JG xs 8 191 (h71 l0 l1 M) (fun x r => r = (none, (jE0, x))) (71, [(0, .ref l0), (1, .int l1)], [], (jE0, M))) : ∀ (l0 : Nat) (l1 : Int32) (l2 : Int32) (M : JM) (pl0 : jok jE0 l0 7 = true), JG xs 8 191 (f191_105 h71 l0 l1 l2 M) (fun x r => r = (none, (jE0, x))) (105, [(0, .ref l0), (1, .int l1), (2, .int l2)], [], (jE0, M)) := by
    intro l0 l1 l2 M pl0
    unfold f191_105
    refine g_pure (c' := (106, [(0, .ref l0), (1, .int l1), (2, .int l2)], [.int l1], (jE0, M))) 1 rfl ?_
    refine g_if_ne (tgt := 113) rfl rfl (fun q15 => ?_) (fun q15 => ?_)
    · refine g_pure (c' := (125, [(0, .ref l0), (1, .int l1), (2, .int l2)], [.int (0 : Int32)], (jE0, M))) 2 rfl ?_
      exact (c191_125 h71 H71 l0 l1 l2 (0 : Int32) M pl0)
    · refine g_pure (c' := (114, [(0, .ref l0), (1, .int l1), (2, .int l2)], [.ref l0], (jE0, M))) 1 rfl ?_
      refine g_gp rfl rfl rfl pl0 (jp_ok (kd := 8) pl0 (by decide) (by decide) rfl rfl).1 ?_
      refine g_pure (c' := (124, [(0, .ref l0), (1, .int l1), (2, .int l2)], [.int (l1 &&& (((1 : Int32) <<< (l2 &&& (31 : Int32))) ^^^ (-1 : Int32))), .ref (jpt l0 24)], (jE0, M))) 7 rfl ?_
      refine g_ia rfl (jk_ok (kd := 8) pl0 (by decide) (by decide) rfl rfl) (fun v24 => ?_)
      exact (c191_125 h71 H71 l0 l1 l2 v24 M pl0)
def f191_83 (h71 : Nat → Int32 → JM → Option JM) : Nat → Nat → Int32 → Int32 → JM → Option JM
  | 0, _, _, _, _ => none
  | n + 1, l0, l1, l2, M => (if l2 < (M l0 7) then ((f126 l1 l2).bind fun v13 => (if v13 = (0 : Int32) then ((f191_83 h71 n) l0 l1 (l2 + (1 : Int32)) M) else (f191_105 h71 l0 l1 l2 M))) else (f191_105 h71 l0 l1 l2 M))
theorem c191_83 {xs : Option (List Int32)} (h71 : Nat → Int32 → JM → Option JM) (H71 : ∀ (l0 : Nat) (l1 : Int32) (M : JM) (pl0 : jok jE0 l0 7 = true), JG xs 8 191 (h71 l0 l1 M) (fun x r => r = (none, (jE0, x))) (71, [(0, .ref l0), (1, .int l1)], [], (jE0, M))) : ∀ (n : Nat) (l0 : Nat) (l1 : Int32) (l2 : Int32) (M : JM) (pl0 : jok jE0 l0 7 = true), JG xs 8 191 (f191_83 h71 n l0 l1 l2 M) (fun x r => r = (none, (jE0, x))) (83, [(0, .ref l0), (1, .int l1), (2, .int l2)], [], (jE0, M))
  | 0, _, _, _, _, _ => by rw [f191_83]; exact g_none
  | n + 1, l0, l1, l2, M, pl0 => by
    rw [f191_83]
    refine g_pure (c' := (85, [(0, .ref l0), (1, .int l1), (2, .int l2)], [.ref l0, .int l2], (jE0, M))) 2 rfl ?_
    refine g_gf (ci := 7) (k := 7) rfl rfl rfl pl0 ?_
    refine g_ic_ge (tgt := 105) rfl rfl (fun q12 => ?_) (fun q12 => ?_)
    · refine g_pure (c' := (93, [(0, .ref l0), (1, .int l1), (2, .int l2)], [.int l2, .int l1], (jE0, M))) 2 rfl ?_
      refine g_cI rfl (jc_s rfl rfl) (c126 l1 l2) (by decide) (fun v13 qv13 => ?_)
      refine g_if_ne (tgt := 105) rfl rfl (fun q14 => ?_) (fun q14 => ?_)
      · refine g_pure (c' := (83, [(2, .int (l2 + (1 : Int32))), (0, .ref l0), (1, .int l1)], [], (jE0, M))) 2 rfl ?_
        refine g_weakk (lv := [(0, .ref l0), (1, .int l1), (2, .int (l2 + (1 : Int32)))]) ⟨rfl, rfl, rfl, trivial⟩ [0, 1, 2] rfl (by decide) [2, 0, 1] rfl (by decide) ?_
        exact ((c191_83 h71 H71 n) l0 l1 (l2 + (1 : Int32)) M pl0)
      · exact (c191_105 h71 H71 l0 l1 l2 M pl0)
    · exact (c191_105 h71 H71 l0 l1 l2 M pl0)
def f191_71  : Nat → Nat → Int32 → JM → Option JM
  | 0, _, _, _ => none
  | n + 1, l0, l1, M => (if l1 < ((1 : Int32) <<< ((M l0 7) &&& (31 : Int32))) then (f191_83 (f191_71 n) 1000 l0 l1 (0 : Int32) M) else (some M))
theorem c191_71 {xs : Option (List Int32)} : ∀ (n : Nat) (l0 : Nat) (l1 : Int32) (M : JM) (pl0 : jok jE0 l0 7 = true), JG xs 8 191 (f191_71 n l0 l1 M) (fun x r => r = (none, (jE0, x))) (71, [(0, .ref l0), (1, .int l1)], [], (jE0, M))
  | 0, _, _, _, _ => by rw [f191_71]; exact g_none
  | n + 1, l0, l1, M, pl0 => by
    rw [f191_71]
    refine g_pure (c' := (74, [(0, .ref l0), (1, .int l1)], [.ref l0, .int (1 : Int32), .int l1], (jE0, M))) 3 rfl ?_
    refine g_gf (ci := 7) (k := 7) rfl rfl rfl pl0 ?_
    refine g_pure (c' := (78, [(0, .ref l0), (1, .int l1)], [.int ((1 : Int32) <<< ((M l0 7) &&& (31 : Int32))), .int l1], (jE0, M))) 1 rfl ?_
    refine g_ic_ge (tgt := 221) rfl rfl (fun q11 => ?_) (fun q11 => ?_)
    · refine g_pure (c' := (83, [(2, .int (0 : Int32)), (0, .ref l0), (1, .int l1)], [], (jE0, M))) 2 rfl ?_
      refine g_weakk (lv := [(0, .ref l0), (1, .int l1), (2, .int (0 : Int32))]) ⟨rfl, rfl, rfl, trivial⟩ [0, 1, 2] rfl (by decide) [2, 0, 1] rfl (by decide) ?_
      exact (c191_83 (f191_71 n) (c191_71 n) 1000 l0 l1 (0 : Int32) M pl0)
    · exact g_ret rfl rfl (fun _ h => h)
def f191_2  : Nat → Nat → Int32 → JM → Option JM
  | 0, _, _, _ => none
  | n + 1, l0, l1, M => (if l1 < (M l0 7) then ((jsa (jpt l0 25) l1 (0 : Int32) M).bind fun M2 => (f191_19 (f191_2 n) 1000 l0 l1 (0 : Int32) M2)) else (f191_71 1000 l0 (0 : Int32) M))
theorem c191_2 {xs : Option (List Int32)} : ∀ (n : Nat) (l0 : Nat) (l1 : Int32) (M : JM) (pl0 : jok jE0 l0 7 = true), JG xs 8 191 (f191_2 n l0 l1 M) (fun x r => r = (none, (jE0, x))) (2, [(0, .ref l0), (1, .int l1)], [], (jE0, M))
  | 0, _, _, _, _ => by rw [f191_2]; exact g_none
  | n + 1, l0, l1, M, pl0 => by
    rw [f191_2]
    refine g_pure (c' := (4, [(0, .ref l0), (1, .int l1)], [.ref l0, .int l1], (jE0, M))) 2 rfl ?_
    refine g_gf (ci := 7) (k := 7) rfl rfl rfl pl0 ?_
    refine g_ic_ge (tgt := 69) rfl rfl (fun q1 => ?_) (fun q1 => ?_)
    · refine g_pure (c' := (11, [(0, .ref l0), (1, .int l1)], [.ref l0], (jE0, M))) 1 rfl ?_
      refine g_gp rfl rfl rfl pl0 (jp_ok (kd := 8) pl0 (by decide) (by decide) rfl rfl).1 ?_
      refine g_pure (c' := (16, [(0, .ref l0), (1, .int l1)], [.int (0 : Int32), .int l1, .ref (jpt l0 25)], (jE0, M))) 2 rfl ?_
      refine g_is rfl (jk_ok (kd := 8) pl0 (by decide) (by decide) rfl rfl) (fun M2 => ?_)
      refine g_pure (c' := (19, [(2, .int (0 : Int32)), (0, .ref l0), (1, .int l1)], [], (jE0, M2))) 2 rfl ?_
      refine g_weakk (lv := [(0, .ref l0), (1, .int l1), (2, .int (0 : Int32))]) ⟨rfl, rfl, rfl, trivial⟩ [0, 1, 2] rfl (by decide) [2, 0, 1] rfl (by decide) ?_
      exact (c191_19 (f191_2 n) (c191_2 n) 1000 l0 l1 (0 : Int32) M2 pl0)
    · refine g_pure (c' := (71, [(1, .int (0 : Int32)), (0, .ref l0)], [], (jE0, M))) 2 rfl ?_
      refine g_weakk (lv := [(0, .ref l0), (1, .int (0 : Int32))]) ⟨rfl, rfl, trivial⟩ [0, 1] rfl (by decide) [1, 0] rfl (by decide) ?_
      exact (c191_71 1000 l0 (0 : Int32) M pl0)
/-- CometKinModel.layMosts -/
def f191  (l0 : Nat) (M : JM) : Option JM := (f191_2 1000 l0 (0 : Int32) M)
theorem c191 {xs : Option (List Int32)} (l0 : Nat) (M : JM) (pl0 : jok jE0 l0 7 = true) : JG xs 8 191 (f191 l0 M) (fun x r => r = (none, (jE0, x))) (0, [(0, .ref l0)], [], (jE0, M)) := by
    unfold f191
    refine g_pure (c' := (2, [(1, .int (0 : Int32)), (0, .ref l0)], [], (jE0, M))) 2 rfl ?_
    refine g_weakk (lv := [(0, .ref l0), (1, .int (0 : Int32))]) ⟨rfl, rfl, trivial⟩ [0, 1] rfl (by decide) [1, 0] rfl (by decide) ?_
    exact (c191_2 1000 l0 (0 : Int32) M pl0)
def f192_43  (l1 : Int32) (l3 : Int32) (M : JM) : Option (Int32 × JM) := (if l1 = (0 : Int32) then (some (l3, M)) else (some ((-1 : Int32), M)))
theorem c192_43 {xs : Option (List Int32)} : ∀ (l1 : Int32) (l3 : Int32) (M : JM), JG xs 9 192 (f192_43 l1 l3 M) (fun x r => r = (some (.int x.1), (jE0, x.2))) (43, [(1, .int l1), (3, .int l3)], [], (jE0, M)) := by
    intro l1 l3 M
    unfold f192_43
    refine g_pure (c' := (44, [(1, .int l1), (3, .int l3)], [.int l1], (jE0, M))) 1 rfl ?_
    refine g_if_ne (tgt := 51) rfl rfl (fun q6 => ?_) (fun q6 => ?_)
    · refine g_pure (c' := (52, [(1, .int l1), (3, .int l3)], [.int l3], (jE0, M))) 2 rfl ?_
      exact g_ret rfl rfl (fun _ h => h)
    · refine g_pure (c' := (52, [(1, .int l1), (3, .int l3)], [.int (-1 : Int32)], (jE0, M))) 1 rfl ?_
      exact g_ret rfl rfl (fun _ h => h)
def f192_142 (h59 : Nat → Int32 → Int32 → Int32 → Int32 → JM → Option (Int32 × JM)) (h85 : Nat → Int32 → Int32 → Int32 → Int32 → Int32 → JM → Option (Int32 × JM)) (l0 : Nat) (l1 : Int32) (l3 : Int32) (l4 : Int32) (l5 : Int32) (l6 : Int32) (M : JM) : Option (Int32 × JM) := (h85 l0 l1 l3 l4 l5 (l6 + (1 : Int32)) M)
theorem c192_142 {xs : Option (List Int32)} (h59 : Nat → Int32 → Int32 → Int32 → Int32 → JM → Option (Int32 × JM)) (H59 : ∀ (l0 : Nat) (l1 : Int32) (l3 : Int32) (l4 : Int32) (l5 : Int32) (M : JM) (pl0 : jok jE0 l0 7 = true), JG xs 9 192 (h59 l0 l1 l3 l4 l5 M) (fun x r => r = (some (.int x.1), (jE0, x.2))) (59, [(0, .ref l0), (1, .int l1), (3, .int l3), (4, .int l4), (5, .int l5)], [], (jE0, M))) (h85 : Nat → Int32 → Int32 → Int32 → Int32 → Int32 → JM → Option (Int32 × JM)) (H85 : ∀ (l0 : Nat) (l1 : Int32) (l3 : Int32) (l4 : Int32) (l5 : Int32) (l6 : Int32) (M : JM) (pl0 : jok jE0 l0 7 = true), JG xs 9 192 (h85 l0 l1 l3 l4 l5 l6 M) (fun x r => r = (some (.int x.1), (jE0, x.2))) (85, [(0, .ref l0), (1, .int l1), (3, .int l3), (4, .int l4), (5, .int l5), (6, .int l6)], [], (jE0, M))) : ∀ (l0 : Nat) (l1 : Int32) (l3 : Int32) (l4 : Int32) (l5 : Int32) (l6 : Int32) (M : JM) (pl0 : jok jE0 l0 7 = true), JG xs 9 192 (f192_142 h59 h85 l0 l1 l3 l4 l5 l6 M) (fun x r => r = (some (.int x.1), (jE0, x.2))) (142, [(0, .ref l0), (1, .int l1), (3, .int l3), (4, .int l4), (5, .int l5), (6, .int l6)], [], (jE0, M)) := by
    intro l0 l1 l3 l4 l5 l6 M pl0
    unfold f192_142
    refine g_pure (c' := (85, [(6, .int (l6 + (1 : Int32))), (0, .ref l0), (1, .int l1), (3, .int l3), (4, .int l4), (5, .int l5)], [], (jE0, M))) 2 rfl ?_
    refine g_weakk (lv := [(0, .ref l0), (1, .int l1), (3, .int l3), (4, .int l4), (5, .int l5), (6, .int (l6 + (1 : Int32)))]) ⟨rfl, rfl, rfl, rfl, rfl, rfl, trivial⟩ [0, 1, 3, 4, 5, 6] rfl (by decide) [6, 0, 1, 3, 4, 5] rfl (by decide) ?_
    exact (H85 l0 l1 l3 l4 l5 (l6 + (1 : Int32)) M pl0)
def f192_85 (h59 : Nat → Int32 → Int32 → Int32 → Int32 → JM → Option (Int32 × JM)) : Nat → Nat → Int32 → Int32 → Int32 → Int32 → Int32 → JM → Option (Int32 × JM)
  | 0, _, _, _, _, _, _, _ => none
  | n + 1, l0, l1, l3, l4, l5, l6, M => (if l6 < (M l0 7) then ((jla (jpt l0 25) l5 M).bind fun v10 => ((f126 v10 l6).bind fun v11 => (if v11 = (0 : Int32) then (f192_142 h59 (f192_85 h59 n) l0 l1 l3 l4 l5 l6 M) else ((jla (jpt l0 24) (l4 &&& (((1 : Int32) <<< (l6 &&& (31 : Int32))) ^^^ (-1 : Int32))) M).bind fun v13 => (if ((1 : Int32) + v13) = l3 then (if l1 = (1 : Int32) then (some (l5, M)) else (some (l6, M))) else (f192_142 h59 (f192_85 h59 n) l0 l1 l3 l4 l5 l6 M)))))) else (h59 l0 l1 l3 l4 (l5 + (1 : Int32)) M))
theorem c192_85 {xs : Option (List Int32)} (h59 : Nat → Int32 → Int32 → Int32 → Int32 → JM → Option (Int32 × JM)) (H59 : ∀ (l0 : Nat) (l1 : Int32) (l3 : Int32) (l4 : Int32) (l5 : Int32) (M : JM) (pl0 : jok jE0 l0 7 = true), JG xs 9 192 (h59 l0 l1 l3 l4 l5 M) (fun x r => r = (some (.int x.1), (jE0, x.2))) (59, [(0, .ref l0), (1, .int l1), (3, .int l3), (4, .int l4), (5, .int l5)], [], (jE0, M))) : ∀ (n : Nat) (l0 : Nat) (l1 : Int32) (l3 : Int32) (l4 : Int32) (l5 : Int32) (l6 : Int32) (M : JM) (pl0 : jok jE0 l0 7 = true), JG xs 9 192 (f192_85 h59 n l0 l1 l3 l4 l5 l6 M) (fun x r => r = (some (.int x.1), (jE0, x.2))) (85, [(0, .ref l0), (1, .int l1), (3, .int l3), (4, .int l4), (5, .int l5), (6, .int l6)], [], (jE0, M))
  | 0, _, _, _, _, _, _, _, _ => by rw [f192_85]; exact g_none
  | n + 1, l0, l1, l3, l4, l5, l6, M, pl0 => by
    rw [f192_85]
    refine g_pure (c' := (88, [(0, .ref l0), (1, .int l1), (3, .int l3), (4, .int l4), (5, .int l5), (6, .int l6)], [.ref l0, .int l6], (jE0, M))) 2 rfl ?_
    refine g_gf (ci := 7) (k := 7) rfl rfl rfl pl0 ?_
    refine g_ic_ge (tgt := 148) rfl rfl (fun q9 => ?_) (fun q9 => ?_)
    · refine g_pure (c' := (95, [(0, .ref l0), (1, .int l1), (3, .int l3), (4, .int l4), (5, .int l5), (6, .int l6)], [.ref l0], (jE0, M))) 1 rfl ?_
      refine g_gp rfl rfl rfl pl0 (jp_ok (kd := 8) pl0 (by decide) (by decide) rfl rfl).1 ?_
      refine g_pure (c' := (100, [(0, .ref l0), (1, .int l1), (3, .int l3), (4, .int l4), (5, .int l5), (6, .int l6)], [.int l5, .ref (jpt l0 25)], (jE0, M))) 1 rfl ?_
      refine g_ia rfl (jk_ok (kd := 8) pl0 (by decide) (by decide) rfl rfl) (fun v10 => ?_)
      refine g_pure (c' := (103, [(0, .ref l0), (1, .int l1), (3, .int l3), (4, .int l4), (5, .int l5), (6, .int l6)], [.int l6, .int v10], (jE0, M))) 1 rfl ?_
      refine g_cI rfl (jc_s rfl rfl) (c126 v10 l6) (by decide) (fun v11 qv11 => ?_)
      refine g_if_eq (tgt := 142) rfl rfl (fun q12 => ?_) (fun q12 => ?_)
      · exact (c192_142 h59 H59 (f192_85 h59 n) (c192_85 h59 H59 n) l0 l1 l3 l4 l5 l6 M pl0)
      · refine g_pure (c' := (111, [(0, .ref l0), (1, .int l1), (3, .int l3), (4, .int l4), (5, .int l5), (6, .int l6)], [.ref l0, .int (1 : Int32)], (jE0, M))) 2 rfl ?_
        refine g_gp rfl rfl rfl pl0 (jp_ok (kd := 8) pl0 (by decide) (by decide) rfl rfl).1 ?_
        refine g_pure (c' := (123, [(0, .ref l0), (1, .int l1), (3, .int l3), (4, .int l4), (5, .int l5), (6, .int l6)], [.int (l4 &&& (((1 : Int32) <<< (l6 &&& (31 : Int32))) ^^^ (-1 : Int32))), .ref (jpt l0 24), .int (1 : Int32)], (jE0, M))) 7 rfl ?_
        refine g_ia rfl (jk_ok (kd := 8) pl0 (by decide) (by decide) rfl rfl) (fun v13 => ?_)
        refine g_pure (c' := (126, [(0, .ref l0), (1, .int l1), (3, .int l3), (4, .int l4), (5, .int l5), (6, .int l6)], [.int l3, .int ((1 : Int32) + v13)], (jE0, M))) 2 rfl ?_
        refine g_ic_ne (tgt := 142) rfl rfl (fun q14 => ?_) (fun q14 => ?_)
        · refine g_pure (c' := (131, [(0, .ref l0), (1, .int l1), (3, .int l3), (4, .int l4), (5, .int l5), (6, .int l6)], [.int (1 : Int32), .int l1], (jE0, M))) 2 rfl ?_
          refine g_ic_ne (tgt := 139) rfl rfl (fun q15 => ?_) (fun q15 => ?_)
          · refine g_pure (c' := (141, [(0, .ref l0), (1, .int l1), (3, .int l3), (4, .int l4), (5, .int l5), (6, .int l6)], [.int l5], (jE0, M))) 2 rfl ?_
            exact g_ret rfl rfl (fun _ h => h)
          · refine g_pure (c' := (141, [(0, .ref l0), (1, .int l1), (3, .int l3), (4, .int l4), (5, .int l5), (6, .int l6)], [.int l6], (jE0, M))) 1 rfl ?_
            exact g_ret rfl rfl (fun _ h => h)
        · exact (c192_142 h59 H59 (f192_85 h59 n) (c192_85 h59 H59 n) l0 l1 l3 l4 l5 l6 M pl0)
    · refine g_pure (c' := (59, [(5, .int (l5 + (1 : Int32))), (0, .ref l0), (1, .int l1), (3, .int l3), (4, .int l4), (6, .int l6)], [], (jE0, M))) 2 rfl ?_
      refine g_weakk (lv := [(0, .ref l0), (1, .int l1), (3, .int l3), (4, .int l4), (5, .int (l5 + (1 : Int32)))]) ⟨rfl, rfl, rfl, rfl, rfl, trivial⟩ [0, 1, 3, 4, 5] rfl (by decide) [5, 0, 1, 3, 4, 6] rfl (by decide) ?_
      exact (H59 l0 l1 l3 l4 (l5 + (1 : Int32)) M pl0)
def f192_59  : Nat → Nat → Int32 → Int32 → Int32 → Int32 → JM → Option (Int32 × JM)
  | 0, _, _, _, _, _, _ => none
  | n + 1, l0, l1, l3, l4, l5, M => (if l5 < (M l0 7) then (f192_85 (f192_59 n) 1000 l0 l1 l3 (l4 &&& (((1 : Int32) <<< (l5 &&& (31 : Int32))) ^^^ (-1 : Int32))) l5 (l5 + (1 : Int32)) M) else (some ((-1 : Int32), M)))
theorem c192_59 {xs : Option (List Int32)} : ∀ (n : Nat) (l0 : Nat) (l1 : Int32) (l3 : Int32) (l4 : Int32) (l5 : Int32) (M : JM) (pl0 : jok jE0 l0 7 = true), JG xs 9 192 (f192_59 n l0 l1 l3 l4 l5 M) (fun x r => r = (some (.int x.1), (jE0, x.2))) (59, [(0, .ref l0), (1, .int l1), (3, .int l3), (4, .int l4), (5, .int l5)], [], (jE0, M))
  | 0, _, _, _, _, _, _, _ => by rw [f192_59]; exact g_none
  | n + 1, l0, l1, l3, l4, l5, M, pl0 => by
    rw [f192_59]
    refine g_pure (c' := (62, [(0, .ref l0), (1, .int l1), (3, .int l3), (4, .int l4), (5, .int l5)], [.ref l0, .int l5], (jE0, M))) 2 rfl ?_
    refine g_gf (ci := 7) (k := 7) rfl rfl rfl pl0 ?_
    refine g_ic_ge (tgt := 154) rfl rfl (fun q8 => ?_) (fun q8 => ?_)
    · refine g_pure (c' := (85, [(6, .int (l5 + (1 : Int32))), (4, .int (l4 &&& (((1 : Int32) <<< (l5 &&& (31 : Int32))) ^^^ (-1 : Int32)))), (0, .ref l0), (1, .int l1), (3, .int l3), (5, .int l5)], [], (jE0, M))) 12 rfl ?_
      refine g_weakk (lv := [(0, .ref l0), (1, .int l1), (3, .int l3), (4, .int (l4 &&& (((1 : Int32) <<< (l5 &&& (31 : Int32))) ^^^ (-1 : Int32)))), (5, .int l5), (6, .int (l5 + (1 : Int32)))]) ⟨rfl, rfl, rfl, rfl, rfl, rfl, trivial⟩ [0, 1, 3, 4, 5, 6] rfl (by decide) [6, 4, 0, 1, 3, 5] rfl (by decide) ?_
      exact (c192_85 (f192_59 n) (c192_59 n) 1000 l0 l1 l3 (l4 &&& (((1 : Int32) <<< (l5 &&& (31 : Int32))) ^^^ (-1 : Int32))) l5 (l5 + (1 : Int32)) M pl0)
    · refine g_pure (c' := (155, [(0, .ref l0), (1, .int l1), (3, .int l3), (4, .int l4), (5, .int l5)], [.int (-1 : Int32)], (jE0, M))) 1 rfl ?_
      exact g_ret rfl rfl (fun _ h => h)
/-- CometKinModel.weddings -/
def f192  (l0 : Nat) (l1 : Int32) (M : JM) : Option (Int32 × JM) := ((f125 ((l1).toInt64) (0 : Int64) (2 : Int64)).bind fun v1 => (if v1 = (0 : Int32) then (some ((-3 : Int32), M)) else ((f191 l0 M).bind fun M3 => ((jla (jpt l0 24) (((1 : Int32) <<< ((M3 l0 7) &&& (31 : Int32))) - (1 : Int32)) M3).bind fun v4 => (if l1 = (0 : Int32) then (f192_43 l1 v4 M3) else (if v4 = (0 : Int32) then (f192_43 l1 v4 M3) else (f192_59 1000 l0 l1 v4 (((1 : Int32) <<< ((M3 l0 7) &&& (31 : Int32))) - (1 : Int32)) (0 : Int32) M3)))))))
theorem c192 {xs : Option (List Int32)} (l0 : Nat) (l1 : Int32) (M : JM) (pl0 : jok jE0 l0 7 = true) : JG xs 9 192 (f192 l0 l1 M) (fun x r => r = (some (.int x.1), (jE0, x.2))) (0, [(0, .ref l0), (1, .int l1)], [], (jE0, M)) := by
    unfold f192
    refine g_pure (c' := (6, [(0, .ref l0), (1, .int l1)], [.long (2 : Int64), .long (0 : Int64), .long ((l1).toInt64)], (jE0, M))) 4 rfl ?_
    refine g_cI rfl (jc_s rfl rfl) (c125 ((l1).toInt64) (0 : Int64) (2 : Int64)) (by decide) (fun v1 qv1 => ?_)
    refine g_if_ne (tgt := 15) rfl rfl (fun q2 => ?_) (fun q2 => ?_)
    · refine g_pure (c' := (14, [(0, .ref l0), (1, .int l1)], [.int (-3 : Int32)], (jE0, M))) 1 rfl ?_
      exact g_ret rfl rfl (fun _ h => h)
    · refine g_pure (c' := (16, [(0, .ref l0), (1, .int l1)], [.ref l0], (jE0, M))) 1 rfl ?_
      refine g_wV rfl (jc_v rfl rfl (jv_o pl0 rfl) rfl) (c191 l0 M pl0) (by decide) (fun M3 => ?_)
      refine g_pure (c' := (21, [(0, .ref l0), (1, .int l1)], [.ref l0, .int (1 : Int32)], (jE0, M3))) 2 rfl ?_
      refine g_gf (ci := 7) (k := 7) rfl rfl rfl pl0 ?_
      refine g_pure (c' := (29, [(2, .int (((1 : Int32) <<< ((M3 l0 7) &&& (31 : Int32))) - (1 : Int32))), (0, .ref l0), (1, .int l1)], [.ref l0], (jE0, M3))) 5 rfl ?_
      refine g_gp rfl rfl rfl pl0 (jp_ok (kd := 8) pl0 (by decide) (by decide) rfl rfl).1 ?_
      refine g_pure (c' := (33, [(2, .int (((1 : Int32) <<< ((M3 l0 7) &&& (31 : Int32))) - (1 : Int32))), (0, .ref l0), (1, .int l1)], [.int (((1 : Int32) <<< ((M3 l0 7) &&& (31 : Int32))) - (1 : Int32)), .ref (jpt l0 24)], (jE0, M3))) 1 rfl ?_
      refine g_ia rfl (jk_ok (kd := 8) pl0 (by decide) (by decide) rfl rfl) (fun v4 => ?_)
      refine g_pure (c' := (36, [(3, .int v4), (2, .int (((1 : Int32) <<< ((M3 l0 7) &&& (31 : Int32))) - (1 : Int32))), (0, .ref l0), (1, .int l1)], [.int l1], (jE0, M3))) 2 rfl ?_
      refine g_if_eq (tgt := 43) rfl rfl (fun q5 => ?_) (fun q5 => ?_)
      · refine g_weakk (lv := [(1, .int l1), (3, .int v4)]) ⟨rfl, rfl, trivial⟩ [1, 3] rfl (by decide) [3, 2, 0, 1] rfl (by decide) ?_
        exact (c192_43 l1 v4 M3)
      · refine g_pure (c' := (40, [(3, .int v4), (2, .int (((1 : Int32) <<< ((M3 l0 7) &&& (31 : Int32))) - (1 : Int32))), (0, .ref l0), (1, .int l1)], [.int v4], (jE0, M3))) 1 rfl ?_
        refine g_if_ne (tgt := 53) rfl rfl (fun q7 => ?_) (fun q7 => ?_)
        · refine g_weakk (lv := [(1, .int l1), (3, .int v4)]) ⟨rfl, rfl, trivial⟩ [1, 3] rfl (by decide) [3, 2, 0, 1] rfl (by decide) ?_
          exact (c192_43 l1 v4 M3)
        · refine g_pure (c' := (59, [(5, .int (0 : Int32)), (4, .int (((1 : Int32) <<< ((M3 l0 7) &&& (31 : Int32))) - (1 : Int32))), (3, .int v4), (2, .int (((1 : Int32) <<< ((M3 l0 7) &&& (31 : Int32))) - (1 : Int32))), (0, .ref l0), (1, .int l1)], [], (jE0, M3))) 4 rfl ?_
          refine g_weakk (lv := [(0, .ref l0), (1, .int l1), (3, .int v4), (4, .int (((1 : Int32) <<< ((M3 l0 7) &&& (31 : Int32))) - (1 : Int32))), (5, .int (0 : Int32))]) ⟨rfl, rfl, rfl, rfl, rfl, trivial⟩ [0, 1, 3, 4, 5] rfl (by decide) [5, 4, 3, 2, 0, 1] rfl (by decide) ?_
          exact (c192_59 1000 l0 l1 v4 (((1 : Int32) <<< ((M3 l0 7) &&& (31 : Int32))) - (1 : Int32)) (0 : Int32) M3 pl0)
def f22_4 (M : JM) : Nat → Nat → Int32 → Int32 → Int32 → Option Int32
  | 0, _, _, _, _ => none
  | n + 1, l0, l1, l2, l3 => (if l3 < (M l0 0) then ((f21 M l0 l3 l1).bind fun v2 => ((f207 v2).bind fun v3 => ((f22_4 M n) l0 l1 (l2 + v3) (l3 + (1 : Int32))))) else ((jdv l2 (2 : Int32)).bind fun v4 => (some v4)))
theorem c22_4 {xs : Option (List Int32)} {M : JM} : ∀ (n : Nat) (l0 : Nat) (l1 : Int32) (l2 : Int32) (l3 : Int32) (pl0 : jok jE0 l0 0 = true), JG xs 4 22 (f22_4 M n l0 l1 l2 l3) (fun x r => r = (some (.int x), (jE0, M))) (4, [(0, .ref l0), (1, .int l1), (2, .int l2), (3, .int l3)], [], (jE0, M))
  | 0, _, _, _, _, _ => by rw [f22_4]; exact g_none
  | n + 1, l0, l1, l2, l3, pl0 => by
    rw [f22_4]
    refine g_pure (c' := (6, [(0, .ref l0), (1, .int l1), (2, .int l2), (3, .int l3)], [.ref l0, .int l3], (jE0, M))) 2 rfl ?_
    refine g_gf (ci := 0) (k := 0) rfl rfl rfl pl0 ?_
    refine g_ic_ge (tgt := 30) rfl rfl (fun q1 => ?_) (fun q1 => ?_)
    · refine g_pure (c' := (16, [(0, .ref l0), (1, .int l1), (2, .int l2), (3, .int l3)], [.int l1, .int l3, .ref l0, .int l2], (jE0, M))) 4 rfl ?_
      refine g_cI rfl (jc_v rfl rfl (jv_o pl0 rfl) rfl) (c21 l0 l3 l1 pl0) (by decide) (fun v2 qv2 => ?_)
      refine g_cI rfl (jc_s rfl rfl) (c207 v2) (by decide) (fun v3 qv3 => ?_)
      refine g_pure (c' := (4, [(3, .int (l3 + (1 : Int32))), (2, .int (l2 + v3)), (0, .ref l0), (1, .int l1)], [], (jE0, M))) 4 rfl ?_
      refine g_weakk (lv := [(0, .ref l0), (1, .int l1), (2, .int (l2 + v3)), (3, .int (l3 + (1 : Int32)))]) ⟨rfl, rfl, rfl, rfl, trivial⟩ [0, 1, 2, 3] rfl (by decide) [3, 2, 0, 1] rfl (by decide) ?_
      exact ((c22_4 n) l0 l1 (l2 + v3) (l3 + (1 : Int32)) pl0)
    · refine g_pure (c' := (32, [(0, .ref l0), (1, .int l1), (2, .int l2), (3, .int l3)], [.int (2 : Int32), .int l2], (jE0, M))) 2 rfl ?_
      refine g_d1 rfl (fun v4 => ?_)
      exact g_ret rfl rfl (fun _ h => h)
/-- CometKin$Country.pairsOfKin -/
def f22 (M : JM) (l0 : Nat) (l1 : Int32) : Option Int32 := (f22_4 M 1000 l0 l1 (0 : Int32) (0 : Int32))
theorem c22 {xs : Option (List Int32)} {M : JM} (l0 : Nat) (l1 : Int32) (pl0 : jok jE0 l0 0 = true) : JG xs 4 22 (f22 M l0 l1) (fun x r => r = (some (.int x), (jE0, M))) (0, [(0, .ref l0), (1, .int l1)], [], (jE0, M)) := by
    unfold f22
    refine g_pure (c' := (4, [(3, .int (0 : Int32)), (2, .int (0 : Int32)), (0, .ref l0), (1, .int l1)], [], (jE0, M))) 4 rfl ?_
    refine g_weakk (lv := [(0, .ref l0), (1, .int l1), (2, .int (0 : Int32)), (3, .int (0 : Int32))]) ⟨rfl, rfl, rfl, rfl, trivial⟩ [0, 1, 2, 3] rfl (by decide) [3, 2, 0, 1] rfl (by decide) ?_
    exact (c22_4 1000 l0 l1 (0 : Int32) (0 : Int32) pl0)
def f9_2  : Nat → Nat → Int32 → JM → Option JM
  | 0, _, _, _ => none
  | n + 1, l0, l2, M => (if l2 < (M l0 1) then ((f42 M (jpt l0 8) (l2 + (1 : Int32))).bind fun v2 => ((f43 (jpt l0 8) l2 v2 M).bind fun M3 => ((f42 M3 (jpt l0 9) (l2 + (1 : Int32))).bind fun v4 => ((f43 (jpt l0 9) l2 v4 M3).bind fun M5 => ((f9_2 n) l0 (l2 + (1 : Int32)) M5))))) else ((some (jup M l0 1 ((M l0 1) - (1 : Int32)))).bind fun M6 => ((f10 l0 M6).bind fun M7 => ((f13 l0 M7).bind fun M8 => (some M8)))))
theorem c9_2 {xs : Option (List Int32)} : ∀ (n : Nat) (l0 : Nat) (l2 : Int32) (M : JM) (pl0 : jok jE0 l0 0 = true), JG xs 4 9 (f9_2 n l0 l2 M) (fun x r => r = (none, (jE0, x))) (2, [(0, .ref l0), (2, .int l2)], [], (jE0, M))
  | 0, _, _, _, _ => by rw [f9_2]; exact g_none
  | n + 1, l0, l2, M, pl0 => by
    rw [f9_2]
    refine g_pure (c' := (4, [(0, .ref l0), (2, .int l2)], [.ref l0, .int l2], (jE0, M))) 2 rfl ?_
    refine g_gf (ci := 0) (k := 1) rfl rfl rfl pl0 ?_
    refine g_ic_ge (tgt := 52) rfl rfl (fun q1 => ?_) (fun q1 => ?_)
    · refine g_pure (c' := (11, [(0, .ref l0), (2, .int l2)], [.ref l0], (jE0, M))) 1 rfl ?_
      refine g_gp rfl rfl rfl pl0 (jp_ok (kd := 3) pl0 (by decide) (by decide) rfl rfl).1 ?_
      refine g_pure (c' := (16, [(0, .ref l0), (2, .int l2)], [.ref l0, .int l2, .ref (jpt l0 8)], (jE0, M))) 2 rfl ?_
      refine g_gp rfl rfl rfl pl0 (jp_ok (kd := 3) pl0 (by decide) (by decide) rfl rfl).1 ?_
      refine g_pure (c' := (22, [(0, .ref l0), (2, .int l2)], [.int (l2 + (1 : Int32)), .ref (jpt l0 8), .int l2, .ref (jpt l0 8)], (jE0, M))) 3 rfl ?_
      refine g_cI rfl (jc_v rfl rfl (jv_o (jk_ok (kd := 3) pl0 (by decide) (by decide) rfl rfl) rfl) rfl) (c42 (jpt l0 8) (l2 + (1 : Int32)) (jk_ok (kd := 3) pl0 (by decide) (by decide) rfl rfl)) (by decide) (fun v2 qv2 => ?_)
      refine g_wV rfl (jc_v rfl rfl (jv_o (jk_ok (kd := 3) pl0 (by decide) (by decide) rfl rfl) rfl) rfl) (c43 (jpt l0 8) l2 v2 M (jk_ok (kd := 3) pl0 (by decide) (by decide) rfl rfl)) (by decide) (fun M3 => ?_)
      refine g_pure (c' := (29, [(0, .ref l0), (2, .int l2)], [.ref l0], (jE0, M3))) 1 rfl ?_
      refine g_gp rfl rfl rfl pl0 (jp_ok (kd := 3) pl0 (by decide) (by decide) rfl rfl).1 ?_
      refine g_pure (c' := (34, [(0, .ref l0), (2, .int l2)], [.ref l0, .int l2, .ref (jpt l0 9)], (jE0, M3))) 2 rfl ?_
      refine g_gp rfl rfl rfl pl0 (jp_ok (kd := 3) pl0 (by decide) (by decide) rfl rfl).1 ?_
      refine g_pure (c' := (40, [(0, .ref l0), (2, .int l2)], [.int (l2 + (1 : Int32)), .ref (jpt l0 9), .int l2, .ref (jpt l0 9)], (jE0, M3))) 3 rfl ?_
      refine g_cI rfl (jc_v rfl rfl (jv_o (jk_ok (kd := 3) pl0 (by decide) (by decide) rfl rfl) rfl) rfl) (c42 (jpt l0 9) (l2 + (1 : Int32)) (jk_ok (kd := 3) pl0 (by decide) (by decide) rfl rfl)) (by decide) (fun v4 qv4 => ?_)
      refine g_wV rfl (jc_v rfl rfl (jv_o (jk_ok (kd := 3) pl0 (by decide) (by decide) rfl rfl) rfl) rfl) (c43 (jpt l0 9) l2 v4 M3 (jk_ok (kd := 3) pl0 (by decide) (by decide) rfl rfl)) (by decide) (fun M5 => ?_)
      refine g_pure (c' := (2, [(2, .int (l2 + (1 : Int32))), (0, .ref l0)], [], (jE0, M5))) 2 rfl ?_
      refine g_weakk (lv := [(0, .ref l0), (2, .int (l2 + (1 : Int32)))]) ⟨rfl, rfl, trivial⟩ [0, 2] rfl (by decide) [2, 0] rfl (by decide) ?_
      exact ((c9_2 n) l0 (l2 + (1 : Int32)) M5 pl0)
    · refine g_pure (c' := (54, [(0, .ref l0), (2, .int l2)], [.ref l0, .ref l0], (jE0, M))) 2 rfl ?_
      refine g_gf (ci := 0) (k := 1) rfl rfl rfl pl0 ?_
      refine g_pure (c' := (59, [(0, .ref l0), (2, .int l2)], [.int ((M l0 1) - (1 : Int32)), .ref l0], (jE0, M))) 2 rfl ?_
      refine g_pf (ci := 0) (k := 1) rfl rfl rfl rfl pl0 (fun M6 => ?_)
      refine g_pure (c' := (63, [(0, .ref l0), (2, .int l2)], [.ref l0], (jE0, M6))) 1 rfl ?_
      refine g_wV rfl (jc_v rfl rfl (jv_o pl0 rfl) rfl) (c10 l0 M6 pl0) (by decide) (fun M7 => ?_)
      refine g_pure (c' := (67, [(0, .ref l0), (2, .int l2)], [.ref l0], (jE0, M7))) 1 rfl ?_
      refine g_wV rfl (jc_v rfl rfl (jv_o pl0 rfl) rfl) (c13 l0 M7 pl0) (by decide) (fun M8 => ?_)
      exact g_ret rfl rfl (fun _ h => h)
/-- CometKin$Country.dropComet -/
def f9  (l0 : Nat) (l1 : Int32) (M : JM) : Option JM := (f9_2 1000 l0 l1 M)
theorem c9 {xs : Option (List Int32)} (l0 : Nat) (l1 : Int32) (M : JM) (pl0 : jok jE0 l0 0 = true) : JG xs 4 9 (f9 l0 l1 M) (fun x r => r = (none, (jE0, x))) (0, [(0, .ref l0), (1, .int l1)], [], (jE0, M)) := by
    unfold f9
    refine g_pure (c' := (2, [(2, .int l1), (0, .ref l0), (1, .int l1)], [], (jE0, M))) 2 rfl ?_
    refine g_weakk (lv := [(0, .ref l0), (2, .int l1)]) ⟨rfl, rfl, trivial⟩ [0, 2] rfl (by decide) [2, 0, 1] rfl (by decide) ?_
    exact (c9_2 1000 l0 l1 M pl0)
def f92_103 (h35 : Nat → Int32 → Int32 → Int32 → Int32 → Int32 → JM → Option (Int32 × JM)) (l0 : Nat) (l1 : Int32) (l2 : Int32) (l3 : Int32) (l4 : Int32) (l5 : Int32) (M : JM) : Option (Int32 × JM) := (h35 l0 l1 l2 l3 l4 (l5 + (1 : Int32)) M)
theorem c92_103 {xs : Option (List Int32)} (h35 : Nat → Int32 → Int32 → Int32 → Int32 → Int32 → JM → Option (Int32 × JM)) (H35 : ∀ (l0 : Nat) (l1 : Int32) (l2 : Int32) (l3 : Int32) (l4 : Int32) (l5 : Int32) (M : JM) (pl0 : jok jE0 l0 6 = true), JG xs 5 92 (h35 l0 l1 l2 l3 l4 l5 M) (fun x r => r = (some (.int x.1), (jE0, x.2))) (35, [(0, .ref l0), (1, .int l1), (2, .int l2), (3, .int l3), (4, .int l4), (5, .int l5)], [], (jE0, M))) : ∀ (l0 : Nat) (l1 : Int32) (l2 : Int32) (l3 : Int32) (l4 : Int32) (l5 : Int32) (M : JM) (pl0 : jok jE0 l0 6 = true), JG xs 5 92 (f92_103 h35 l0 l1 l2 l3 l4 l5 M) (fun x r => r = (some (.int x.1), (jE0, x.2))) (103, [(0, .ref l0), (1, .int l1), (2, .int l2), (3, .int l3), (4, .int l4), (5, .int l5)], [], (jE0, M)) := by
    intro l0 l1 l2 l3 l4 l5 M pl0
    unfold f92_103
    refine g_pure (c' := (35, [(5, .int (l5 + (1 : Int32))), (0, .ref l0), (1, .int l1), (2, .int l2), (3, .int l3), (4, .int l4)], [], (jE0, M))) 2 rfl ?_
    refine g_weakk (lv := [(0, .ref l0), (1, .int l1), (2, .int l2), (3, .int l3), (4, .int l4), (5, .int (l5 + (1 : Int32)))]) ⟨rfl, rfl, rfl, rfl, rfl, rfl, trivial⟩ [0, 1, 2, 3, 4, 5] rfl (by decide) [5, 0, 1, 2, 3, 4] rfl (by decide) ?_
    exact (H35 l0 l1 l2 l3 l4 (l5 + (1 : Int32)) M pl0)
def f92_35  : Nat → Nat → Int32 → Int32 → Int32 → Int32 → Int32 → JM → Option (Int32 × JM)
  | 0, _, _, _, _, _, _, _ => none
  | n + 1, l0, l1, l2, l3, l4, l5, M => (if l5 < (M (jpt l0 1) 1) then ((f1 (jpt l0 2) (jpt l0 1) M).bind fun M5 => ((f9 (jpt l0 2) l5 M5).bind fun M6 => ((f22 M6 (jpt l0 2) (M6 (jpt l0 3) 0)).bind fun v7 => (if (0 : Int32) < (l4 - v7) then (if l3 < (l4 - v7) then (f92_103 (f92_35 n) l0 l1 l5 (l4 - v7) l4 l5 M6) else (f92_103 (f92_35 n) l0 l1 l2 l3 l4 l5 M6)) else (f92_103 (f92_35 n) l0 l1 l2 l3 l4 l5 M6))))) else (if l1 = (0 : Int32) then (some (l2, M)) else (some (l3, M))))
theorem c92_35 {xs : Option (List Int32)} : ∀ (n : Nat) (l0 : Nat) (l1 : Int32) (l2 : Int32) (l3 : Int32) (l4 : Int32) (l5 : Int32) (M : JM) (pl0 : jok jE0 l0 6 = true), JG xs 5 92 (f92_35 n l0 l1 l2 l3 l4 l5 M) (fun x r => r = (some (.int x.1), (jE0, x.2))) (35, [(0, .ref l0), (1, .int l1), (2, .int l2), (3, .int l3), (4, .int l4), (5, .int l5)], [], (jE0, M))
  | 0, _, _, _, _, _, _, _, _ => by rw [f92_35]; exact g_none
  | n + 1, l0, l1, l2, l3, l4, l5, M, pl0 => by
    rw [f92_35]
    refine g_pure (c' := (38, [(0, .ref l0), (1, .int l1), (2, .int l2), (3, .int l3), (4, .int l4), (5, .int l5)], [.ref l0, .int l5], (jE0, M))) 2 rfl ?_
    refine g_gp rfl rfl rfl pl0 (jp_ok (kd := 0) pl0 (by decide) (by decide) rfl rfl).1 ?_
    refine g_gf (ci := 0) (k := 1) rfl rfl rfl (jk_ok (kd := 0) pl0 (by decide) (by decide) rfl rfl) ?_
    refine g_ic_ge (tgt := 109) rfl rfl (fun q4 => ?_) (fun q4 => ?_)
    · refine g_pure (c' := (48, [(0, .ref l0), (1, .int l1), (2, .int l2), (3, .int l3), (4, .int l4), (5, .int l5)], [.ref l0], (jE0, M))) 1 rfl ?_
      refine g_gp rfl rfl rfl pl0 (jp_ok (kd := 0) pl0 (by decide) (by decide) rfl rfl).1 ?_
      refine g_pure (c' := (52, [(0, .ref l0), (1, .int l1), (2, .int l2), (3, .int l3), (4, .int l4), (5, .int l5)], [.ref l0, .ref (jpt l0 2)], (jE0, M))) 1 rfl ?_
      refine g_gp rfl rfl rfl pl0 (jp_ok (kd := 0) pl0 (by decide) (by decide) rfl rfl).1 ?_
      refine g_wV rfl (jc_v rfl rfl (jv_o (jk_ok (kd := 0) pl0 (by decide) (by decide) rfl rfl) rfl) rfl) (c1 (jpt l0 2) (jpt l0 1) M (jk_ok (kd := 0) pl0 (by decide) (by decide) rfl rfl) (jk_ok (kd := 0) pl0 (by decide) (by decide) rfl rfl)) (by decide) (fun M5 => ?_)
      refine g_pure (c' := (59, [(0, .ref l0), (1, .int l1), (2, .int l2), (3, .int l3), (4, .int l4), (5, .int l5)], [.ref l0], (jE0, M5))) 1 rfl ?_
      refine g_gp rfl rfl rfl pl0 (jp_ok (kd := 0) pl0 (by decide) (by decide) rfl rfl).1 ?_
      refine g_pure (c' := (64, [(0, .ref l0), (1, .int l1), (2, .int l2), (3, .int l3), (4, .int l4), (5, .int l5)], [.int l5, .ref (jpt l0 2)], (jE0, M5))) 1 rfl ?_
      refine g_wV rfl (jc_v rfl rfl (jv_o (jk_ok (kd := 0) pl0 (by decide) (by decide) rfl rfl) rfl) rfl) (c9 (jpt l0 2) l5 M5 (jk_ok (kd := 0) pl0 (by decide) (by decide) rfl rfl)) (by decide) (fun M6 => ?_)
      refine g_pure (c' := (70, [(0, .ref l0), (1, .int l1), (2, .int l2), (3, .int l3), (4, .int l4), (5, .int l5)], [.ref l0, .int l4], (jE0, M6))) 2 rfl ?_
      refine g_gp rfl rfl rfl pl0 (jp_ok (kd := 0) pl0 (by decide) (by decide) rfl rfl).1 ?_
      refine g_pure (c' := (74, [(0, .ref l0), (1, .int l1), (2, .int l2), (3, .int l3), (4, .int l4), (5, .int l5)], [.ref l0, .ref (jpt l0 2), .int l4], (jE0, M6))) 1 rfl ?_
      refine g_gp rfl rfl rfl pl0 (jp_ok (kd := 2) pl0 (by decide) (by decide) rfl rfl).1 ?_
      refine g_gf (ci := 2) (k := 0) rfl rfl rfl (jk_ok (kd := 2) pl0 (by decide) (by decide) rfl rfl) ?_
      refine g_cI rfl (jc_v rfl rfl (jv_o (jk_ok (kd := 0) pl0 (by decide) (by decide) rfl rfl) rfl) rfl) (c22 (jpt l0 2) (M6 (jpt l0 3) 0) (jk_ok (kd := 0) pl0 (by decide) (by decide) rfl rfl)) (by decide) (fun v7 qv7 => ?_)
      refine g_pure (c' := (88, [(6, .int (l4 - v7)), (0, .ref l0), (1, .int l1), (2, .int l2), (3, .int l3), (4, .int l4), (5, .int l5)], [.int (l4 - v7)], (jE0, M6))) 3 rfl ?_
      refine g_if_le (tgt := 103) rfl rfl (fun q8 => ?_) (fun q8 => ?_)
      · refine g_pure (c' := (94, [(6, .int (l4 - v7)), (0, .ref l0), (1, .int l1), (2, .int l2), (3, .int l3), (4, .int l4), (5, .int l5)], [.int l3, .int (l4 - v7)], (jE0, M6))) 2 rfl ?_
        refine g_ic_le (tgt := 103) rfl rfl (fun q9 => ?_) (fun q9 => ?_)
        · refine g_pure (c' := (103, [(2, .int l5), (3, .int (l4 - v7)), (6, .int (l4 - v7)), (0, .ref l0), (1, .int l1), (4, .int l4), (5, .int l5)], [], (jE0, M6))) 4 rfl ?_
          refine g_weakk (lv := [(0, .ref l0), (1, .int l1), (2, .int l5), (3, .int (l4 - v7)), (4, .int l4), (5, .int l5)]) ⟨rfl, rfl, rfl, rfl, rfl, rfl, trivial⟩ [0, 1, 2, 3, 4, 5] rfl (by decide) [2, 3, 6, 0, 1, 4, 5] rfl (by decide) ?_
          exact (c92_103 (f92_35 n) (c92_35 n) l0 l1 l5 (l4 - v7) l4 l5 M6 pl0)
        · refine g_weakk (lv := [(0, .ref l0), (1, .int l1), (2, .int l2), (3, .int l3), (4, .int l4), (5, .int l5)]) ⟨rfl, rfl, rfl, rfl, rfl, rfl, trivial⟩ [0, 1, 2, 3, 4, 5] rfl (by decide) [6, 0, 1, 2, 3, 4, 5] rfl (by decide) ?_
          exact (c92_103 (f92_35 n) (c92_35 n) l0 l1 l2 l3 l4 l5 M6 pl0)
      · refine g_weakk (lv := [(0, .ref l0), (1, .int l1), (2, .int l2), (3, .int l3), (4, .int l4), (5, .int l5)]) ⟨rfl, rfl, rfl, rfl, rfl, rfl, trivial⟩ [0, 1, 2, 3, 4, 5] rfl (by decide) [6, 0, 1, 2, 3, 4, 5] rfl (by decide) ?_
        exact (c92_103 (f92_35 n) (c92_35 n) l0 l1 l2 l3 l4 l5 M6 pl0)
    · refine g_pure (c' := (110, [(0, .ref l0), (1, .int l1), (2, .int l2), (3, .int l3), (4, .int l4), (5, .int l5)], [.int l1], (jE0, M))) 1 rfl ?_
      refine g_if_ne (tgt := 117) rfl rfl (fun q10 => ?_) (fun q10 => ?_)
      · refine g_pure (c' := (118, [(0, .ref l0), (1, .int l1), (2, .int l2), (3, .int l3), (4, .int l4), (5, .int l5)], [.int l2], (jE0, M))) 2 rfl ?_
        exact g_ret rfl rfl (fun _ h => h)
      · refine g_pure (c' := (118, [(0, .ref l0), (1, .int l1), (2, .int l2), (3, .int l3), (4, .int l4), (5, .int l5)], [.int l3], (jE0, M))) 1 rfl ?_
        exact g_ret rfl rfl (fun _ h => h)
/-- CometKin.makes -/
def f92  (l0 : Nat) (l1 : Int32) (M : JM) : Option (Int32 × JM) := (if l1 < (0 : Int32) then (some ((-3 : Int32), M)) else (if (1 : Int32) < l1 then (some ((-3 : Int32), M)) else ((f22 M (jpt l0 1) (M (jpt l0 3) 0)).bind fun v3 => (f92_35 1000 l0 l1 (-1 : Int32) (-1 : Int32) v3 (0 : Int32) M))))
theorem c92 {xs : Option (List Int32)} (l0 : Nat) (l1 : Int32) (M : JM) (pl0 : jok jE0 l0 6 = true) : JG xs 5 92 (f92 l0 l1 M) (fun x r => r = (some (.int x.1), (jE0, x.2))) (0, [(0, .ref l0), (1, .int l1)], [], (jE0, M)) := by
    unfold f92
    refine g_pure (c' := (1, [(0, .ref l0), (1, .int l1)], [.int l1], (jE0, M))) 1 rfl ?_
    refine g_if_lt (tgt := 9) rfl rfl (fun q1 => ?_) (fun q1 => ?_)
    · refine g_pure (c' := (11, [(0, .ref l0), (1, .int l1)], [.int (-3 : Int32)], (jE0, M))) 1 rfl ?_
      exact g_ret rfl rfl (fun _ h => h)
    · refine g_pure (c' := (6, [(0, .ref l0), (1, .int l1)], [.int (1 : Int32), .int l1], (jE0, M))) 2 rfl ?_
      refine g_ic_le (tgt := 12) rfl rfl (fun q2 => ?_) (fun q2 => ?_)
      · refine g_pure (c' := (11, [(0, .ref l0), (1, .int l1)], [.int (-3 : Int32)], (jE0, M))) 1 rfl ?_
        exact g_ret rfl rfl (fun _ h => h)
      · refine g_pure (c' := (17, [(3, .int (-1 : Int32)), (2, .int (-1 : Int32)), (0, .ref l0), (1, .int l1)], [.ref l0], (jE0, M))) 5 rfl ?_
        refine g_gp rfl rfl rfl pl0 (jp_ok (kd := 0) pl0 (by decide) (by decide) rfl rfl).1 ?_
        refine g_pure (c' := (21, [(3, .int (-1 : Int32)), (2, .int (-1 : Int32)), (0, .ref l0), (1, .int l1)], [.ref l0, .ref (jpt l0 1)], (jE0, M))) 1 rfl ?_
        refine g_gp rfl rfl rfl pl0 (jp_ok (kd := 2) pl0 (by decide) (by decide) rfl rfl).1 ?_
        refine g_gf (ci := 2) (k := 0) rfl rfl rfl (jk_ok (kd := 2) pl0 (by decide) (by decide) rfl rfl) ?_
        refine g_cI rfl (jc_v rfl rfl (jv_o (jk_ok (kd := 0) pl0 (by decide) (by decide) rfl rfl) rfl) rfl) (c22 (jpt l0 1) (M (jpt l0 3) 0) (jk_ok (kd := 0) pl0 (by decide) (by decide) rfl rfl)) (by decide) (fun v3 qv3 => ?_)
        refine g_pure (c' := (35, [(5, .int (0 : Int32)), (4, .int v3), (3, .int (-1 : Int32)), (2, .int (-1 : Int32)), (0, .ref l0), (1, .int l1)], [], (jE0, M))) 3 rfl ?_
        refine g_weakk (lv := [(0, .ref l0), (1, .int l1), (2, .int (-1 : Int32)), (3, .int (-1 : Int32)), (4, .int v3), (5, .int (0 : Int32))]) ⟨rfl, rfl, rfl, rfl, rfl, rfl, trivial⟩ [0, 1, 2, 3, 4, 5] rfl (by decide) [5, 4, 3, 2, 0, 1] rfl (by decide) ?_
        exact (c92_35 1000 l0 l1 (-1 : Int32) (-1 : Int32) v3 (0 : Int32) M pl0)
