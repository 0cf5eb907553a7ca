def jTb : List Jvm.Cond := lw_tbl.filter goodWord
def jAt (w : Nat) (x : Jvm.Cond) : Bool := decide (lw_tbl[w]? = some x) && goodWord x
theorem jAt_in {w : Nat} {x : Jvm.Cond} (h : jAt w x = true) : x ∈ jTb := by
  unfold jAt at h
  rw [Bool.and_eq_true] at h
  exact List.mem_filter.mpr ⟨List.mem_of_getElem? (of_decide_eq_true h.1), h.2⟩
def jNs : List Jvm.Cond := lw_tbl.filter (fun w => match w with | .methodLinkNest _ _ _ _ => true | _ => false)
def jAtN (w : Nat) (x : Jvm.Cond) : Bool := decide (lw_tbl[w]? = some x)
theorem jAtN_in {w : Nat} {a h : String} {i : Nat} {y : MethodName} (q : jAtN w (.methodLinkNest a i y h) = true) : Jvm.Cond.methodLinkNest a i y h ∈ jNs := List.mem_filter.mpr ⟨List.mem_of_getElem? (of_decide_eq_true q), rfl⟩
def jall {α : Type} (f : Nat → Nat → Option α) (P : Nat → Nat → α → Bool) (a b : Nat) : Bool := (List.range a).all (fun oc => (List.range b).all (fun idx => match f oc idx with | none => true | some v => P oc idx v))
theorem jall_ok {α : Type} {f : Nat → Nat → Option α} {P : Nat → Nat → α → Bool} {a b : Nat} (h : jall f P a b = true) (h1 : ∀ oc idx, b ≤ idx → f oc idx = none) (h2 : ∀ oc idx, a ≤ oc → f oc idx = none) {oc idx : Nat} {v : α} (hv : f oc idx = some v) : P oc idx v = true := by
  rcases Nat.lt_or_ge idx b with q | q
  · rcases Nat.lt_or_ge oc a with q2 | q2
    · have h3 := List.all_eq_true.mp (List.all_eq_true.mp h oc (List.mem_range.mpr q2)) idx (List.mem_range.mpr q)
      rw [hv] at h3
      exact h3
    · rw [h2 oc idx q2] at hv; cases hv
  · rw [h1 oc idx q] at hv; cases hv
theorem jg1 {α : Type} {f g : Nat → Nat → Option α} {a b : Nat} (hf : ∀ oc idx, f oc idx = bif Nat.ble b idx then none else bif Nat.ble a oc then none else g oc idx) : (∀ oc idx, b ≤ idx → f oc idx = none) ∧ (∀ oc idx, a ≤ oc → f oc idx = none) := by
  refine ⟨fun oc idx h => ?_, fun oc idx h => ?_⟩
  · rw [hf, Nat.ble_eq.mpr h]; rfl
  · rw [hf, Nat.ble_eq.mpr h]; cases Nat.ble b idx <;> rfl
def jkey (K : List (Nat × Nat)) (oc idx : Nat) : Bool := K.any (fun q => Nat.beq q.1 oc && Nat.beq q.2 idx)
def jkall {α : Type} (f : Nat → Nat → Option α) (P : Nat → Nat → α → Bool) (K : List (Nat × Nat)) : Bool := K.all (fun q => match f q.1 q.2 with | none => true | some v => P q.1 q.2 v)
theorem jkall_ok {α : Type} {f : Nat → Nat → Option α} {P : Nat → Nat → α → Bool} {K : List (Nat × Nat)} (h : jkall f P K = true) {oc idx : Nat} {v : α} (hv : f oc idx = some v) (hk : jkey K oc idx = true) : P oc idx v = true := by
  obtain ⟨q, hq, he⟩ := List.any_eq_true.mp hk
  rw [Bool.and_eq_true] at he
  have e1 : q.1 = oc := Nat.eq_of_beq_eq_true he.1
  have e2 : q.2 = idx := Nat.eq_of_beq_eq_true he.2
  have h3 := List.all_eq_true.mp h q hq
  rw [e1, e2, hv] at h3
  exact h3
def jF_P (oc idx : Nat) (v : Nat × Nat × Nat) : Bool := jAt v.2.2 (.fieldLink (jcn oc) idx (jcn v.1) (jT v.1 v.2.1).2.1 (jT v.1 v.2.1).2.2.1) && Nat.ble (v.2.1 + 1) (jNF v.1) && Nat.ble v.1 7
def jF_K0 : List (Nat × Nat) := [(0, 14), (0, 20), (0, 23), (0, 26), (0, 29), (0, 32), (0, 35), (0, 38), (0, 42), (0, 45), (0, 52), (0, 55), (0, 58), (0, 61), (1, 14), (1, 20), (1, 23), (1, 26), (1, 29), (1, 32), (1, 35), (1, 38), (1, 46), (1, 49), (1, 54), (1, 82), (2, 14), (2, 20), (2, 23), (2, 26), (2, 29), (2, 32), (2, 35), (2, 39), (2, 48), (2, 51)]
set_option maxRecDepth 100000 in
theorem jF_a0 : jkall jF jF_P jF_K0 = true := by decide +kernel
def jF_K1 : List (Nat × Nat) := [(2, 54), (2, 60), (3, 15), (4, 15), (5, 14), (5, 20), (5, 28), (5, 31), (5, 34), (5, 84), (5, 87), (5, 90), (5, 96), (6, 10), (6, 19), (6, 23), (6, 29), (6, 38), (6, 42), (6, 48), (6, 55), (6, 59), (6, 63), (6, 66), (6, 73), (6, 87), (6, 94), (6, 100), (6, 107), (6, 110), (6, 113), (6, 116), (6, 119), (6, 126), (6, 132), (6, 135)]
set_option maxRecDepth 100000 in
theorem jF_a1 : jkall jF jF_P jF_K1 = true := by decide +kernel
def jF_K2 : List (Nat × Nat) := [(6, 138), (6, 172), (6, 206), (6, 215), (6, 218), (6, 221), (6, 224), (6, 230), (6, 250), (6, 253), (6, 281), (6, 290), (6, 296), (6, 302), (7, 7), (7, 13), (7, 17), (7, 20), (7, 23), (7, 26), (7, 29), (7, 32), (7, 35), (7, 38), (7, 41), (7, 44), (7, 48), (7, 51), (7, 54), (7, 57), (7, 60), (7, 63), (7, 66), (7, 78), (7, 81), (7, 84)]
set_option maxRecDepth 100000 in
theorem jF_a2 : jkall jF jF_P jF_K2 = true := by decide +kernel
def jF_K3 : List (Nat × Nat) := [(7, 91), (7, 115), (7, 137), (7, 143), (7, 149), (7, 152), (7, 170), (7, 173), (7, 282), (7, 285)]
set_option maxRecDepth 100000 in
theorem jF_a3 : jkall jF jF_P jF_K3 = true := by decide +kernel
def jF_Q (oc idx : Nat) (_ : Nat × Nat × Nat) : Bool := jkey jF_K0 oc idx || jkey jF_K1 oc idx || jkey jF_K2 oc idx || jkey jF_K3 oc idx
set_option maxRecDepth 100000 in
theorem jF_all : jall jF jF_Q 14 1060 = true := by decide +kernel
theorem jF_ok {oc idx : Nat} {v : Nat × Nat × Nat} (h : jF oc idx = some v) : jF_P oc idx v = true := by
  have h2 : jF_Q oc idx v = true := jall_ok jF_all (jg1 (fun _ _ => rfl)).1 (jg1 (fun _ _ => rfl)).2 h
  simp only [jF_Q, Bool.or_eq_true] at h2
  rcases h2 with ((q | q) | q) | q
  · exact jkall_ok jF_a0 h q
  · exact jkall_ok jF_a1 h q
  · exact jkall_ok jF_a2 h q
  · exact jkall_ok jF_a3 h q
def jNw_P (oc idx : Nat) (v : Nat × Nat) : Bool := jAt v.2 (.classLink (jcn oc) idx (jcn v.1)) && Nat.ble v.1 7
def jNw_K0 : List (Nat × Nat) := [(0, 9), (1, 9), (2, 9), (4, 13), (5, 9), (6, 7), (6, 16), (6, 26), (6, 33), (6, 45), (6, 52), (13, 7), (13, 10)]
set_option maxRecDepth 100000 in
theorem jNw_a0 : jkall jNw jNw_P jNw_K0 = true := by decide +kernel
def jNw_Q (oc idx : Nat) (_ : Nat × Nat) : Bool := jkey jNw_K0 oc idx
set_option maxRecDepth 100000 in
theorem jNw_all : jall jNw jNw_Q 14 1060 = true := by decide +kernel
theorem jNw_ok {oc idx : Nat} {v : Nat × Nat} (h : jNw oc idx = some v) : jNw_P oc idx v = true := by
  have h2 : jNw_Q oc idx v = true := jall_ok jNw_all (jg1 (fun _ _ => rfl)).1 (jg1 (fun _ _ => rfl)).2 h
  simp only [jNw_Q, Bool.or_eq_true] at h2
  have q := h2
  exact jkall_ok jNw_a0 h q
def jKI_P (oc idx : Nat) (v : Int32 × Nat) : Bool := jAt v.2 (.constant (jcn oc) idx v.1)
def jKI_K0 : List (Nat × Nat) := [(7, 94), (7, 99), (7, 100), (7, 101), (7, 102), (7, 103), (7, 104), (7, 112), (7, 113), (7, 114), (8, 265), (8, 266), (8, 267)]
set_option maxRecDepth 100000 in
theorem jKI_a0 : jkall jKI jKI_P jKI_K0 = true := by decide +kernel
def jKI_Q (oc idx : Nat) (_ : Int32 × Nat) : Bool := jkey jKI_K0 oc idx
set_option maxRecDepth 100000 in
theorem jKI_all : jall jKI jKI_Q 14 1060 = true := by decide +kernel
theorem jKI_ok {oc idx : Nat} {v : Int32 × Nat} (h : jKI oc idx = some v) : jKI_P oc idx v = true := by
  have h2 : jKI_Q oc idx v = true := jall_ok jKI_all (jg1 (fun _ _ => rfl)).1 (jg1 (fun _ _ => rfl)).2 h
  simp only [jKI_Q, Bool.or_eq_true] at h2
  have q := h2
  exact jkall_ok jKI_a0 h q
def jKL_P (oc idx : Nat) (v : Int64 × Nat) : Bool := jAt v.2 (.constantLong (jcn oc) idx v.1)
def jKL_K0 : List (Nat × Nat) := [(6, 305), (6, 307), (6, 325), (7, 72), (7, 121), (7, 123), (7, 125), (7, 166), (7, 168), (7, 223), (7, 228), (7, 272), (7, 274), (7, 297), (7, 299), (7, 301), (7, 303)]
set_option maxRecDepth 100000 in
theorem jKL_a0 : jkall jKL jKL_P jKL_K0 = true := by decide +kernel
def jKL_Q (oc idx : Nat) (_ : Int64 × Nat) : Bool := jkey jKL_K0 oc idx
set_option maxRecDepth 100000 in
theorem jKL_all : jall jKL jKL_Q 14 1060 = true := by decide +kernel
theorem jKL_ok {oc idx : Nat} {v : Int64 × Nat} (h : jKL oc idx = some v) : jKL_P oc idx v = true := by
  have h2 : jKL_Q oc idx v = true := jall_ok jKL_all (jg1 (fun _ _ => rfl)).1 (jg1 (fun _ _ => rfl)).2 h
  simp only [jKL_Q, Bool.or_eq_true] at h2
  have q := h2
  exact jkall_ok jKL_a0 h q
def jC_P (oc idx : Nat) (v : Nat × Nat × List Nat) : Bool := (match v with
  | (0, mj, [a, b, c]) => Nat.ble (mj + 1) 217 && jAt a (.methodLink (jcn oc) idx (jY mj)) && jAt b (.instanceMethod (jY mj)) && jAt c (.selects (jcn (jOC mj)) (jY mj) (jY mj))
  | (1, mj, [a, b]) => Nat.ble (mj + 1) 217 && jAt a (.methodLink (jcn oc) idx (jY mj)) && jAt b (.static (jY mj))
  | (2, mj, [a, b]) => Nat.ble (mj + 1) 217 && jAt a (.methodLink (jcn oc) idx (jY mj)) && jAt b (.instanceMethod (jY mj)) && decide ((jY mj).name = "<init>") && decide (jRet mj = none)
  | (3, mj, [a, b]) => Nat.ble (mj + 1) 217 && jAtN a (.methodLinkNest (jcn oc) idx (jY mj) RX6) && jAt b (.static (jY mj))
  | (4, _, [a]) => jAt a (.methodLink (jcn oc) idx objectInit)
  | _ => false)
def jC_K0 : List (Nat × Nat) := [(0, 3), (0, 11), (0, 48), (0, 64), (0, 68), (0, 72), (0, 76), (0, 80), (0, 83), (0, 86), (0, 89), (0, 92), (0, 96), (0, 102), (0, 105), (0, 108), (0, 111), (0, 114), (0, 117), (0, 120), (0, 123), (0, 126), (1, 3), (1, 11)]
set_option maxRecDepth 100000 in
theorem jC_a0 : jkall jC jC_P jC_K0 = true := by decide +kernel
def jC_K1 : List (Nat × Nat) := [(1, 42), (1, 55), (1, 58), (1, 62), (1, 66), (1, 70), (1, 74), (1, 78), (1, 85), (1, 88), (1, 91), (1, 95), (1, 98), (2, 3), (2, 11), (2, 44), (2, 57), (2, 63), (2, 67), (2, 71), (2, 74), (2, 77), (3, 3), (3, 9)]
set_option maxRecDepth 100000 in
theorem jC_a1 : jkall jC jC_P jC_K1 = true := by decide +kernel
def jC_K2 : List (Nat × Nat) := [(3, 21), (3, 25), (4, 1), (4, 7), (4, 21), (4, 22), (4, 26), (5, 3), (5, 11), (5, 24), (5, 37), (5, 41), (5, 45), (5, 50), (5, 53), (5, 56), (5, 60), (5, 64), (5, 67), (5, 71), (5, 74), (5, 77), (5, 80), (5, 93)]
set_option maxRecDepth 100000 in
theorem jC_a2 : jkall jC jC_P jC_K2 = true := by decide +kernel
def jC_K3 : List (Nat × Nat) := [(5, 99), (5, 103), (5, 107), (5, 111), (5, 115), (5, 144), (5, 149), (6, 1), (6, 9), (6, 18), (6, 28), (6, 35), (6, 47), (6, 54), (6, 69), (6, 76), (6, 80), (6, 84), (6, 90), (6, 93), (6, 97), (6, 103), (6, 122), (6, 129)]
set_option maxRecDepth 100000 in
theorem jC_a3 : jkall jC jC_P jC_K3 = true := by decide +kernel
def jC_K4 : List (Nat × Nat) := [(6, 141), (6, 148), (6, 152), (6, 158), (6, 161), (6, 164), (6, 168), (6, 175), (6, 178), (6, 181), (6, 184), (6, 188), (6, 191), (6, 194), (6, 197), (6, 200), (6, 203), (6, 209), (6, 212), (6, 227), (6, 233), (6, 236), (6, 239), (6, 243)]
set_option maxRecDepth 100000 in
theorem jC_a4 : jkall jC jC_P jC_K4 = true := by decide +kernel
def jC_K5 : List (Nat × Nat) := [(6, 246), (6, 256), (6, 261), (6, 265), (6, 268), (6, 271), (6, 275), (6, 278), (6, 284), (6, 287), (6, 293), (6, 299), (6, 309), (6, 314), (6, 318), (6, 321), (6, 327), (6, 330), (6, 333), (6, 336), (6, 339), (6, 342), (6, 346), (6, 349)]
set_option maxRecDepth 100000 in
theorem jC_a5 : jkall jC jC_P jC_K5 = true := by decide +kernel
def jC_K6 : List (Nat × Nat) := [(6, 352), (7, 1), (7, 69), (7, 74), (7, 87), (7, 95), (7, 105), (7, 109), (7, 118), (7, 127), (7, 131), (7, 134), (7, 140), (7, 146), (7, 155), (7, 159), (7, 163), (7, 176), (7, 179), (7, 183), (7, 186), (7, 190), (7, 193), (7, 197)]
set_option maxRecDepth 100000 in
theorem jC_a6 : jkall jC jC_P jC_K6 = true := by decide +kernel
def jC_K7 : List (Nat × Nat) := [(7, 200), (7, 203), (7, 206), (7, 209), (7, 212), (7, 216), (7, 220), (7, 225), (7, 230), (7, 233), (7, 236), (7, 239), (7, 242), (7, 245), (7, 248), (7, 251), (7, 254), (7, 257), (7, 260), (7, 263), (7, 266), (7, 269), (7, 276), (7, 279)]
set_option maxRecDepth 100000 in
theorem jC_a7 : jkall jC jC_P jC_K7 = true := by decide +kernel
def jC_K8 : List (Nat × Nat) := [(7, 288), (7, 291), (7, 294), (7, 305), (7, 309), (10, 335), (10, 492), (10, 495), (10, 1059), (11, 9), (13, 9), (13, 12), (13, 13), (13, 17), (13, 18), (13, 22), (13, 23), (13, 26), (13, 27), (13, 30), (13, 31), (13, 35), (13, 36), (13, 39)]
set_option maxRecDepth 100000 in
theorem jC_a8 : jkall jC jC_P jC_K8 = true := by decide +kernel
def jC_K9 : List (Nat × Nat) := [(13, 40), (13, 43), (13, 44), (13, 47), (13, 48), (13, 52), (13, 53), (13, 56), (13, 57), (13, 60), (13, 61), (13, 64), (13, 65), (13, 68), (13, 69), (13, 72), (13, 73), (13, 76), (13, 77), (13, 80), (13, 81), (13, 84), (13, 85), (13, 88)]
set_option maxRecDepth 100000 in
theorem jC_a9 : jkall jC jC_P jC_K9 = true := by decide +kernel
def jC_K10 : List (Nat × Nat) := [(13, 89), (13, 92), (13, 93), (13, 96), (13, 97), (13, 100), (13, 101), (13, 104), (13, 105), (13, 109), (13, 110), (13, 113), (13, 114), (13, 117), (13, 118), (13, 121), (13, 122), (13, 125), (13, 126), (13, 129), (13, 130), (13, 133), (13, 134), (13, 138)]
set_option maxRecDepth 100000 in
theorem jC_a10 : jkall jC jC_P jC_K10 = true := by decide +kernel
def jC_K11 : List (Nat × Nat) := [(13, 139), (13, 142)]
set_option maxRecDepth 100000 in
theorem jC_a11 : jkall jC jC_P jC_K11 = true := by decide +kernel
def jC_Q (oc idx : Nat) (_ : Nat × Nat × List Nat) : Bool := jkey jC_K0 oc idx || jkey jC_K1 oc idx || jkey jC_K2 oc idx || jkey jC_K3 oc idx || jkey jC_K4 oc idx || jkey jC_K5 oc idx || jkey jC_K6 oc idx || jkey jC_K7 oc idx || jkey jC_K8 oc idx || jkey jC_K9 oc idx || jkey jC_K10 oc idx || jkey jC_K11 oc idx
set_option maxRecDepth 100000 in
theorem jC_all : jall jC jC_Q 14 1060 = true := by decide +kernel
theorem jC_ok {oc idx : Nat} {v : Nat × Nat × List Nat} (h : jC oc idx = some v) : jC_P oc idx v = true := by
  have h2 : jC_Q oc idx v = true := jall_ok jC_all (jg1 (fun _ _ => rfl)).1 (jg1 (fun _ _ => rfl)).2 h
  simp only [jC_Q, Bool.or_eq_true] at h2
  rcases h2 with ((((((((((q | q) | q) | q) | q) | q) | q) | q) | q) | q) | q) | q
  · exact jkall_ok jC_a0 h q
  · exact jkall_ok jC_a1 h q
  · exact jkall_ok jC_a2 h q
  · exact jkall_ok jC_a3 h q
  · exact jkall_ok jC_a4 h q
  · exact jkall_ok jC_a5 h q
  · exact jkall_ok jC_a6 h q
  · exact jkall_ok jC_a7 h q
  · exact jkall_ok jC_a8 h q
  · exact jkall_ok jC_a9 h q
  · exact jkall_ok jC_a10 h q
  · exact jkall_ok jC_a11 h q
def jCW (mi : Nat) : Nat := (bif Nat.ble mi 107 then (bif Nat.ble mi 53 then (bif Nat.ble mi 26 then (bif Nat.ble mi 12 then (bif Nat.ble mi 5 then (bif Nat.ble mi 2 then (bif Nat.ble mi 0 then 135 else (bif Nat.ble mi 1 then 368 else 502)) else (bif Nat.ble mi 3 then 562 else (bif Nat.ble mi 4 then 660 else 572))) else (bif Nat.ble mi 8 then (bif Nat.ble mi 6 then 486 else (bif Nat.ble mi 7 then 490 else 478)) else (bif Nat.ble mi 10 then (bif Nat.ble mi 9 then 821 else 510) else (bif Nat.ble mi 11 then 515 else 519)))) else (bif Nat.ble mi 19 then (bif Nat.ble mi 15 then (bif Nat.ble mi 13 then 526 else (bif Nat.ble mi 14 then 590 else 576)) else (bif Nat.ble mi 17 then (bif Nat.ble mi 16 then 613 else 744) else (bif Nat.ble mi 18 then 617 else 629))) else (bif Nat.ble mi 22 then (bif Nat.ble mi 20 then 608 else (bif Nat.ble mi 21 then 625 else 815)) else (bif Nat.ble mi 24 then (bif Nat.ble mi 23 then 854 else 267) else (bif Nat.ble mi 25 then 831 else 554))))) else (bif Nat.ble mi 39 then (bif Nat.ble mi 32 then (bif Nat.ble mi 29 then (bif Nat.ble mi 27 then 848 else (bif Nat.ble mi 28 then 857 else 860)) else (bif Nat.ble mi 30 then 865 else (bif Nat.ble mi 31 then 870 else 876))) else (bif Nat.ble mi 35 then (bif Nat.ble mi 33 then 204 else (bif Nat.ble mi 34 then 541 else 649)) else (bif Nat.ble mi 37 then (bif Nat.ble mi 36 then 736 else 728) else (bif Nat.ble mi 38 then 697 else 905)))) else (bif Nat.ble mi 46 then (bif Nat.ble mi 42 then (bif Nat.ble mi 40 then 690 else (bif Nat.ble mi 41 then 102 else 376)) else (bif Nat.ble mi 44 then (bif Nat.ble mi 43 then 352 else 701) else (bif Nat.ble mi 45 then 549 else 372))) else (bif Nat.ble mi 49 then (bif Nat.ble mi 47 then 253 else (bif Nat.ble mi 48 then 645 else 641)) else (bif Nat.ble mi 51 then (bif Nat.ble mi 50 then 760 else 96) else (bif Nat.ble mi 52 then 348 else 360)))))) else (bif Nat.ble mi 80 then (bif Nat.ble mi 66 then (bif Nat.ble mi 59 then (bif Nat.ble mi 56 then (bif Nat.ble mi 54 then 380 else (bif Nat.ble mi 55 then 506 else 384)) else (bif Nat.ble mi 57 then 470 else (bif Nat.ble mi 58 then 482 else 497))) else (bif Nat.ble mi 62 then (bif Nat.ble mi 60 then 388 else (bif Nat.ble mi 61 then 467 else 399)) else (bif Nat.ble mi 64 then (bif Nat.ble mi 63 then 416 else 474) else (bif Nat.ble mi 65 then 392 else 396)))) else (bif Nat.ble mi 73 then (bif Nat.ble mi 69 then (bif Nat.ble mi 67 then 88 else (bif Nat.ble mi 68 then 344 else 356)) else (bif Nat.ble mi 71 then (bif Nat.ble mi 70 then 364 else 537) else (bif Nat.ble mi 72 then 558 else 568))) else (bif Nat.ble mi 76 then (bif Nat.ble mi 74 then 581 else (bif Nat.ble mi 75 then 594 else 601)) else (bif Nat.ble mi 78 then (bif Nat.ble mi 77 then 621 else 633) else (bif Nat.ble mi 79 then 656 else 677))))) else (bif Nat.ble mi 93 then (bif Nat.ble mi 86 then (bif Nat.ble mi 83 then (bif Nat.ble mi 81 then 686 else (bif Nat.ble mi 82 then 720 else 732)) else (bif Nat.ble mi 84 then 748 else (bif Nat.ble mi 85 then 756 else 764))) else (bif Nat.ble mi 89 then (bif Nat.ble mi 87 then 768 else (bif Nat.ble mi 88 then 772 else 776)) else (bif Nat.ble mi 91 then (bif Nat.ble mi 90 then 780 else 791) else (bif Nat.ble mi 92 then 811 else 827)))) else (bif Nat.ble mi 100 then (bif Nat.ble mi 96 then (bif Nat.ble mi 94 then 836 else (bif Nat.ble mi 95 then 840 else 881)) else (bif Nat.ble mi 98 then (bif Nat.ble mi 97 then 885 else 901) else (bif Nat.ble mi 99 then 604 else 493))) else (bif Nat.ble mi 103 then (bif Nat.ble mi 101 then 529 else (bif Nat.ble mi 102 then 544 else 586)) else (bif Nat.ble mi 105 then (bif Nat.ble mi 104 then 532 else 637) else (bif Nat.ble mi 106 then 724 else 673))))))) else (bif Nat.ble mi 161 then (bif Nat.ble mi 134 then (bif Nat.ble mi 120 then (bif Nat.ble mi 113 then (bif Nat.ble mi 110 then (bif Nat.ble mi 108 then 669 else (bif Nat.ble mi 109 then 665 else 682)) else (bif Nat.ble mi 111 then 706 else (bif Nat.ble mi 112 then 710 else 740))) else (bif Nat.ble mi 116 then (bif Nat.ble mi 114 then 752 else (bif Nat.ble mi 115 then 785 else 795)) else (bif Nat.ble mi 118 then (bif Nat.ble mi 117 then 807 else 800) else (bif Nat.ble mi 119 then 803 else 844)))) else (bif Nat.ble mi 127 then (bif Nat.ble mi 123 then (bif Nat.ble mi 121 then 890 else (bif Nat.ble mi 122 then 893 else 896)) else (bif Nat.ble mi 125 then (bif Nat.ble mi 124 then 910 else 920) else (bif Nat.ble mi 126 then 1169 else 1236))) else (bif Nat.ble mi 130 then (bif Nat.ble mi 128 then 1022 else (bif Nat.ble mi 129 then 1027 else 1038)) else (bif Nat.ble mi 132 then (bif Nat.ble mi 131 then 1035 else 1055) else (bif Nat.ble mi 133 then 1050 else 1062))))) else (bif Nat.ble mi 147 then (bif Nat.ble mi 140 then (bif Nat.ble mi 137 then (bif Nat.ble mi 135 then 1046 else (bif Nat.ble mi 136 then 1085 else 1076)) else (bif Nat.ble mi 138 then 1071 else (bif Nat.ble mi 139 then 1081 else 1042))) else (bif Nat.ble mi 143 then (bif Nat.ble mi 141 then 1031 else (bif Nat.ble mi 142 then 1102 else 1098)) else (bif Nat.ble mi 145 then (bif Nat.ble mi 144 then 1094 else 915) else (bif Nat.ble mi 146 then 1089 else 1141)))) else (bif Nat.ble mi 154 then (bif Nat.ble mi 150 then (bif Nat.ble mi 148 then 1126 else (bif Nat.ble mi 149 then 1137 else 1133)) else (bif Nat.ble mi 152 then (bif Nat.ble mi 151 then 1129 else 1122) else (bif Nat.ble mi 153 then 1166 else 1177))) else (bif Nat.ble mi 157 then (bif Nat.ble mi 155 then 1173 else (bif Nat.ble mi 156 then 1162 else 1185)) else (bif Nat.ble mi 159 then (bif Nat.ble mi 158 then 1217 else 1110) else (bif Nat.ble mi 160 then 1205 else 1118)))))) else (bif Nat.ble mi 188 then (bif Nat.ble mi 174 then (bif Nat.ble mi 167 then (bif Nat.ble mi 164 then (bif Nat.ble mi 162 then 1157 else (bif Nat.ble mi 163 then 1106 else 1114)) else (bif Nat.ble mi 165 then 1145 else (bif Nat.ble mi 166 then 1150 else 1154))) else (bif Nat.ble mi 170 then (bif Nat.ble mi 168 then 1181 else (bif Nat.ble mi 169 then 1197 else 1193)) else (bif Nat.ble mi 172 then (bif Nat.ble mi 171 then 1189 else 1213) else (bif Nat.ble mi 173 then 1209 else 1201)))) else (bif Nat.ble mi 181 then (bif Nat.ble mi 177 then (bif Nat.ble mi 175 then 1225 else (bif Nat.ble mi 176 then 1221 else 1233)) else (bif Nat.ble mi 179 then (bif Nat.ble mi 178 then 1229 else 1244) else (bif Nat.ble mi 180 then 1240 else 1256))) else (bif Nat.ble mi 184 then (bif Nat.ble mi 182 then 1252 else (bif Nat.ble mi 183 then 1248 else 1260)) else (bif Nat.ble mi 186 then (bif Nat.ble mi 185 then 1264 else 1268) else (bif Nat.ble mi 187 then 1272 else 1276))))) else (bif Nat.ble mi 202 then (bif Nat.ble mi 195 then (bif Nat.ble mi 191 then (bif Nat.ble mi 189 then 1281 else (bif Nat.ble mi 190 then 1285 else 1294)) else (bif Nat.ble mi 193 then (bif Nat.ble mi 192 then 1289 else 1302) else (bif Nat.ble mi 194 then 1298 else 1306))) else (bif Nat.ble mi 198 then (bif Nat.ble mi 196 then 1310 else (bif Nat.ble mi 197 then 1326 else 1322)) else (bif Nat.ble mi 200 then (bif Nat.ble mi 199 then 1318 else 1314) else (bif Nat.ble mi 201 then 1330 else 1344)))) else (bif Nat.ble mi 209 then (bif Nat.ble mi 205 then (bif Nat.ble mi 203 then 1341 else (bif Nat.ble mi 204 then 1334 else 1348)) else (bif Nat.ble mi 207 then (bif Nat.ble mi 206 then 522 else 713) else (bif Nat.ble mi 208 then 106 else 652))) else (bif Nat.ble mi 212 then (bif Nat.ble mi 210 then 420 else (bif Nat.ble mi 211 then 430 else 424)) else (bif Nat.ble mi 214 then (bif Nat.ble mi 213 then 434 else 440) else (bif Nat.ble mi 215 then 437 else 445))))))))
def jM_P (mi : Nat) : Bool := jAt (jCW mi) (.code (jY mi) (jB mi) (jML mi) (jRet mi)) && decide ((jY mi).cls = jcn (jOC mi)) && decide ((jY mi).cls ≠ "java/lang/invoke/MethodHandle") && decide ((jY mi).cls ≠ "java/lang/invoke/VarHandle") && decide ((parseMethodDescriptor (jY mi).desc).map (fun d => d.parameters.length) = some (jNA mi)) && plainFor (jY mi) && Nat.ble (jML mi) 21 && Nat.ble (jOC mi) 12
set_option maxRecDepth 100000 in
theorem jM_all_0 : (List.range 14).all (fun k => jM_P (0 + k)) = true := by decide +kernel
set_option maxRecDepth 100000 in
theorem jM_all_14 : (List.range 14).all (fun k => jM_P (14 + k)) = true := by decide +kernel
set_option maxRecDepth 100000 in
theorem jM_all_28 : (List.range 14).all (fun k => jM_P (28 + k)) = true := by decide +kernel
set_option maxRecDepth 100000 in
theorem jM_all_42 : (List.range 14).all (fun k => jM_P (42 + k)) = true := by decide +kernel
set_option maxRecDepth 100000 in
theorem jM_all_56 : (List.range 14).all (fun k => jM_P (56 + k)) = true := by decide +kernel
set_option maxRecDepth 100000 in
theorem jM_all_70 : (List.range 14).all (fun k => jM_P (70 + k)) = true := by decide +kernel
set_option maxRecDepth 100000 in
theorem jM_all_84 : (List.range 14).all (fun k => jM_P (84 + k)) = true := by decide +kernel
set_option maxRecDepth 100000 in
theorem jM_all_98 : (List.range 14).all (fun k => jM_P (98 + k)) = true := by decide +kernel
set_option maxRecDepth 100000 in
theorem jM_all_112 : (List.range 14).all (fun k => jM_P (112 + k)) = true := by decide +kernel
set_option maxRecDepth 100000 in
theorem jM_all_126 : (List.range 14).all (fun k => jM_P (126 + k)) = true := by decide +kernel
set_option maxRecDepth 100000 in
theorem jM_all_140 : (List.range 14).all (fun k => jM_P (140 + k)) = true := by decide +kernel
set_option maxRecDepth 100000 in
theorem jM_all_154 : (List.range 14).all (fun k => jM_P (154 + k)) = true := by decide +kernel
set_option maxRecDepth 100000 in
theorem jM_all_168 : (List.range 14).all (fun k => jM_P (168 + k)) = true := by decide +kernel
set_option maxRecDepth 100000 in
theorem jM_all_182 : (List.range 14).all (fun k => jM_P (182 + k)) = true := by decide +kernel
set_option maxRecDepth 100000 in
theorem jM_all_196 : (List.range 14).all (fun k => jM_P (196 + k)) = true := by decide +kernel
set_option maxRecDepth 100000 in
theorem jM_all_210 : (List.range 7).all (fun k => jM_P (210 + k)) = true := by decide +kernel
theorem jM_ok {mi : Nat} (h : mi < 217) : jM_P mi = true := by
  rcases Nat.lt_or_ge mi 14 with q0 | q0
  · have h3 := List.all_eq_true.mp jM_all_0 (mi - 0) (List.mem_range.mpr (by omega))
    rwa [Nat.add_sub_cancel' (by omega)] at h3
  rcases Nat.lt_or_ge mi 28 with q14 | q14
  · have h3 := List.all_eq_true.mp jM_all_14 (mi - 14) (List.mem_range.mpr (by omega))
    rwa [Nat.add_sub_cancel' (by omega)] at h3
  rcases Nat.lt_or_ge mi 42 with q28 | q28
  · have h3 := List.all_eq_true.mp jM_all_28 (mi - 28) (List.mem_range.mpr (by omega))
    rwa [Nat.add_sub_cancel' (by omega)] at h3
  rcases Nat.lt_or_ge mi 56 with q42 | q42
  · have h3 := List.all_eq_true.mp jM_all_42 (mi - 42) (List.mem_range.mpr (by omega))
    rwa [Nat.add_sub_cancel' (by omega)] at h3
  rcases Nat.lt_or_ge mi 70 with q56 | q56
  · have h3 := List.all_eq_true.mp jM_all_56 (mi - 56) (List.mem_range.mpr (by omega))
    rwa [Nat.add_sub_cancel' (by omega)] at h3
  rcases Nat.lt_or_ge mi 84 with q70 | q70
  · have h3 := List.all_eq_true.mp jM_all_70 (mi - 70) (List.mem_range.mpr (by omega))
    rwa [Nat.add_sub_cancel' (by omega)] at h3
  rcases Nat.lt_or_ge mi 98 with q84 | q84
  · have h3 := List.all_eq_true.mp jM_all_84 (mi - 84) (List.mem_range.mpr (by omega))
    rwa [Nat.add_sub_cancel' (by omega)] at h3
  rcases Nat.lt_or_ge mi 112 with q98 | q98
  · have h3 := List.all_eq_true.mp jM_all_98 (mi - 98) (List.mem_range.mpr (by omega))
    rwa [Nat.add_sub_cancel' (by omega)] at h3
  rcases Nat.lt_or_ge mi 126 with q112 | q112
  · have h3 := List.all_eq_true.mp jM_all_112 (mi - 112) (List.mem_range.mpr (by omega))
    rwa [Nat.add_sub_cancel' (by omega)] at h3
  rcases Nat.lt_or_ge mi 140 with q126 | q126
  · have h3 := List.all_eq_true.mp jM_all_126 (mi - 126) (List.mem_range.mpr (by omega))
    rwa [Nat.add_sub_cancel' (by omega)] at h3
  rcases Nat.lt_or_ge mi 154 with q140 | q140
  · have h3 := List.all_eq_true.mp jM_all_140 (mi - 140) (List.mem_range.mpr (by omega))
    rwa [Nat.add_sub_cancel' (by omega)] at h3
  rcases Nat.lt_or_ge mi 168 with q154 | q154
  · have h3 := List.all_eq_true.mp jM_all_154 (mi - 154) (List.mem_range.mpr (by omega))
    rwa [Nat.add_sub_cancel' (by omega)] at h3
  rcases Nat.lt_or_ge mi 182 with q168 | q168
  · have h3 := List.all_eq_true.mp jM_all_168 (mi - 168) (List.mem_range.mpr (by omega))
    rwa [Nat.add_sub_cancel' (by omega)] at h3
  rcases Nat.lt_or_ge mi 196 with q182 | q182
  · have h3 := List.all_eq_true.mp jM_all_182 (mi - 182) (List.mem_range.mpr (by omega))
    rwa [Nat.add_sub_cancel' (by omega)] at h3
  rcases Nat.lt_or_ge mi 210 with q196 | q196
  · have h3 := List.all_eq_true.mp jM_all_196 (mi - 196) (List.mem_range.mpr (by omega))
    rwa [Nat.add_sub_cancel' (by omega)] at h3
  rcases Nat.lt_or_ge mi 217 with q210 | q210
  · have h3 := List.all_eq_true.mp jM_all_210 (mi - 210) (List.mem_range.mpr (by omega))
    rwa [Nat.add_sub_cancel' (by omega)] at h3
  exact absurd h (by omega)
def jIW (oc : Nat) : Nat := (bif Nat.ble oc 5 then (bif Nat.ble oc 2 then (bif Nat.ble oc 0 then 74 else (bif Nat.ble oc 1 then 77 else 75)) else (bif Nat.ble oc 3 then 72 else (bif Nat.ble oc 4 then 76 else 71))) else (bif Nat.ble oc 8 then (bif Nat.ble oc 6 then 70 else (bif Nat.ble oc 7 then 78 else 83)) else (bif Nat.ble oc 10 then (bif Nat.ble oc 9 then 73 else 79) else (bif Nat.ble oc 11 then 80 else 81))))
set_option maxRecDepth 100000 in
theorem jI_all : (List.range 13).all (fun oc => jAt (jIW oc) (.initialized (jcn oc))) = true := by decide +kernel
theorem jI_ok {oc : Nat} (h : oc < 13) : Jvm.Cond.initialized (jcn oc) ∈ jTb := jAt_in (List.all_eq_true.mp jI_all oc (List.mem_range.mpr h))
def jXW (oc : Nat) : Nat := (bif Nat.ble oc 3 then (bif Nat.ble oc 1 then (bif Nat.ble oc 0 then 132 else 264) else (bif Nat.ble oc 2 then 201 else 99)) else (bif Nat.ble oc 5 then (bif Nat.ble oc 4 then 250 else 93) else (bif Nat.ble oc 6 then 85 else 907)))
set_option maxRecDepth 100000 in
theorem jX_all : (List.range 8).all (fun ci => jAt (jXW ci) (.instantiable (jcn ci) (jNF ci))) = true := by decide +kernel
theorem jX_ok {ci : Nat} (h : ci < 8) : Jvm.Cond.instantiable (jcn ci) (jNF ci) ∈ jTb := jAt_in (List.all_eq_true.mp jX_all ci (List.mem_range.mpr h))
def jLW (ci : Nat) : List Nat := (bif Nat.ble ci 3 then (bif Nat.ble ci 1 then (bif Nat.ble ci 0 then [171, 173, 175, 177, 179, 181, 183, 185, 187, 189, 191, 193, 195, 197] else [284, 286, 288, 290, 292, 294, 296, 298, 300, 302]) else (bif Nat.ble ci 2 then [228, 230, 232, 234, 236, 238, 240, 242, 244, 246] else [108])) else (bif Nat.ble ci 5 then (bif Nat.ble ci 4 then [260] else [120, 122, 124, 126, 128]) else (bif Nat.ble ci 6 then [318, 320, 322, 324, 326, 328, 330, 332, 334, 336, 338] else [953, 955, 957, 959, 961, 963, 965, 967, 969, 971, 973, 975, 977, 979, 981, 983, 985, 987, 989, 991, 993, 995, 997, 999, 1001, 1003, 1005, 1007, 1009, 1011, 1013, 1015])))
set_option maxRecDepth 100000 in
theorem jL_all : (List.range 8).all (fun ci => (List.range (jNF ci)).all (fun k => jAt ((jLW ci).getD k 0) (u_lay (jcn ci) (jT ci) k))) = true := by decide +kernel
theorem jL_ok {ci : Nat} (h : ci < 8) : ∀ w ∈ u_ws (jcn ci) (jT ci) (jNF ci), w ∈ jTb := by
  intro w hw
  obtain ⟨k, hk, rfl⟩ := List.mem_map.mp hw
  exact jAt_in (List.all_eq_true.mp (List.all_eq_true.mp jL_all ci (List.mem_range.mpr h)) k hk)
theorem jcl_ok {ci : Nat} (h : ci < 8) : vwCl[ci]? = some (jcn ci, jT ci, jNF ci) := by
  rcases (show ci = 0 ∨ ci = 1 ∨ ci = 2 ∨ ci = 3 ∨ ci = 4 ∨ ci = 5 ∨ ci = 6 ∨ ci = 7 by omega) with rfl | rfl | rfl | rfl | rfl | rfl | rfl | rfl <;> rfl
theorem jty_ok {ci : Nat} (h : ci < 8) : ∀ k, k < jNF ci → parseFieldDescriptor (jT ci k).2.2.1 = some (jTy ci k) := by
  rcases (show ci = 0 ∨ ci = 1 ∨ ci = 2 ∨ ci = 3 ∨ ci = 4 ∨ ci = 5 ∨ ci = 6 ∨ ci = 7 by omega) with rfl | rfl | rfl | rfl | rfl | rfl | rfl | rfl
  · exact tyX0_ok
  · exact tyX1_ok
  · exact tyX2_ok
  · exact tyX3_ok
  · exact tyX4_ok
  · exact tyX5_ok
  · exact tyX6_ok
  · exact tyX7_ok
theorem jnm_ok {ci : Nat} (h : ci < 8) : ∀ a, a < jNF ci → ∀ b, b < jNF ci → a ≠ b → (jT ci a).2.1 ≠ (jT ci b).2.1 := by
  rcases (show ci = 0 ∨ ci = 1 ∨ ci = 2 ∨ ci = 3 ∨ ci = 4 ∨ ci = 5 ∨ ci = 6 ∨ ci = 7 by omega) with rfl | rfl | rfl | rfl | rfl | rfl | rfl | rfl
  · exact nmX0
  · exact nmX1
  · exact nmX2
  · exact nmX3
  · exact nmX4
  · exact nmX5
  · exact nmX6
  · exact nmX7
/-- a field's type: int where no reference, else a class or an array; the field's class is the class -/
theorem jtyp_all : (List.range 8).all (fun ci => (List.range (jNF ci)).all (fun k => (bif jRf ci k then (match jTy ci k with | .object _ => true | .array _ => true | _ => false) else decide (jTy ci k = .int)) && decide ((jT ci k).1 = jcn ci))) = true := by decide +kernel
theorem jtyp_ok {ci k : Nat} (h : ci < 8) (hk : k < jNF ci) : (jRf ci k = false → jTy ci k = .int) ∧ (jRf ci k = true → (∃ n, jTy ci k = .object n) ∨ ∃ t, jTy ci k = .array t) ∧ (jT ci k).1 = jcn ci := by
  have h3 := List.all_eq_true.mp (List.all_eq_true.mp jtyp_all ci (List.mem_range.mpr h)) k (List.mem_range.mpr hk)
  rw [Bool.and_eq_true] at h3
  refine ⟨fun q => ?_, fun q => ?_, of_decide_eq_true h3.2⟩
  · rw [q] at h3; exact of_decide_eq_true h3.1
  · rw [q] at h3
    have h4 := h3.1
    simp only [cond_true] at h4
    split at h4
    · exact Or.inl ⟨_, by assumption⟩
    · exact Or.inr ⟨_, by assumption⟩
    · cases h4
