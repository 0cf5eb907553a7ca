/-! PURE: a clause, read by the class -/
def clT (L : Nat → Int32) (t p n k : Nat) : Sum Nat (Nat × Int32 × Int32 × Int32 × Nat) := match wdT L (skT L t p) (weT L t (skT L t p)) n k with
  | none => .inl (skT L t p)
  | some w => if w < 7 then (match rdT L t (weT L t (skT L t p)) 99 (-1) with
      | none => .inl (skT L t (weT L t (skT L t p)))
      | some (v, q) => .inr (w, v, 0, 0, q))
    else if w < 9 then (match rdT L t (weT L t (skT L t p)) (N n - 1) (-1) with
      | none => .inl (skT L t (weT L t (skT L t p)))
      | some (a, q) => match rdT L t q (a - 1) (-1) with
        | none => .inl (skT L t q)
        | some (b, q2) => if w = 8 then .inr (w, a, b, -1, q2) else match rdT L t q2 (a - 1) b with
          | none => .inl (skT L t q2)
          | some (c, q3) => .inr (w, a, b, c, q3))
    else if w = 9 then (match rdT L t (weT L t (skT L t p)) (N n - 1) (-1) with
      | none => .inl (skT L t (weT L t (skT L t p)))
      | some (a, q) => match rdT L t q 99 (-1) with
        | none => .inl (skT L t q)
        | some (b, q2) => .inr (w, a, b, 0, q2))
    else if w = 10 then (match rdT L t (weT L t (skT L t p)) 6 (-1) with
      | none => .inl (skT L t (weT L t (skT L t p)))
      | some (v, q) => .inr (w, v, 0, 0, q))
    else .inr (w, 0, 0, 0, weT L t (skT L t p))
def aon (D : JM) (n : Nat) (kd y : Int32) : JM := fun o j => if o = 19 then (if j = 0 then N (n + 1) else if j = 10 then (if kd = 1 then D 19 10 ||| B n else D 19 10) else D 19 j) else if o = 21 then (if j = n then kd else D 21 j) else if o = 23 then (if j = n then y else D 23 j) else if o = 25 then (if j = n then -1 else D 25 j) else if o = 27 then (if j = n then -1 else D 27 j) else if o = 29 then (if j = n then 0 else D 29 j) else D o j
def stc (w : Nat) (a b c : Int32) (n k : Nat) (D : JM) : JM := if w < 4 then jup (jup (jup D 31 k (N w)) 33 k a) 19 1 (N (k + 1)) else if w < 7 then aon D n (N (w - 4)) a else if w < 9 then jup (jup D 25 a.toNatClampNeg b) 27 a.toNatClampNeg c else if w = 9 then jup D 29 a.toNatClampNeg b else if w = 10 then jup D 19 2 a else if w = 11 then jup (jup (jup (jup D 19 0 0) 19 10 0) 19 2 2) 19 1 0 else jup D 19 1 0
def DrE (X D : JM) : Prop := ∀ o, 19 ≤ o ∧ o ≤ 33 → X o = D o
theorem dre_jup {X D : JM} {o k : Nat} {v : Int32} (h : DrE X D) : DrE (jup X o k v) (jup D o k v) := fun a ha => by
  funext b
  rw [jup_at, jup_at, h a ha]
theorem dre_txt {X D : JM} {j : Nat} {v : Int32} (h : DrE X D) : DrE (jup X 1 j v) D := fun a ha => by rw [jup_o (by omega)]; exact h a ha
theorem c_addcomet {X : JM} {k : Nat} {x y : Int32} (h1 : X 19 1 = N k) (hk : k < 6) : f8 19 x y X = some (jup (jup (jup X 31 k x) 33 k y) 19 1 (N (k + 1))) := by
  unfold f8
  rw [h1, set_in cok_19.2.2.2.2.2.1 hk, Option.bind_some, jup_o (by decide), h1, set_in cok_19.2.2.2.2.2.2 hk, Option.bind_some, jup_o (by decide), jup_o (by decide), h1, N_succ]
  rfl
theorem c_addone2 {X D : JM} {n : Nat} {kd y : Int32} (hD : DrE X D) (h0 : X 19 0 = N n) (hn : n < 9) : ∃ Z, f6 19 kd y X = some (N n, Z) ∧ DrE Z (aon D n kd y) ∧ (∀ o, ¬ (19 ≤ o ∧ o ≤ 33) → Z o = X o) ∧ Z 19 1 = X 19 1 := by
  obtain ⟨Z, e, z0, z21, z23, z25, z27, z29, z10, z19, zo⟩ := c_addone (kd := kd) (y := y) h0 hn
  refine ⟨Z, e, fun o ho => ?_, fun o ho => zo o (by omega) (by omega) (by omega) (by omega) (by omega) (by omega), z19 1 (by omega) (by omega)⟩
  have d : ∀ q, 19 ≤ q ∧ q ≤ 33 → X q = D q := hD
  funext j
  show Z o j = (if o = 19 then (if j = 0 then N (n + 1) else if j = 10 then (if kd = 1 then D 19 10 ||| B n else D 19 10) else D 19 j) else if o = 21 then (if j = n then kd else D 21 j) else if o = 23 then (if j = n then y else D 23 j) else if o = 25 then (if j = n then -1 else D 25 j) else if o = 27 then (if j = n then -1 else D 27 j) else if o = 29 then (if j = n then 0 else D 29 j) else D o j)
  by_cases e19 : o = 19
  · subst e19
    rw [if_pos rfl]
    by_cases j0 : j = 0
    · rw [if_pos j0, j0, z0]
    · rw [if_neg j0]
      by_cases j10 : j = 10
      · rw [if_pos j10, j10, z10, d 19 (by omega)]
      · rw [if_neg j10, z19 j j0 j10, d 19 (by omega)]
  · rw [if_neg e19]
    by_cases e21 : o = 21
    · subst e21; rw [if_pos rfl, z21, d 21 (by omega)]
    · rw [if_neg e21]
      by_cases e23 : o = 23
      · subst e23; rw [if_pos rfl, z23, d 23 (by omega)]
      · rw [if_neg e23]
        by_cases e25 : o = 25
        · subst e25; rw [if_pos rfl, z25, d 25 (by omega)]
        · rw [if_neg e25]
          by_cases e27 : o = 27
          · subst e27; rw [if_pos rfl, z27, d 27 (by omega)]
          · rw [if_neg e27]
            by_cases e29 : o = 29
            · subst e29; rw [if_pos rfl, z29, d 29 (by omega)]
            · rw [if_neg e29, zo o e19 e21 e23 e25 e27 e29, d o ho]
section CL
variable {L : Nat → Int32} {t : Nat} {xs : Option (List Int32)}
/-- what is left alone beside the place, the fault and the draft -/
def Oth (X Y : JM) : Prop := (∀ o, o ≠ 1 → ¬ (19 ≤ o ∧ o ≤ 33) → Y o = X o) ∧ ∀ j, j ≠ 2 → j ≠ 3 → Y 1 j = X 1 j
theorem oth_refl {X : JM} : Oth X X := ⟨fun _ _ _ => rfl, fun _ _ _ => rfl⟩
theorem oth_tr {X Y Z : JM} (h : Oth X Y) (g : Oth Y Z) : Oth X Z := ⟨fun o a b => (g.1 o a b).trans (h.1 o a b), fun j a b => (g.2 j a b).trans (h.2 j a b)⟩
theorem oth_p {X Y : JM} {v : Int32} (h : Oth X Y) : Oth X (jup Y 1 2 v) := ⟨fun o a b => by rw [jup_o a]; exact h.1 o a b, fun j a b => by rw [jup_nk (by omega)]; exact h.2 j a b⟩
theorem oth_f {X Y : JM} {v : Int32} (h : Oth X Y) : Oth X (jup Y 1 3 v) := ⟨fun o a b => by rw [jup_o a]; exact h.1 o a b, fun j a b => by rw [jup_nk (by omega)]; exact h.2 j a b⟩
theorem oth_d {X Y : JM} {o k : Nat} {v : Int32} (h : Oth X Y) (ho : 19 ≤ o ∧ o ≤ 33) : Oth X (jup Y o k v) := ⟨fun a b c => by rw [jup_o (by omega)]; exact h.1 a b c, fun j a b => by rw [jup_o (by omega)]; exact h.2 j a b⟩
theorem txc_oth {X Y : JM} (h : TxC X L t) (g : Oth X Y) : TxC Y L t := ⟨by rw [g.2 1 (by omega) (by omega)]; exact h.1, h.2.1, fun i hi => by rw [g.1 3 (by omega) (by omega)]; exact h.2.2 i hi⟩
/-- a fault stands: nothing more is read -/
theorem c_numf {X : JM} {most unl : Int32} {s : Nat} (h3 : X 1 3 = N s) (hs : s ≤ 160) : f64 1 most unl X = some (-1, X) := by
  unfold f64
  rw [h3, if_neg (N_m1 (by omega))]
def Bad (t : Nat) (X Y : JM) (fp : Nat) : Prop := Oth X Y ∧ Y 1 3 = N fp ∧ (∃ q, q ≤ t ∧ Y 1 2 = N q) ∧ ∃ k, k ≤ 6 ∧ Y 19 1 = N k
theorem c_kind (w : Nat) (hw : w < 4) : f57 (N w) = some (N w) := by
  rcases (show w = 0 ∨ w = 1 ∨ w = 2 ∨ w = 3 by omega) with rfl | rfl | rfl | rfl <;> rfl
theorem c_kind2 (w : Nat) (hw : 4 ≤ w) (h7 : w < 7) : f58 (N w) = some (N (w - 4)) := by
  rcases (show w = 4 ∨ w = 5 ∨ w = 6 by omega) with rfl | rfl | rfl <;> rfl
theorem set_neg1 {o : Nat} {v : Int32} {X : JM} : f43 o (-1 : Int32) v X = some X := set_neg (by decide)
theorem par_neg {u w : Int32} {X : JM} : f7 19 (-1 : Int32) u w X = some X := by
  unfold f7
  rw [set_neg1, Option.bind_some, set_neg1]
  rfl
theorem vl_num {s e : Nat} {most unl v : Int32} {p q : Nat} (h : rdT L t p most unl = some (v, q)) : ¬ most < v ∧ v ≠ unl := by
  unfold rdT badN at h
  split at h
  · cases h
  · rename_i hb
    cases h
    have hb2 := hb
    simp only [Bool.or_eq_true, decide_eq_true_iff, not_or] at hb2
    exact ⟨hb2.2.2.1, hb2.2.2.2⟩
end CL
