/-! THE CONSTRUCTORS, and the law from its loop on -/
def jV0 : JM := fun o k => bif Nat.beq o 4 then (bif Nat.beq k 2 then (2 : Int32) else 0) else bif Nat.beq o 19 then (bif Nat.beq k 2 then (2 : Int32) else 0) else bif Nat.beq o 198 then (bif Nat.beq k 16 then (2 : Int32) else bif Nat.beq k 22 then (-1 : Int32) else 0) else bif Nat.beq o 199 then (bif Nat.beq k 11 then (-1 : Int32) else bif Nat.beq k 12 then (-1 : Int32) else bif Nat.beq k 13 then (-1 : Int32) else bif Nat.beq k 14 then (-1 : Int32) else bif Nat.beq k 15 then (-1 : Int32) else bif Nat.beq k 16 then (-1 : Int32) else bif Nat.beq k 17 then (-1 : Int32) else bif Nat.beq k 18 then (-1 : Int32) else bif Nat.beq k 19 then (-1 : Int32) else 0) else 0
theorem jro_xs {l l2 : List Int32} {a : Nat} (h : jro none a = some l2) : jro (some l) a = some l2 := by
  unfold jro at h ⊢
  cases ha : Nat.beq a 1000000 with
  | true => rw [ha] at h; cases h
  | false => rw [ha] at h; exact h
theorem jsH_xs {l : List Int32} {ins : Instr} {mi : Nat} {c c' : JC} (h : jsH none ins mi c = some c') : jsH (some l) ins mi c = some c' := by
  obtain ⟨pc, lv, st, E, M⟩ := c
  cases ins with
  | iaload =>
    rcases st with _ | ⟨v1, st⟩
    · cases h
    · rcases st with _ | ⟨v2, r⟩
      · cases v1 <;> cases h
      · cases v1 with
        | int i =>
          cases v2 with
          | ref a =>
            unfold jsH at h ⊢
            simp only at h ⊢
            cases h8 : jok E a 8 with
            | true => rw [h8] at h; exact h
            | false =>
              rw [h8] at h
              simp only [cond_false] at h ⊢
              cases hq : jro none a with
              | none => rw [hq] at h; cases h
              | some l2 => rw [hq] at h; rw [jro_xs hq]; exact h
          | _ => cases h
        | _ => cases h
  | arraylength =>
    rcases st with _ | ⟨v1, r⟩
    · cases h
    · cases v1 with
      | ref a =>
        unfold jsH at h ⊢
        simp only at h ⊢
        cases h8 : (jok E a 8 || jok E a 9 || jok E a 10) with
        | true => rw [h8] at h; exact h
        | false =>
          rw [h8] at h
          simp only [cond_false] at h ⊢
          cases hq : jro none a with
          | some l2 => rw [hq] at h; rw [jro_xs hq]; exact h
          | none =>
            rw [hq] at h
            simp only at h
            cases hb : jrb a with
            | none => rw [hb] at h; cases h
            | some l2 =>
              rw [hb] at h
              have ha : jro (some l) a = none := by
                unfold jro at hq ⊢
                cases h0 : Nat.beq a 1000000 with
                | true =>
                  rw [Nat.eq_of_beq_eq_true h0] at hb
                  cases hb
                | false => rw [h0] at hq; exact hq
              rw [ha]
              simp only
              exact h
      | _ => cases h
  | _ => exact h
theorem jstep_xs {l : List Int32} {mi : Nat} {c : JC} {q : JC ⊕ ((Option Value × JH) ⊕ (Nat × List Value × JC))} (h : jstep none mi c = some q) : jstep (some l) mi c = some q := by
  obtain ⟨ins, len, hp, r⟩ := jstep_cases h
  rcases r with ⟨c3, e, r⟩ | ⟨c3, e, r⟩ | ⟨c3, e, r⟩ | ⟨c3, e, r⟩ | ⟨r2, e, r⟩ | ⟨mj, as, c3, e, r⟩
  · rw [e]; exact jstep_A hp r
  · rw [e]; exact jstep_B hp r
  · rw [e]; exact jstep_H hp (jsH_xs r)
  · rw [e]
    unfold jstep
    rw [hp]
    simp only
    rw [(jsA_noneC (xs := some l) r).1, (jsA_noneC (xs := some l) r).2.1, (jsA_noneC (xs := some l) r).2.2, r]
  · rw [e]; exact jstep_R hp r
  · rw [e]; exact jstep_C hp r
theorem jrun_xs {l : List Int32} : ∀ (n d mi : Nat) (c : JC) (r : Option Value × JH), jrun none n d mi c = some r → jrun (some l) n d mi c = some r
  | 0, _, _, _, _, h => by cases h
  | n + 1, d, mi, c, r, h => by
    unfold jrun at h ⊢
    split at h
    · cases h
    · rename_i hj
      rw [jstep_xs hj]
      exact jrun_xs n d mi _ r h
    · rename_i hj
      rw [jstep_xs hj]
      exact h
    · rename_i hj
      rw [jstep_xs hj]
      split at h
      · cases h
      · split at h
        · cases h
        · rename_i v h' hr
          simp only
          rw [jrun_xs n _ _ _ _ hr]
          exact jrun_xs n _ mi _ r h
/-- so many steps of the law, its calls run out -/
def jPre : Nat → JC → Option JC
  | 0, c => some c
  | n + 1, c => match jstep none 217 c with
    | some (.inl c') => jPre n c'
    | some (.inr (.inr (mj, as, c'))) => match jrun none 5000 20 mj (0, lv_args 0 as, [], c'.2.2.2) with
      | some (v, h') => jPre n (c'.1, c'.2.1, v.toList ++ c'.2.2.1, h')
      | none => none
    | _ => none
theorem jPre_ev {l : List Int32} {r : Option Value × JH} : ∀ (n : Nat) {c c' : JC}, jPre n c = some c' → JEv (some l) 21 217 c' r → JEv (some l) 21 217 c r
  | 0, c, c', h, g => by cases h; exact g
  | n + 1, c, c', h, g => by
    unfold jPre at h
    split at h
    · rename_i hj
      exact JEv.step (jstep_xs hj) (jPre_ev n h g)
    · rename_i hj
      split at h
      · rename_i v h' hr
        exact JEv.call (jstep_xs hj) ⟨5000, jrun_xs _ _ _ _ _ hr⟩ (jPre_ev n h g)
      · cases h
    · cases h
def jpok (c : JC) : Bool := match c with
  | (pc, [(i3, .int v3), (i2, .ref v2), (i1, .ref v1), (i0, .ref v0)], [], (E, M)) => Nat.beq pc 18 && Nat.beq i3 3 && Nat.beq i2 2 && Nat.beq i1 1 && Nat.beq i0 0 && decide (v3 = 0) && Nat.beq v2 198 && Nat.beq v1 0 && Nat.beq v0 1000000 && decide (E = jE0) && (List.range 216).all (fun o => (List.range (jlen jE0 o)).all (fun k => decide (M o k = jV0 o k)))
  | _ => false
set_option maxRecDepth 1000000 in
set_option maxHeartbeats 0 in
theorem jPre_all : (match jPre 10 jinit with | some c => jpok c | none => false) = true := by decide +kernel
