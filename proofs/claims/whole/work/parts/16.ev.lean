/-! RUNS OF THE PLAIN MACHINE, rule by rule. JG A S c: whatever the function A answers, the run from c ends so (S x r: with x the run's end is r) -/
def JEv (xs : Option (List Int32)) (d mi : Nat) (c : JC) (r : Option Value × JH) : Prop := ∃ n, jrun xs n d mi c = some r
theorem jrun_le {xs : Option (List Int32)} : ∀ (n k d mi : Nat) (c : JC) (r : Option Value × JH), jrun xs n d mi c = some r → jrun xs (n + k) d mi c = some r
  | 0, _, _, _, _, _, h => by cases h
  | n + 1, k, d, mi, c, r, h => by
    rw [Nat.succ_add]
    unfold jrun at h ⊢
    split at h
    · cases h
    · exact jrun_le n k d mi _ r h
    · exact h
    · split at h
      · cases h
      · split at h
        · cases h
        · rename_i v h' hr
          rw [jrun_le n k _ _ _ _ hr]
          exact jrun_le n k _ mi _ r h
theorem jrun_dp {xs : Option (List Int32)} : ∀ (n d k mi : Nat) (c : JC) (r : Option Value × JH), jrun xs n d mi c = some r → jrun xs n (d + k) mi c = some r
  | 0, _, _, _, _, _, h => by cases h
  | n + 1, d, k, mi, c, r, h => by
    unfold jrun at h ⊢
    split at h
    · cases h
    · exact jrun_dp n d k mi _ r h
    · exact h
    · split at h
      · cases h
      · rename_i d'
        rw [Nat.succ_add]
        split at h
        · cases h
        · rename_i v h' hr
          simp only
          rw [jrun_dp n _ k _ _ _ hr]
          simp only
          have q := jrun_dp n _ k mi _ r h
          rw [Nat.succ_add] at q
          exact q
section EV
variable {xs : Option (List Int32)} {d mi : Nat} {c c' : JC} {r : Option Value × JH}
theorem JEv.dp {d2 : Nat} (h : JEv xs d mi c r) (hd : d ≤ d2) : JEv xs d2 mi c r := by
  obtain ⟨n, h⟩ := h
  obtain ⟨k, rfl⟩ := Nat.le.dest hd
  exact ⟨n, jrun_dp n d k mi c r h⟩
theorem JEv.step (hs : jstep xs mi c = some (.inl c')) (h : JEv xs d mi c' r) : JEv xs d mi c r := by
  obtain ⟨n, h⟩ := h
  exact ⟨n + 1, by unfold jrun; rw [hs]; exact h⟩
theorem JEv.ret (hs : jstep xs mi c = some (.inr (.inl r))) : JEv xs d mi c r := ⟨1, by unfold jrun; rw [hs]⟩
theorem JEv.call {mj : Nat} {as : List Value} {v : Option Value} {h' : JH} (hs : jstep xs mi c = some (.inr (.inr (mj, as, c')))) (h1 : JEv xs d mj (0, lv_args 0 as, [], c'.2.2.2) (v, h')) (h2 : JEv xs (d + 1) mi (c'.1, c'.2.1, v.toList ++ c'.2.2.1, h') r) : JEv xs (d + 1) mi c r := by
  obtain ⟨n1, h1⟩ := h1
  obtain ⟨n2, h2⟩ := h2
  refine ⟨n1 + n2 + 1, ?_⟩
  unfold jrun
  rw [hs]
  simp only
  rw [jrun_le n1 n2 _ _ _ _ h1]
  have q := jrun_le n2 n1 _ _ _ _ h2
  rw [Nat.add_comm] at q
  exact q
end EV
/-- steps that touch locals and stack alone -/
def jpure (mi : Nat) : Nat → JC → Option JC
  | 0, c => some c
  | k + 1, c => match jP mi c.1 with
    | none => none
    | some q => match jsA q.1 mi c with
      | none => none
      | some c' => jpure mi k c'
def JG {α : Type} (xs : Option (List Int32)) (d mi : Nat) (A : Option α) (S : α → Option Value × JH → Prop) (c : JC) : Prop := ∀ x, A = some x → ∀ r, S x r → JEv xs d mi c r
theorem jstep_A {xs : Option (List Int32)} {mi : Nat} {c c' : JC} {ins : Instr} {len : Nat} (hp : jP mi c.1 = some (ins, len)) (h : jsA ins mi c = some c') : jstep xs mi c = some (.inl c') := by
  unfold jstep
  rw [hp]
  simp only
  rw [h]
theorem jsA_none {ins : Instr} {mi : Nat} {c c' : JC} (h : jsB ins c = some c') : jsA ins mi c = none := by
  unfold jsB at h
  split at h <;> first | rfl | cases h
theorem jstep_B {xs : Option (List Int32)} {mi : Nat} {c c' : JC} {ins : Instr} {len : Nat} (hp : jP mi c.1 = some (ins, len)) (h : jsB ins c = some c') : jstep xs mi c = some (.inl c') := by
  unfold jstep
  rw [hp]
  simp only
  rw [jsA_none h, h]
theorem jsA_noneH {xs : Option (List Int32)} {ins : Instr} {mi : Nat} {c c' : JC} (h : jsH xs ins mi c = some c') : jsA ins mi c = none ∧ jsB ins c = none := by
  unfold jsH at h
  split at h <;> first | exact ⟨rfl, rfl⟩ | cases h
theorem jstep_H {xs : Option (List Int32)} {mi : Nat} {c c' : JC} {ins : Instr} {len : Nat} (hp : jP mi c.1 = some (ins, len)) (h : jsH xs ins mi c = some c') : jstep xs mi c = some (.inl c') := by
  unfold jstep
  rw [hp]
  simp only
  rw [(jsA_noneH h).1, (jsA_noneH h).2, h]
theorem jsA_noneC {xs : Option (List Int32)} {ins : Instr} {mi : Nat} {c : JC} {k : JK} (h : jsC ins mi c = some k) : jsA ins mi c = none ∧ jsB ins c = none ∧ jsH xs ins mi c = none := by
  unfold jsC at h
  split at h <;> first | exact ⟨rfl, rfl, rfl⟩ | cases h
theorem jstep_C {xs : Option (List Int32)} {mi : Nat} {c c' : JC} {ins : Instr} {len mj : Nat} {as : List Value} (hp : jP mi c.1 = some (ins, len)) (h : jsC ins mi c = some (.inr (mj, as, c'))) : jstep xs mi c = some (.inr (.inr (mj, as, c'))) := by
  unfold jstep
  rw [hp]
  simp only
  rw [(jsA_noneC (xs := xs) h).1, (jsA_noneC (xs := xs) h).2.1, (jsA_noneC (xs := xs) h).2.2, h]
theorem jsA_noneR {xs : Option (List Int32)} {ins : Instr} {mi : Nat} {c : JC} {k : Option Value × JH} (h : jsR ins mi c = some k) : jsA ins mi c = none ∧ jsB ins c = none ∧ jsH xs ins mi c = none ∧ jsC ins mi c = none := by
  unfold jsR at h
  split at h <;> first | exact ⟨rfl, rfl, rfl, rfl⟩ | cases h
theorem jstep_R {xs : Option (List Int32)} {mi : Nat} {c : JC} {ins : Instr} {len : Nat} {r : Option Value × JH} (hp : jP mi c.1 = some (ins, len)) (h : jsR ins mi c = some r) : jstep xs mi c = some (.inr (.inl r)) := by
  unfold jstep
  rw [hp]
  simp only
  rw [(jsA_noneR (xs := xs) h).1, (jsA_noneR (xs := xs) h).2.1, (jsA_noneR (xs := xs) h).2.2.1, (jsA_noneR (xs := xs) h).2.2.2, h]
/-- locals: fewer of them do -/
def jsub : JL → JL → Prop
  | [], _ => True
  | q :: r, l => jget l q.1 = some q.2 ∧ jsub r l
section G
variable {α β : Type} {xs : Option (List Int32)} {d mi : Nat} {A B : Option α} {S : α → Option Value × JH → Prop} {SB : β → Option Value × JH → Prop} {f : α → Option β} {c c' : JC} {pc : Nat} {lv : JL} {st : List Value} {h : JH} {E : List JE} {M : JM}
theorem g_none : JG xs d mi (none : Option α) S c := fun x hx => by cases hx
theorem g_step (hs : jstep xs mi c = some (.inl c')) (k : JG xs d mi A S c') : JG xs d mi A S c := fun x hx r hr => (k x hx r hr).step hs
theorem g_pure : ∀ (k : Nat) {c : JC}, jpure mi k c = some c' → JG xs d mi A S c' → JG xs d mi A S c
  | 0, c, hk, g => by cases hk; exact g
  | k + 1, c, hk, g => by
    unfold jpure at hk
    split at hk
    · cases hk
    · rename_i q hq
      split at hk
      · cases hk
      · rename_i c1 h1
        exact g_step (jstep_A (len := q.2) hq h1) (g_pure k hk g)
theorem g_bi {P : Prop} {dec : Decidable P} (g : JG xs d mi (if P then A.bind f else B.bind f) SB c) : JG xs d mi ((if P then A else B).bind f) SB c := by
  by_cases hP : P
  · rw [if_pos hP] at g ⊢; exact g
  · rw [if_neg hP] at g ⊢; exact g
theorem g_bb {γ : Type} {o : Option γ} {g : γ → Option α} (k : JG xs d mi (o.bind (fun x => (g x).bind f)) SB c) : JG xs d mi ((o.bind g).bind f) SB c := by
  rw [Option.bind_assoc]; exact k
theorem g_bs {v : α} (k : JG xs d mi (f v) SB c) : JG xs d mi ((some v).bind f) SB c := k
theorem g_bn : JG xs d mi ((none : Option α).bind f) SB c := fun x hx => by cases hx
theorem g_join (cJ : α → JC) (hJ : ∀ x, JG xs d mi (f x) SB (cJ x)) (hR : (∀ x, JG xs d mi (f x) SB (cJ x)) → JG xs d mi (A.bind f) SB c) : JG xs d mi (A.bind f) SB c := hR hJ
/-- the end of a method -/
theorem g_ret {v : α} {ins : Instr} {len : Nat} {r : Option Value × JH} (hp : jP mi pc = some (ins, len)) (hr : jsR ins mi (pc, lv, st, h) = some r) (hS : ∀ r', S v r' → r' = r) : JG xs d mi (some v) S (pc, lv, st, h) := by
  intro x hx r' hr'
  cases hx
  rw [hS r' hr']
  exact JEv.ret (jstep_R hp hr)
/-- the end of a loop: what comes behind it -/
theorem g_out {v : α} (hS : ∀ r, S v r → JEv xs d mi c r) : JG xs d mi (some v) S c := by
  intro x hx r hr
  cases hx
  exact hS r hr
theorem g_loop (cJ : α → JC) (hL : JG xs d mi A (fun x r => JEv xs d mi (cJ x) r) c) (hJ : ∀ x, JG xs d mi (f x) SB (cJ x)) : JG xs d mi (A.bind f) SB c := by
  intro y hy r hr
  cases hA : A with
  | none => rw [hA] at hy; cases hy
  | some x =>
    rw [hA] at hy
    exact hL x hA r (hJ x y hy r hr)
/-- a loop that may return -/
theorem g_loopR {ρ : Type} {A : Option (ρ ⊕ α)} {g : ρ → Option β} (cJ : α → JC) (res : ρ → Option Value × JH → Prop) (hL : JG xs d mi A (fun x r => match x with | .inl q => res q r | .inr v => JEv xs d mi (cJ v) r) c) (hJ : ∀ x, JG xs d mi (f x) SB (cJ x)) (hg : ∀ q y, g q = some y → ∀ r, SB y r → res q r) : JG xs d mi (A.bind (fun x => match x with | .inl q => g q | .inr v => f v)) SB c := by
  intro y hy r hr
  cases hA : A with
  | none => rw [hA] at hy; cases hy
  | some x =>
    rw [hA] at hy
    cases x with
    | inl q => exact hL _ hA r (hg q y hy r hr)
    | inr v => exact hL _ hA r (hJ v y hy r hr)
/-- calls -/
theorem g_call {D mj : Nat} {as : List Value} {ins : Instr} {len : Nat} (hp : jP mi c.1 = some (ins, len)) (hc : jsC ins mi c = some (.inr (mj, as, c'))) (V : α → Option Value) (H' : α → JH) (hM : JG xs D mj A (fun x r => r = (V x, H' x)) (0, lv_args 0 as, [], c'.2.2.2)) (hD : D ≤ d)
    (k : ∀ x, JG xs (d + 1) mi (f x) SB (c'.1, c'.2.1, (V x).toList ++ c'.2.2.1, H' x)) : JG xs (d + 1) mi (A.bind f) SB c := by
  intro y hy r hr
  cases hA : A with
  | none => rw [hA] at hy; cases hy
  | some x =>
    rw [hA] at hy
    exact JEv.call (jstep_C hp hc) ((hM x hA _ rfl).dp hD) (k x y hy r hr)
end G
