/-! PURE: comets: what is cancelled, who sees what, the latest year -/
def oi (l : Option Nat) : Int32 := match l with
  | none => -1
  | some j => N j
def ahd (cy : Nat → Int32) (a b : Nat) : Bool := decide (cy a < cy b) || (decide (cy a = cy b) && decide (a < b))
def latF (ck cy : Nat → Int32) (th : Nat → Bool) (e c : Nat) (l : Option Nat) : Option Nat := if (th c && !(decide (ck c = 3)) && ahd cy c e && (match l with | none => true | some j => ahd cy j c)) = true then some c else l
def lat (k : Nat) (ck cy : Nat → Int32) (th : Nat → Bool) (e : Nat) : Option Nat := itr (latF ck cy th e) 0 k none
def cancF (k : Nat) (ck cy : Nat → Int32) (th : Nat → Bool) (c e : Nat) (b : Bool) : Bool := b || (th e && decide (ck e = 3) && decide (lat k ck cy th e = some c))
def canc (k : Nat) (ck cy : Nat → Int32) (th : Nat → Bool) (c : Nat) : Bool := itr (cancF k ck cy th c) 0 k false
def see (kind : Int32) (seer : Bool) : Bool := decide (kind = 0) || (decide (kind = 1) && seer) || (decide (kind = 2) && !seer)
def sees (k : Nat) (ck cy : Nat → Int32) (th : Nat → Bool) (seer : Bool) (c : Nat) : Bool := th c && see (ck c) seer && !(canc k ck cy th c)
def latyF (S : Nat → Bool) (cy : Nat → Int32) (y : Int32) (c : Nat) (l : Int32) : Int32 := if (S c && !(decide (y < cy c)) && decide (l < cy c)) = true then cy c else l
def laty (k : Nat) (S : Nat → Bool) (cy : Nat → Int32) (y : Int32) : Int32 := itr (latyF S cy y) 0 k (-1)
def tt (_ : Nat) : Bool := true
theorem latF_or {ck cy : Nat → Int32} {th : Nat → Bool} {e c : Nat} {l : Option Nat} : latF ck cy th e c l = some c ∨ latF ck cy th e c l = l := (Classical.em _).elim (fun h => Or.inl (if_pos h)) (fun h => Or.inr (if_neg h))
theorem latF_lt {ck cy : Nat → Int32} {th : Nat → Bool} {e c : Nat} {l : Option Nat} (hl : ∀ j, l = some j → j < c) : ∀ j, latF ck cy th e c l = some j → j < c + 1 := by
  intro j hj
  rcases latF_or (ck := ck) (cy := cy) (th := th) (e := e) (c := c) (l := l) with h | h
  · rw [h] at hj; cases hj; omega
  · rw [h] at hj; have := hl j hj; omega
theorem lat_lt {k : Nat} {ck cy : Nat → Int32} {th : Nat → Bool} {e j : Nat} (h : lat k ck cy th e = some j) : j < k := by
  have q := itr_inv (f := latF ck cy th e) (P := fun c l => ∀ j, l = some j → j < c) k 0 none (fun c l _ _ hl => latF_lt hl) (fun j hj => by cases hj)
  have := q j h; omega
/-- class: a country's rows -/
def Cok (o : Nat) : Prop := Row (jpt o 3) (o + 2) 9 ∧ Row (jpt o 4) (o + 4) 9 ∧ Row (jpt o 5) (o + 6) 9 ∧ Row (jpt o 6) (o + 8) 9 ∧ Row (jpt o 7) (o + 10) 9 ∧ Row (jpt o 8) (o + 12) 6 ∧ Row (jpt o 9) (o + 14) 6
theorem cmp_ok {x y : Int32} : f206 x y = some (if x < y then -1 else if x = y then 0 else 1) := by
  unfold f206
  split
  · rfl
  · split <;> rfl
theorem c_ahead {o a b : Nat} {M : JM} (ho : Cok o) (ha : a < 6) (hb : b < 6) : f12 M o (N a) (N b) = some (b2 (ahd (M (o + 14)) a b)) := by
  unfold f12
  rw [get_in ho.2.2.2.2.2.2 ha]
  show (f42 M (jpt o 9) (N b)).bind _ = _
  rw [get_in ho.2.2.2.2.2.2 hb]
  show (f206 _ _).bind _ = _
  rw [cmp_ok]
  show (if (if M (o + 14) a < M (o + 14) b then (-1 : Int32) else if M (o + 14) a = M (o + 14) b then 0 else 1) < 0 then _ else _) = _
  unfold ahd
  by_cases h1 : M (o + 14) a < M (o + 14) b
  · rw [if_pos h1, decide_eq_true h1]; rfl
  · rw [if_neg h1, decide_eq_false h1]
    by_cases h2 : M (o + 14) a = M (o + 14) b
    · rw [if_pos h2, decide_eq_true h2, if_neg (by decide), if_pos rfl]
      by_cases h3 : a < b
      · rw [if_pos ((N_lt (by omega) (by omega)).mpr h3), decide_eq_true h3]; rfl
      · rw [if_neg (fun z => h3 ((N_lt (by omega) (by omega)).mp z)), decide_eq_false h3]; rfl
    · rw [if_neg h2, decide_eq_false h2, if_neg (by decide), if_neg (by decide)]; rfl
theorem c_lat {o k e : Nat} {M : JM} (ho : Cok o) (hk : M o 1 = N k) (hk6 : k ≤ 6) (he : e < 6) : f11 M o (N e) = some (oi (lat k (M (o + 12)) (M (o + 14)) tt e)) := by
  unfold f11
  refine (loop_run (F := fun n c l => f11_4 M n o (N e) (oi l) (N c)) (K := k) (f := latF (M (o + 12)) (M (o + 14)) tt e) (out := fun l => some (oi l)) (P := fun c l => ∀ j, l = some j → j < c) (fun n c l hc hl => ⟨?_, latF_lt hl⟩) (fun n l hl => ?_) k 0 none 1000 (by omega) (by omega) (fun j hj => by cases hj)).1
  · show f11_4 M (n + 1) o (N e) (oi l) (N c) = f11_4 M n o (N e) (oi (latF (M (o + 12)) (M (o + 14)) tt e c l)) (N (c + 1))
    rw [f11_4, hk, if_pos ((N_lt (by omega) (by omega)).mpr hc), get_in ho.2.2.2.2.2.1 (show c < 6 by omega), c_ahead ho (show c < 6 by omega) he]
    unfold latF f11_49 f11_47 f11_49
    simp only [Option.bind_some, N_succ, tt, Bool.true_and, b2_0]
    by_cases h1 : M (o + 12) c = 3
    · rw [if_pos h1, decide_eq_true h1]; rfl
    · rw [if_neg h1, decide_eq_false h1]
      cases h2 : ahd (M (o + 14)) c e with
      | false => rfl
      | true =>
        cases l with
        | none => rfl
        | some j =>
          have hj := hl j rfl
          show (if true = false then _ else if N j = -1 then _ else (f12 M o (N j) (N c)).bind _) = _
          rw [if_neg (by decide), if_neg (N_m1 (by omega)), c_ahead ho (by omega) (by omega)]
          simp only [Option.bind_some, b2_0, Bool.not_false, Bool.true_and]
          cases h3 : ahd (M (o + 14)) j c <;> rfl
  · show f11_4 M (n + 1) o (N e) (oi l) (N k) = some (oi l)
    rw [f11_4, hk, if_neg (fun q => Nat.lt_irrefl _ ((N_lt (by omega) (by omega)).mp q))]
