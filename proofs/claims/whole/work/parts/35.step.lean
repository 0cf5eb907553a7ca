/-! PURE: who is seen by both, which births count, one step from some -/
def jrw (M : JM) (a n : Nat) (g : Nat → Int32) : JM := fun o k => if o = a ∧ k < n then g k else M o k
theorem jrw_0 {M : JM} {a : Nat} {g : Nat → Int32} : jrw M a 0 g = M := by
  funext o k
  show (if o = a ∧ k < 0 then g k else M o k) = _
  rw [if_neg (by omega)]
theorem jrw_o {M : JM} {a n o : Nat} {g : Nat → Int32} (h : o ≠ a) : jrw M a n g o = M o := by
  funext k
  show (if o = a ∧ k < n then g k else M o k) = _
  rw [if_neg (fun q => h q.1)]
theorem jrw_in {M : JM} {a n k : Nat} {g : Nat → Int32} (h : k < n) : jrw M a n g a k = g k := by
  show (if a = a ∧ k < n then g k else M a k) = _
  rw [if_pos ⟨rfl, h⟩]
theorem jrw_succ {M : JM} {a n : Nat} {g : Nat → Int32} : jup (jrw M a n g) a n (g n) = jrw M a (n + 1) g := by
  funext o k
  rw [jup_at]
  show (if o = a ∧ k = n then g n else if o = a ∧ k < n then g k else M o k) = if o = a ∧ k < n + 1 then g k else M o k
  by_cases h1 : o = a ∧ k = n
  · rw [if_pos h1, if_pos ⟨h1.1, by omega⟩, h1.2]
  · rw [if_neg h1]
    by_cases h2 : o = a ∧ k < n
    · rw [if_pos h2, if_pos ⟨h2.1, by omega⟩]
    · rw [if_neg h2, if_neg (fun q => by omega)]
/-- what the reference lays: seen by both -/
def snB (k : Nat) (ck cy : Nat → Int32) (th : Nat → Bool) (sa sb : Bool) (c : Nat) : Bool := sees k ck cy th sa c && sees k ck cy th sb c
theorem m_lay {k a b : Nat} {M : JM} (hk : M 198 13 = N k) (hk6 : k ≤ 6) (ha : a < 9) (hb : b < 9) : f153 198 (N a) (N b) M = some (jrw M 210 k (fun c => b2 (snB k (M 208) (M 209) (thr (M 198 22)) (decide (M 203 a = 1)) (decide (M 203 b = 1)) c))) := by
  unfold f153
  have key := (loop_run (F := fun n c (_ : Unit) => f153_2 n 198 (N a) (N b) (N c) (jrw M 210 c (fun c => b2 (snB k (M 208) (M 209) (thr (M 198 22)) (decide (M 203 a = 1)) (decide (M 203 b = 1)) c)))) (K := k) (f := fun _ s => s) (out := fun _ => some (jrw M 210 k (fun c => b2 (snB k (M 208) (M 209) (thr (M 198 22)) (decide (M 203 a = 1)) (decide (M 203 b = 1)) c)))) (P := fun _ _ => True) (fun n c s hc _ => ⟨?_, trivial⟩) (fun n s _ => ?_) k 0 () 1000 (by omega) (by omega) trivial).1
  · rw [jrw_0] at key; exact key
  · show f153_2 (n + 1) 198 (N a) (N b) (N c) (jrw M 210 c _) = f153_2 n 198 (N a) (N b) (N (c + 1)) (jrw M 210 (c + 1) _)
    rw [← jrw_succ]
    generalize hX : jrw M 210 c (fun c => b2 (snB k (M 208) (M 209) (thr (M 198 22)) (decide (M 203 a = 1)) (decide (M 203 b = 1)) c)) = X
    have h198 : X 198 = M 198 := by rw [← hX]; exact jrw_o (by decide)
    have h208 : X 208 = M 208 := by rw [← hX]; exact jrw_o (by decide)
    have h209 : X 209 = M 209 := by rw [← hX]; exact jrw_o (by decide)
    have h203 : X 203 = M 203 := by rw [← hX]; exact jrw_o (by decide)
    have hkX : X 198 13 = N k := by rw [h198]; exact hk
    rw [f153_2, hkX, if_pos ((N_lt (by omega) (by omega)).mpr hc), m_sees hkX hk6 (show c < 6 by omega) ha, m_sees hkX hk6 (show c < 6 by omega) hb, h198, h208, h209, h203, mp_23]
    unfold f153_37 f153_38 snB
    simp only [Option.bind_some, b2_0, sa_210 (show c < 6 by omega), N_succ]
    cases sees k (M 208) (M 209) (thr (M 198 22)) (decide (M 203 a = 1)) c with
    | false => rfl
    | true => cases sees k (M 208) (M 209) (thr (M 198 22)) (decide (M 203 b = 1)) c <;> rfl
  · show f153_2 (n + 1) 198 (N a) (N b) (N k) (jrw M 210 k _) = _
    have h198 : jrw M 210 k (fun c => b2 (snB k (M 208) (M 209) (thr (M 198 22)) (decide (M 203 a = 1)) (decide (M 203 b = 1)) c)) 198 13 = N k := by rw [jrw_o (by decide)]; exact hk
    rw [f153_2, h198, if_neg (fun q => Nat.lt_irrefl _ ((N_lt (by omega) (by omega)).mp q))]
/-- a birth counts: it is not behind the latest year -/
def cntF (S : Nat → Bool) (cy : Nat → Int32) (z y : Int32) (c : Nat) (b : Bool) : Bool := b || (S c && !(decide (cy c < z)) && !(decide (y < cy c)))
theorem cnt_eq {S : Nat → Bool} {cy : Nat → Int32} {z y : Int32} (hz : ¬ z < 0) : ∀ k, itr (cntF S cy z y) 0 k false = !(decide (laty k S cy y < z)) ∧ (itr (cntF S cy z y) 0 k false = true → ¬ y < z)
  | 0 => by
    refine ⟨?_, fun h => by cases h⟩
    show false = !(decide ((-1 : Int32) < z))
    have : (-1 : Int32) < z := by
      rw [Int32.lt_iff_toInt_lt] at hz ⊢
      have h1 : ((-1 : Int32)).toInt = -1 := rfl
      have h0 : ((0 : Int32)).toInt = 0 := rfl
      omega
    rw [decide_eq_true this]; rfl
  | k + 1 => by
    obtain ⟨h1, h2⟩ := cnt_eq (S := S) (cy := cy) (y := y) hz k
    have e1 : itr (cntF S cy z y) 0 (k + 1) false = cntF S cy z y k (itr (cntF S cy z y) 0 k false) := by rw [itr_succ, Nat.zero_add]
    have e2 : laty (k + 1) S cy y = latyF S cy y k (laty k S cy y) := by unfold laty; rw [itr_succ, Nat.zero_add]
    rw [e1, e2]
    generalize itr (cntF S cy z y) 0 k false = b at h1 h2 ⊢
    generalize laty k S cy y = l at h1 ⊢
    unfold cntF latyF
    cases hS : S k with
    | false =>
      simp only [Bool.false_and, Bool.or_false]
      exact ⟨h1, h2⟩
    | true =>
      simp only [Bool.true_and]
      by_cases hy : y < cy k
      · simp only [decide_eq_true hy, Bool.not_true, Bool.and_false, Bool.or_false, Bool.false_and]
        exact ⟨h1, h2⟩
      · by_cases hc : cy k < z
        · simp only [decide_eq_true hc, Bool.not_true, Bool.false_and, Bool.or_false, decide_eq_false hy, Bool.not_false, Bool.true_and]
          refine ⟨?_, h2⟩
          by_cases hl : l < cy k
          · rw [if_pos (decide_eq_true hl), decide_eq_true hc]
            rw [h1]
            have : l < z := by rw [Int32.lt_iff_toInt_lt] at hl hc ⊢; omega
            rw [decide_eq_true this]
          · rw [if_neg (fun q => hl (of_decide_eq_true q))]; exact h1
        · simp only [decide_eq_false hc, decide_eq_false hy, Bool.not_false, Bool.true_and, Bool.or_true]
          refine ⟨?_, fun _ q => ?_⟩
          · by_cases hl : l < cy k
            · rw [if_pos (decide_eq_true hl), decide_eq_false hc]; rfl
            · rw [if_neg (fun q => hl (of_decide_eq_true q))]
              have : ¬ l < z := by rw [Int32.lt_iff_toInt_lt] at hl hc ⊢; omega
              rw [decide_eq_false this]; rfl
          · rw [Int32.lt_iff_toInt_lt] at hy hc q; omega
theorem m_counts {k p : Nat} {y : Int32} {M : JM} (hk : M 198 13 = N k) (hk6 : k ≤ 6) (hp : p < 9) (hz : ¬ M 204 p < 0) : f154 M 198 (N p) y = some (b2 (!(decide (laty k (fun c => !(decide (M 210 c = 0))) (M 209) y < M 204 p)))) := by
  obtain ⟨hc1, hc2⟩ := cnt_eq (S := fun c => !(decide (M 210 c = 0))) (cy := M 209) (z := M 204 p) (y := y) hz k
  rw [← hc1]
  unfold f154
  have key := (loop_run (F := fun n c (b : Bool) => f154_5 M n 198 (N p) y (b2 b) (N c)) (K := k) (f := cntF (fun c => !(decide (M 210 c = 0))) (M 209) (M 204 p) y) (out := fun b => some (b2 (b && !(decide (y < M 204 p))))) (P := fun _ _ => True) (fun n c b hc _ => ⟨?_, trivial⟩) (fun n b _ => ?_) k 0 false 1000 (by omega) (by omega) trivial).1
  · refine key.trans ?_
    cases hb : itr (cntF (fun c => !(decide (M 210 c = 0))) (M 209) (M 204 p) y) 0 k false with
    | false => rfl
    | true => rw [decide_eq_false (hc2 hb)]; rfl
  · show f154_5 M (n + 1) 198 (N p) y (b2 b) (N c) = f154_5 M n 198 (N p) y (b2 (cntF (fun c => !(decide (M 210 c = 0))) (M 209) (M 204 p) y c b)) (N (c + 1))
    rw [f154_5, hk, if_pos ((N_lt (by omega) (by omega)).mpr hc), mp_23, mp_15, mp_9, la_210 (show c < 6 by omega), la_209 (show c < 6 by omega), la_204 hp]
    unfold cntF f154_55 f154_51 f154_56
    simp only [Option.bind_some, N_succ, b2_0]
    cases b with
    | true => rfl
    | false =>
      simp only [Bool.false_or, if_true]
      by_cases h0 : M 210 c = 0
      · rw [if_pos h0, decide_eq_true h0]; rfl
      · rw [if_neg h0, decide_eq_false h0, in_ok]
        simp only [Option.bind_some, b2_0, Bool.not_false, Bool.true_and]
        cases (!(decide (M 209 c < M 204 p)) && !(decide (y < M 209 c))) <;> rfl
  · show f154_5 M (n + 1) 198 (N p) y (b2 b) (N k) = _
    rw [f154_5, hk, if_neg (fun q => Nat.lt_irrefl _ ((N_lt (by omega) (by omega)).mp q)), mp_9, la_204 hp]
    simp only [Option.bind_some, b2_0]
    cases b with
    | false => rfl
    | true =>
      by_cases h : y < M 204 p
      · rw [if_neg (by decide), if_pos h, decide_eq_true h]; rfl
      · rw [if_neg (by decide), if_neg h, decide_eq_false h]; rfl
/-- one step -/
def par (x : Int32) : Int32 := if x = -1 then 0 else (1 : Int32) <<< (x &&& (31 : Int32))
def okp (x : Int32) : Prop := x = -1 ∨ ∃ j, j < 9 ∧ x = N j
theorem par_ok {x : Int32} (h : okp x) : f100 x = some (par x) := by
  rcases h with rfl | ⟨j, hj, rfl⟩
  · exact bit_neg (by decide)
  · rw [bit_N (by omega)]
    unfold par
    rw [if_neg (N_m1 (by omega))]; rfl
def stF (bo mo fa : Nat → Int32) (lt s : Int32) (p : Nat) (r : Int32) : Int32 := if lt < bo p then r else (r ||| (if bt s p = true then par (mo p) ||| par (fa p) else 0)) ||| (if s &&& (par (mo p) ||| par (fa p)) = 0 then 0 else B p)
def stp (n : Nat) (bo mo fa : Nat → Int32) (lt s : Int32) : Int32 := itr (stF bo mo fa lt s) 0 n s
theorem c_step {o n : Nat} {lt s : Int32} {M : JM} (ho : Cok o) (hn : M o 0 = N n) (hn9 : n ≤ 9) (hp : ∀ p, p < n → okp (M (o + 6) p) ∧ okp (M (o + 8) p)) : f18 M o s lt = some (stp n (M (o + 4)) (M (o + 6)) (M (o + 8)) lt s) := by
  unfold f18
  refine (loop_run (F := fun m p r => f18_5 M m o s lt r (N p)) (K := n) (f := stF (M (o + 4)) (M (o + 6)) (M (o + 8)) lt s) (out := fun r => some r) (P := fun _ _ => True) (fun m p r hc _ => ⟨?_, trivial⟩) (fun m r _ => ?_) n 0 s 1000 (by omega) (by omega) trivial).1
  · show f18_5 M (m + 1) o s lt r (N p) = f18_5 M m o s lt (stF (M (o + 4)) (M (o + 6)) (M (o + 8)) lt s p r) (N (p + 1))
    have h9 : p < 9 := by omega
    rw [f18_5, hn, if_pos ((N_lt (by omega) (by omega)).mpr hc), get_in ho.2.2.1 h9, get_in ho.2.2.2.1 h9, get_in ho.2.1 h9, has_N (by omega)]
    unfold stF f18_76 f18_91
    simp only [Option.bind_some, N_succ, b2_0, par_ok (hp p hc).1, par_ok (hp p hc).2, bit_N (show p < 31 by omega)]
    generalize par (M (o + 6) p) ||| par (M (o + 8) p) = P
    by_cases h0 : P = 0
    · subst h0
      simp only [if_true, Int32.and_zero, Int32.or_zero, ite_self]
    · rw [if_neg h0]
      by_cases h1 : lt < M (o + 4) p
      · rw [if_pos h1, if_pos h1]
      · rw [if_neg h1, if_neg h1]
        cases bt s p with
        | false =>
          simp only [if_true, Bool.false_eq_true, if_false, Int32.or_zero]
          by_cases h2 : s &&& P = 0
          · rw [if_pos h2, if_pos h2, Int32.or_zero]
          · rw [if_neg h2, if_neg h2]
        | true =>
          simp only [if_true, Bool.true_eq_false, if_false]
          by_cases h2 : s &&& P = 0
          · rw [if_pos h2, if_pos h2, Int32.or_zero]
          · rw [if_neg h2, if_neg h2]
  · show f18_5 M (m + 1) o s lt r (N n) = some r
    rw [f18_5, hn, if_neg (fun q => Nat.lt_irrefl _ ((N_lt (by omega) (by omega)).mp q))]
theorem m_step {n k : Nat} {y s : Int32} {M : JM} (hn : M 198 7 = N n) (hn9 : n ≤ 9) (hk : M 198 13 = N k) (hk6 : k ≤ 6) (hz : ∀ p, p < n → ¬ M 204 p < 0) : f155 M 198 s y = some (stp n (M 204) (M 205) (M 206) (laty k (fun c => !(decide (M 210 c = 0))) (M 209) y) s) := by
  unfold f155
  refine (loop_run (F := fun m p r => f155_5 M m 198 s y r (N p)) (K := n) (f := stF (M 204) (M 205) (M 206) (laty k (fun c => !(decide (M 210 c = 0))) (M 209) y) s) (out := fun r => some r) (P := fun _ _ => True) (fun m p r hc _ => ⟨?_, trivial⟩) (fun m r _ => ?_) n 0 s 1000 (by omega) (by omega) trivial).1
  · show f155_5 M (m + 1) 198 s y r (N p) = f155_5 M m 198 s y (stF (M 204) (M 205) (M 206) (laty k (fun c => !(decide (M 210 c = 0))) (M 209) y) s p r) (N (p + 1))
    have h9 : p < 9 := by omega
    rw [f155_5, hn, if_pos ((N_lt (by omega) (by omega)).mpr hc), m_counts hk hk6 h9 (hz p hc), mp_10, la_205 h9]
    unfold stF f155_48 f155_72 f155_91 f155_109 f155_111
    simp only [Option.bind_some, N_succ, b2_0, mp_11, la_206 h9, m_has (show p < 31 by omega)]
    by_cases h1 : laty k (fun c => !(decide (M 210 c = 0))) (M 209) y < M 204 p
    · rw [decide_eq_true h1, if_pos h1]; rfl
    · rw [decide_eq_false h1, if_neg h1, if_neg (by decide)]
      unfold par
      show _ = f155_5 M m 198 s y ((r ||| _) ||| (if _ = (0 : Int32) then (0 : Int32) else (1 : Int32) <<< (N p &&& (31 : Int32)))) (N (p + 1))
      by_cases h2 : M 205 p = -1
      · rw [if_pos h2, if_pos h2]
        by_cases h3 : M 206 p = -1
        · rw [if_pos h3, if_pos h3]
          cases bt s p with
          | false =>
            simp only [if_true, Bool.false_eq_true, if_false]
            split <;> rfl
          | true =>
            simp only [if_true, Bool.true_eq_false, if_false]
            split <;> rfl
        · rw [if_neg h3, if_neg h3]
          cases bt s p with
          | false =>
            simp only [if_true, Bool.false_eq_true, if_false]
            split <;> rfl
          | true =>
            simp only [if_true, Bool.true_eq_false, if_false]
            split <;> rfl
      · rw [if_neg h2, if_neg h2]
        by_cases h3 : M 206 p = -1
        · rw [if_pos h3, if_pos h3]
          cases bt s p with
          | false =>
            simp only [if_true, Bool.false_eq_true, if_false]
            split <;> rfl
          | true =>
            simp only [if_true, Bool.true_eq_false, if_false]
            split <;> rfl
        · rw [if_neg h3, if_neg h3]
          cases bt s p with
          | false =>
            simp only [if_true, Bool.false_eq_true, if_false]
            split <;> rfl
          | true =>
            simp only [if_true, Bool.true_eq_false, if_false]
            split <;> rfl
  · show f155_5 M (m + 1) 198 s y r (N n) = some r
    rw [f155_5, hn, if_neg (fun q => Nat.lt_irrefl _ ((N_lt (by omega) (by omega)).mp q))]
