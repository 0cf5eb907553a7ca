/-! PURE: the class: cancelled comets, who sees what -/
theorem jup_jup {M : JM} {o k : Nat} {v w : Int32} : jup (jup M o k v) o k w = jup M o k w := by
  funext a b
  rw [jup_at, jup_at, jup_at]
  by_cases h : a = o ∧ b = k
  · rw [if_pos h, if_pos h]
  · rw [if_neg h, if_neg h, if_neg h]
theorem jup_nk {M : JM} {o k o2 k2 : Nat} {v : Int32} (h : ¬ (o2 = o ∧ k2 = k)) : jup M o k v o2 k2 = M o2 k2 := by rw [jup_at, if_neg h]
theorem jup_comm {M : JM} {o k k2 : Nat} {v w : Int32} (h : k ≠ k2) : jup (jup M o k v) o k2 w = jup (jup M o k2 w) o k v := by
  funext a b
  rw [jup_at, jup_at, jup_at, jup_at]
  by_cases h1 : a = o ∧ b = k2
  · rw [if_pos h1, if_neg (fun q => h (by omega)), if_pos h1]
  · rw [if_neg h1]
    by_cases h2 : a = o ∧ b = k
    · rw [if_pos h2, if_pos h2]
    · rw [if_neg h2, if_neg h2, if_neg h1]
theorem bt_orI {q : Nat → Bool} {s0 : Int32} : ∀ (k i : Nat), k ≤ 31 → bt (itr (fun c s => s ||| (if q c = true then B c else 0)) 0 k s0) i = (bt s0 i || (decide (i < k) && q i))
  | 0, i, _ => by
    show bt s0 i = _
    rw [decide_eq_false (Nat.not_lt_zero _), Bool.false_and, Bool.or_false]
  | k + 1, i, h => by
    rw [itr_succ, bt_or, bt_orI k i (by omega), Nat.zero_add]
    by_cases hk : i = k
    · subst hk
      rw [decide_eq_false (Nat.lt_irrefl _), decide_eq_true (Nat.lt_succ_self _), Bool.false_and, Bool.or_false, Bool.true_and]
      cases q i with
      | true => rw [if_pos rfl, bt_B (by omega), decide_eq_true rfl]
      | false => rw [if_neg (by decide), bt_zero]
    · have e : bt (if q k = true then B k else 0) i = false := by
        cases q k with
        | true => rw [if_pos rfl, bt_B (by omega), decide_eq_false hk]
        | false => rw [if_neg (by decide), bt_zero]
      rw [e, Bool.or_false]
      have e2 : decide (i < k) = decide (i < k + 1) := by
        by_cases h2 : i < k
        · rw [decide_eq_true h2, decide_eq_true (by omega)]
        · rw [decide_eq_false h2, decide_eq_false (by omega)]
      rw [e2]
def oB (l : Option Nat) : Int32 := match l with
  | none => 0
  | some j => B j
theorem bit_oi {l : Option Nat} (h : ∀ j, l = some j → j < 31) : f100 (oi l) = some (oB l) := by
  cases l with
  | none => exact bit_neg (by decide)
  | some j => exact bit_N (h j rfl)
theorem bt_oB {l : Option Nat} {i : Nat} (h : ∀ j, l = some j → j < 31) : bt (oB l) i = decide (l = some i) := by
  cases l with
  | none => rw [decide_eq_false (by simp)]; exact bt_zero
  | some j =>
    show bt (B j) i = _
    rw [bt_B (h j rfl)]
    by_cases e : i = j
    · rw [decide_eq_true e, decide_eq_true (by rw [e])]
    · rw [decide_eq_false e, decide_eq_false (by simp; omega)]
def cancIF (k : Nat) (ck cy : Nat → Int32) (e : Nat) (s : Int32) : Int32 := if ck e = 3 then s ||| oB (lat k ck cy tt e) else s
def cancI (k : Nat) (ck cy : Nat → Int32) : Int32 := itr (cancIF k ck cy) 0 k 0
theorem bt_cancI {k : Nat} {ck cy : Nat → Int32} {c : Nat} (hk : k ≤ 6) : bt (cancI k ck cy) c = canc k ck cy tt c := by
  have q : ∀ m, bt (itr (cancIF k ck cy) 0 m 0) c = itr (cancF k ck cy tt c) 0 m false := by
    intro m
    induction m with
    | zero => exact bt_zero
    | succ m ih =>
      rw [itr_succ, itr_succ, ← ih, Nat.zero_add]
      unfold cancIF cancF
      by_cases h : ck m = 3
      · rw [if_pos h, bt_or, bt_oB (fun j hj => by have := lat_lt hj; omega), decide_eq_true h]; rfl
      · rw [if_neg h, decide_eq_false h]
        simp
  exact q k
theorem c_canc {o k : Nat} {M : JM} (ho : Cok o) (hk : M o 1 = N k) (hk6 : k ≤ 6) : f10 o M = some (jup M o 11 (cancI k (M (o + 12)) (M (o + 14)))) := by
  unfold f10
  show f10_7 1000 o (N 0) (jup M o 11 0) = _
  refine (loop_run (F := fun n e s => f10_7 n o (N e) (jup M o 11 s)) (K := k) (f := cancIF k (M (o + 12)) (M (o + 14))) (out := fun s => some (jup M o 11 s)) (P := fun _ _ => True) (fun n e s hc _ => ⟨?_, trivial⟩) (fun n s _ => ?_) k 0 0 1000 (by omega) (by omega) trivial).1
  · show f10_7 (n + 1) o (N e) (jup M o 11 s) = f10_7 n o (N (e + 1)) (jup M o 11 (cancIF k (M (o + 12)) (M (o + 14)) e s))
    have h1 : jup M o 11 s o 1 = N k := by rw [jup_nk (by omega)]; exact hk
    have h12 : jup M o 11 s (o + 12) = M (o + 12) := jup_o (by omega)
    have h14 : jup M o 11 s (o + 14) = M (o + 14) := jup_o (by omega)
    rw [f10_7, h1, if_pos ((N_lt (by omega) (by omega)).mpr hc), get_in ho.2.2.2.2.2.1 (show e < 6 by omega), c_lat ho h1 hk6 (show e < 6 by omega), h12, h14]
    unfold cancIF f10_44
    simp only [Option.bind_some, N_succ]
    by_cases h3 : M (o + 12) e = 3
    · rw [if_pos h3, if_pos h3, bit_oi (fun j hj => by have := lat_lt hj; omega)]
      simp only [Option.bind_some, jup_same, jup_jup]
    · rw [if_neg h3, if_neg h3]
  · show f10_7 (n + 1) o (N k) (jup M o 11 s) = _
    have h1 : jup M o 11 s o 1 = N k := by rw [jup_nk (by omega)]; exact hk
    rw [f10_7, h1, if_neg (fun q => Nat.lt_irrefl _ ((N_lt (by omega) (by omega)).mp q))]
def sightI (k : Nat) (ck : Nat → Int32) (cz : Int32) (seer : Bool) : Int32 := itr (fun c s => s ||| (if (!(bt cz c) && see (ck c) seer) = true then B c else 0)) 0 k 0
theorem bt_sightI {k : Nat} {ck : Nat → Int32} {cz : Int32} {seer : Bool} {c : Nat} (hk : k ≤ 6) : bt (sightI k ck cz seer) c = (decide (c < k) && (!(bt cz c) && see (ck c) seer)) := by
  unfold sightI
  rw [bt_orI k c (by omega), bt_zero, Bool.false_or]
def sgt (v : Int32) : Int32 := if v = 0 then 3 else if v = 1 then 2 else if v = 2 then 1 else 0
theorem sight_ok {v : Int32} : f104 v = some (sgt v) := by
  unfold f104 sgt
  split
  · rfl
  · split
    · rfl
    · split <;> rfl
theorem sgt_1 {v : Int32} : (sgt v &&& 1 = 0) ↔ see v false = false := by
  unfold sgt see
  by_cases h0 : v = 0
  · subst h0; decide
  · by_cases h1 : v = 1
    · subst h1; decide
    · by_cases h2 : v = 2
      · subst h2; decide
      · rw [if_neg h0, if_neg h1, if_neg h2, decide_eq_false h0, decide_eq_false h1, decide_eq_false h2]; decide
theorem sgt_2 {v : Int32} : (sgt v &&& 2 = 0) ↔ see v true = false := by
  unfold sgt see
  by_cases h0 : v = 0
  · subst h0; decide
  · by_cases h1 : v = 1
    · subst h1; decide
    · by_cases h2 : v = 2
      · subst h2; decide
      · rw [if_neg h0, if_neg h1, if_neg h2, decide_eq_false h0, decide_eq_false h1, decide_eq_false h2]; decide
theorem c_sight {o k : Nat} {M : JM} (ho : Cok o) (hk : M o 1 = N k) (hk6 : k ≤ 6) : f13 o M = some (jup (jup M o 12 (sightI k (M (o + 12)) (M o 11) false)) o 13 (sightI k (M (o + 12)) (M o 11) true)) := by
  unfold f13
  show f13_12 1000 o (N 0) (jup (jup M o 12 0) o 13 0) = _
  have key := (loop_run (F := fun n c (s : Int32 × Int32) => f13_12 n o (N c) (jup (jup M o 12 s.1) o 13 s.2)) (K := k) (f := fun c (s : Int32 × Int32) => (s.1 ||| (if (!(bt (M o 11) c) && see (M (o + 12) c) false) = true then B c else 0), s.2 ||| (if (!(bt (M o 11) c) && see (M (o + 12) c) true) = true then B c else 0))) (out := fun s => some (jup (jup M o 12 s.1) o 13 s.2)) (P := fun _ _ => True) (fun n c s hc _ => ⟨?_, trivial⟩) (fun n s _ => ?_) k 0 (0, 0) 1000 (by omega) (by omega) trivial).1
  · have e : ∀ m, itr (fun c (s : Int32 × Int32) => (s.1 ||| (if (!(bt (M o 11) c) && see (M (o + 12) c) false) = true then B c else 0), s.2 ||| (if (!(bt (M o 11) c) && see (M (o + 12) c) true) = true then B c else 0))) 0 m (0, 0) = (itr (fun c s => s ||| (if (!(bt (M o 11) c) && see (M (o + 12) c) false) = true then B c else 0)) 0 m 0, itr (fun c s => s ||| (if (!(bt (M o 11) c) && see (M (o + 12) c) true) = true then B c else 0)) 0 m 0) := by
      intro m
      induction m with
      | zero => rfl
      | succ m ih => rw [itr_succ, itr_succ, itr_succ, ih]
    rw [e k] at key
    exact key
  · obtain ⟨p, s⟩ := s
    show f13_12 (n + 1) o (N c) (jup (jup M o 12 p) o 13 s) = f13_12 n o (N (c + 1)) (jup (jup M o 12 (p ||| (if (!(bt (M o 11) c) && see (M (o + 12) c) false) = true then B c else 0))) o 13 (s ||| (if (!(bt (M o 11) c) && see (M (o + 12) c) true) = true then B c else 0)))
    have h1 : jup (jup M o 12 p) o 13 s o 1 = N k := by rw [jup_nk (by omega), jup_nk (by omega)]; exact hk
    have h11 : jup (jup M o 12 p) o 13 s o 11 = M o 11 := by rw [jup_nk (by omega), jup_nk (by omega)]
    have h12 : jup (jup M o 12 p) o 13 s (o + 12) = M (o + 12) := by rw [jup_o (by omega), jup_o (by omega)]
    have hp : jup (jup M o 12 p) o 13 s o 12 = p := by rw [jup_nk (by omega), jup_same]
    rw [f13_12, h1, if_pos ((N_lt (by omega) (by omega)).mpr hc), h11, has_N (by omega)]
    simp only [Option.bind_some, b2_0]
    have fin : ∀ v : Int32, (v &&& 1 = 0 ↔ (!(bt (M o 11) c) && see (M (o + 12) c) false) = false) → (v &&& 2 = 0 ↔ (!(bt (M o 11) c) && see (M (o + 12) c) true) = false) → f13_46 (f13_12 n) o (N c) v (jup (jup M o 12 p) o 13 s) = f13_12 n o (N (c + 1)) (jup (jup M o 12 (p ||| (if (!(bt (M o 11) c) && see (M (o + 12) c) false) = true then B c else 0))) o 13 (s ||| (if (!(bt (M o 11) c) && see (M (o + 12) c) true) = true then B c else 0))) := by
      intro v hv1 hv2
      have mid : ∀ w : Int32, f13_66 (f13_12 n) o (N c) v w p o (jup (jup M o 12 p) o 13 s) = f13_12 n o (N (c + 1)) (jup (jup M o 12 (p ||| w)) o 13 (s ||| (if (!(bt (M o 11) c) && see (M (o + 12) c) true) = true then B c else 0))) := by
        intro w
        have ee : jup (jup (jup M o 12 p) o 13 s) o 12 (p ||| w) = jup (jup M o 12 (p ||| w)) o 13 s := by rw [jup_comm (by decide), jup_jup]
        unfold f13_66 f13_89
        simp only [Option.bind_some, ee, jup_same, bit_N (show c < 31 by omega), jup_jup, N_succ]
        by_cases h : v &&& 2 = 0
        · rw [if_pos h, hv2.mp h]; rfl
        · rw [if_neg h]
          cases h3 : (!(bt (M o 11) c) && see (M (o + 12) c) true) with
          | false => exact absurd (hv2.mpr h3) h
          | true => rfl
      unfold f13_46
      rw [hp]
      by_cases h : v &&& 1 = 0
      · rw [if_pos h, hv1.mp h]; exact mid 0
      · rw [if_neg h, bit_N (by omega)]
        cases h3 : (!(bt (M o 11) c) && see (M (o + 12) c) false) with
        | false => exact absurd (hv1.mpr h3) h
        | true => exact mid (B c)
    cases hb : bt (M o 11) c with
    | true =>
      rw [hb] at fin
      rw [if_neg (by decide)]
      exact fin 0 (by simp) (by simp)
    | false =>
      rw [hb] at fin
      rw [if_pos rfl, get_in ho.2.2.2.2.2.1 (show c < 6 by omega), h12]
      simp only [Option.bind_some, sight_ok]
      exact fin _ (by rw [Bool.not_false, Bool.true_and]; exact sgt_1) (by rw [Bool.not_false, Bool.true_and]; exact sgt_2)
  · show f13_12 (n + 1) o (N k) (jup (jup M o 12 s.1) o 13 s.2) = _
    have h1 : jup (jup M o 12 s.1) o 13 s.2 o 1 = N k := by rw [jup_nk (by omega), jup_nk (by omega)]; exact hk
    rw [f13_12, h1, if_neg (fun q => Nat.lt_irrefl _ ((N_lt (by omega) (by omega)).mp q))]
theorem c_seen {o p : Nat} {M : JM} (hp : p < 31) : f14 M o (N p) = some (if bt (M o 10) p = true then M o 13 else M o 12) := by
  unfold f14
  rw [has_N hp]
  cases bt (M o 10) p <;> rfl
theorem c_laty {o k : Nat} {s y : Int32} {M : JM} (ho : Cok o) (hk : M o 1 = N k) (hk6 : k ≤ 6) : f16 M o s y = some (laty k (bt s) (M (o + 14)) y) := by
  unfold f16
  refine (loop_run (F := fun n c l => f16_5 M n o s y l (N c)) (K := k) (f := latyF (bt s) (M (o + 14)) y) (out := fun l => some l) (P := fun _ _ => True) (fun n c l hc _ => ⟨?_, trivial⟩) (fun n l _ => ?_) k 0 (-1) 1000 (by omega) (by omega) trivial).1
  · show f16_5 M (n + 1) o s y l (N c) = f16_5 M n o s y (latyF (bt s) (M (o + 14)) y c l) (N (c + 1))
    rw [f16_5, hk, if_pos ((N_lt (by omega) (by omega)).mpr hc), get_in ho.2.2.2.2.2.2 (show c < 6 by omega), has_N (by omega)]
    unfold latyF f16_49
    simp only [Option.bind_some, N_succ, b2_0]
    cases bt s c with
    | false => rfl
    | true =>
      rw [if_neg (by decide), Bool.true_and]
      by_cases h1 : y < M (o + 14) c
      · rw [if_pos h1, decide_eq_true h1]; rfl
      · rw [if_neg h1, decide_eq_false h1]
        by_cases h2 : l < M (o + 14) c
        · rw [if_pos h2, decide_eq_true h2]; rfl
        · rw [if_neg h2, decide_eq_false h2]; rfl
  · show f16_5 M (n + 1) o s y l (N k) = some l
    rw [f16_5, hk, if_neg (fun q => Nat.lt_irrefl _ ((N_lt (by omega) (by omega)).mp q))]
