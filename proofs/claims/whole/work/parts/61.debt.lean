/-! PURE: debt, pay -/
def oyr (cy : Nat → Int32) (l : Option Nat) : Int32 := match l with
  | none => -1
  | some j => cy j
def ltO (cy : Nat → Int32) (c : Nat) (l : Option Nat) : Bool := match l with
  | none => true
  | some j => decide (cy c < cy j)
def secF (S : Nat → Bool) (cy : Nat → Int32) (z : Int32) (c : Nat) (p : Option Nat × Option Nat) : Option Nat × Option Nat := if (S c && decide (z < cy c)) = true then (if ltO cy c p.1 = true then (some c, p.1) else if ltO cy c p.2 = true then (p.1, some c) else p) else p
def sec (k : Nat) (S : Nat → Bool) (cy : Nat → Int32) (z : Int32) : Option Nat × Option Nat := itr (secF S cy z) 0 k (none, none)
def bel (c : Nat) (p : Option Nat × Option Nat) : Prop := (∀ j, p.1 = some j → j < c) ∧ (∀ j, p.2 = some j → j < c)
theorem secF_bel {S : Nat → Bool} {cy : Nat → Int32} {z : Int32} {c : Nat} {p : Option Nat × Option Nat} (h : bel c p) : bel (c + 1) (secF S cy z c p) := by
  have h0 : bel (c + 1) p := ⟨fun j hj => by have := h.1 j hj; omega, fun j hj => by have := h.2 j hj; omega⟩
  unfold secF
  split
  · split
    · exact ⟨fun j hj => by cases hj; omega, fun j hj => by have := h.1 j hj; omega⟩
    · split
      · exact ⟨fun j hj => by have := h.1 j hj; omega, fun j hj => by cases hj; omega⟩
      · exact h0
  · exact h0
theorem bel0 : bel 0 (none, none) := ⟨fun j hj => (by cases hj), fun j hj => (by cases hj)⟩
theorem ltO_congr {cy cy2 : Nat → Int32} {k m : Nat} {l : Option Nat} (h2 : ∀ c, c < k → cy c = cy2 c) (hm : m < k) (hl : ∀ j, l = some j → j < m) : ltO cy m l = ltO cy2 m l := by
  cases l with
  | none => rfl
  | some j =>
    show decide (cy m < cy j) = decide (cy2 m < cy2 j)
    rw [h2 m hm, h2 j (by have := hl j rfl; omega)]
theorem secF_congr {k m : Nat} {S T : Nat → Bool} {cy cy2 : Nat → Int32} {z : Int32} {p : Option Nat × Option Nat} (h1 : ∀ c, c < k → S c = T c) (h2 : ∀ c, c < k → cy c = cy2 c) (hm : m < k) (hp : bel m p) : secF S cy z m p = secF T cy2 z m p := by
  have e1 := ltO_congr h2 hm hp.1
  have e2 := ltO_congr h2 hm hp.2
  unfold secF
  rw [h1 m hm, h2 m hm, e1, e2]
theorem itr_z {α : Type} {f : Nat → α → α} {a : α} : itr f 0 0 a = a := rfl
theorem sec_congr0 {k : Nat} {S T : Nat → Bool} {cy cy2 : Nat → Int32} {z : Int32} (h1 : ∀ c, c < k → S c = T c) (h2 : ∀ c, c < k → cy c = cy2 c) : ∀ m, m ≤ k → itr (secF S cy z) 0 m (none, none) = itr (secF T cy2 z) 0 m (none, none) ∧ bel m (itr (secF S cy z) 0 m (none, none))
  | 0, _ => ⟨(itr_z (f := secF S cy z)).trans (itr_z (f := secF T cy2 z)).symm, bel0⟩
  | m + 1, hm => by
    obtain ⟨i1, i2⟩ := sec_congr0 h1 h2 m (by omega)
    rw [itr_succ, itr_succ, ← i1, Nat.zero_add]
    exact ⟨secF_congr h1 h2 (by omega) i2, secF_bel i2⟩
theorem sec_congr {k : Nat} {S T : Nat → Bool} {cy cy2 : Nat → Int32} {z : Int32} (h1 : ∀ c, c < k → S c = T c) (h2 : ∀ c, c < k → cy c = cy2 c) : sec k S cy z = sec k T cy2 z ∧ bel k (sec k S cy z) := sec_congr0 h1 h2 k (Nat.le_refl _)
theorem c_sec {k : Nat} {s z : Int32} {M : JM} (hk : M 4 1 = N k) (hk6 : k ≤ 6) (hy : ∀ c, c < k → rng 100 (M 18 c)) : f17 M 4 s z = some (oyr (M 18) (sec k (bt s) (M 18) z).2) := by
  unfold f17
  refine (loop_run (F := fun n c (p : Option Nat × Option Nat) => f17_8 M n 4 s z (oyr (M 18) p.1) (oyr (M 18) p.2) (N c)) (K := k) (f := secF (bt s) (M 18) z) (out := fun p => some (oyr (M 18) p.2)) (P := bel) (fun n c p hc hp => ⟨?_, secF_bel hp⟩) (fun n p hp => ?_) k 0 (none, none) 1000 (by omega) (by omega) ⟨fun j hj => (by cases hj), fun j hj => (by cases hj)⟩).1
  · obtain ⟨p1, p2⟩ := p
    show f17_8 M (n + 1) 4 s z (oyr (M 18) p1) (oyr (M 18) p2) (N c) = f17_8 M n 4 s z (oyr (M 18) (secF (bt s) (M 18) z c (p1, p2)).1) (oyr (M 18) (secF (bt s) (M 18) z c (p1, p2)).2) (N (c + 1))
    have nm : ∀ j, j < k → ¬ M 18 j = -1 := fun j hj q => by
      obtain ⟨i, hi, e⟩ := hy j hj
      rw [e] at q
      exact N_m1 (by omega) q
    rw [f17_8, hk, if_pos ((N_lt (by omega) (by omega)).mpr hc), get_in cok_4.2.2.2.2.2.2 (show c < 6 by omega), has_N (by omega)]
    unfold secF f17_57 f17_79 f17_83
    simp only [Option.bind_some, N_succ, b2_0]
    rw [show M (4 + 14) = M 18 from rfl]
    cases bt s c with
    | false => rfl
    | true =>
      rw [if_neg (by decide), Bool.true_and]
      by_cases hz : z < M 18 c
      · rw [if_pos hz, if_pos (decide_eq_true hz)]
        have two : ∀ q : Option Nat, (∀ j, q = some j → j < c) → ∀ (A B : Option Int32), (if oyr (M 18) q = -1 then A else if M 18 c < oyr (M 18) q then A else B) = if ltO (M 18) c q = true then A else B := by
          intro q hq A B
          cases q with
          | none => rfl
          | some j =>
            show (if M 18 j = -1 then A else if M 18 c < M 18 j then A else B) = if decide (M 18 c < M 18 j) = true then A else B
            rw [if_neg (nm j (by have := hq j rfl; omega))]
            by_cases hl : M 18 c < M 18 j
            · rw [if_pos hl, if_pos (decide_eq_true hl)]
            · rw [if_neg hl, if_neg (by rw [decide_eq_false hl]; decide)]
        rw [two p1 hp.1, two p2 hp.2]
        cases ltO (M 18) c p1 with
        | true => rfl
        | false => cases ltO (M 18) c p2 <;> rfl
      · rw [if_neg hz, if_neg (by rw [decide_eq_false hz]; decide)]
  · show f17_8 M (n + 1) 4 s z (oyr (M 18) p.1) (oyr (M 18) p.2) (N k) = _
    rw [f17_8, hk, if_neg (fun q => Nat.lt_irrefl _ ((N_lt (by omega) (by omega)).mp q))]
theorem ahd_up {cy : Nat → Int32} {c j : Nat} (h : j < c) : ahd cy c j = decide (cy c < cy j) := by
  unfold ahd
  rw [decide_eq_false (show ¬ c < j by omega), Bool.and_false, Bool.or_false]
theorem oi_nn {l : Option Nat} {c : Nat} (h : ∀ j, l = some j → j < c) (hc : c ≤ 1000) : oi l = -1 ↔ l = none := oi_none (fun j hj => by have := h j hj; omega)
theorem m_sec {k base : Nat} {M : JM} {S : Nat → Bool} (hk : M 198 13 = N k) (hk6 : k ≤ 6) (hb : base + 3 < 671) (hS : ∀ c, c < k → M 210 c = b2 (S c)) : f181_25 1000 198 (N base) (-1 : Int32) (-1 : Int32) (0 : Int32) M = some (oyr (M 209) (sec k S (M 209) (M 199 (base + 3))).2, M) := by
  refine (loop_run (F := fun n c (p : Option Nat × Option Nat) => f181_25 n 198 (N base) (oi p.1) (oi p.2) (N c) M) (K := k) (f := secF S (M 209) (M 199 (base + 3))) (out := fun p => some (oyr (M 209) p.2, M)) (P := bel) (fun n c p hc hp => ⟨?_, secF_bel hp⟩) (fun n p hp => ?_) k 0 (none, none) 1000 (by omega) (by omega) ⟨fun j hj => (by cases hj), fun j hj => (by cases hj)⟩).1
  · obtain ⟨p1, p2⟩ := p
    show f181_25 (n + 1) 198 (N base) (oi p1) (oi p2) (N c) M = f181_25 n 198 (N base) (oi (secF S (M 209) (M 199 (base + 3)) c (p1, p2)).1) (oi (secF S (M 209) (M 199 (base + 3)) c (p1, p2)).2) (N (c + 1)) M
    rw [f181_25, hk, if_pos ((N_lt (by omega) (by omega)).mpr hc), mp_23, mp_15, mp_0, la_210 (show c < 6 by omega), la_209 (show c < 6 by omega), show N base + (3 : Int32) = N (base + 3) from N_add, la_199 hb, hS c hc]
    unfold secF f181_77 f181_82 f181_108 f181_114 f181_126 f181_127
    simp only [Option.bind_some, N_succ, b2_0]
    cases S c with
    | false => rfl
    | true =>
      rw [if_neg (by decide), Bool.true_and]
      by_cases hz : M 199 (base + 3) < M 209 c
      · rw [if_pos hz, if_pos (decide_eq_true hz)]
        have two : ∀ q : Option Nat, (∀ j, q = some j → j < c) → ∀ (A B : Option (Int32 × JM)), (if oi q = -1 then A else (f147 M 198 (N c) (oi q)).bind fun v => if v = (0 : Int32) then B else A) = if ltO (M 209) c q = true then A else B := by
          intro q hq A B
          cases q with
          | none => rfl
          | some j =>
            have hj := hq j rfl
            show (if N j = -1 then A else (f147 M 198 (N c) (N j)).bind fun v => if v = (0 : Int32) then B else A) = if decide (M 209 c < M 209 j) = true then A else B
            rw [if_neg (N_m1 (by omega)), m_ahead (by omega) (by omega), ahd_up hj]
            simp only [Option.bind_some, b2_0]
            cases decide (M 209 c < M 209 j) <;> rfl
        simp only [if_true, show ((1 : Int32) = 0) = False from eq_false (by decide), if_false]
        rw [two p1 hp.1]
        cases ltO (M 209) c p1 with
        | true => rfl
        | false =>
          simp only [Bool.false_eq_true, if_false]
          rw [two p2 hp.2]
          cases ltO (M 209) c p2 <;> rfl
      · rw [if_neg hz, if_neg (by rw [decide_eq_false hz]; decide)]
  · obtain ⟨p1, p2⟩ := p
    show f181_25 (n + 1) 198 (N base) (oi p1) (oi p2) (N k) M = some (oyr (M 209) p2, M)
    rw [f181_25, hk, if_neg (fun q => Nat.lt_irrefl _ ((N_lt (by omega) (by omega)).mp q))]
    cases p2 with
    | none => rfl
    | some j =>
      have hj := hp.2 j rfl
      show (if N j = -1 then _ else (jla (jpt 198 15) (N j) M).bind _) = _
      rw [if_neg (N_m1 (by omega)), mp_15, la_209 (by omega)]; rfl
/-- the year in which a debt is due, of the reference alone -/
def rdue (M : JM) (k a b : Nat) (z : Int32) : Int32 := oyr (M 209) (sec k (snB k (M 208) (M 209) (thr (M 198 22)) (decide (M 203 a = 1)) (decide (M 203 b = 1))) (M 209) z).2
theorem m_due {M : JM} {k a b base : Nat} (hk : M 198 13 = N k) (hk6 : k ≤ 6) (hb : base + 3 < 671) (ea : M 199 base = N a) (eb : M 199 (base + 1) = N b) (ha : a < 9) (hb9 : b < 9) : ∃ X, f181 198 (N base) M = some (rdue M k a b (M 199 (base + 3)), X) ∧ Sm M X := by
  unfold f181
  rw [mp_0, la_199 (by omega), show N base + (1 : Int32) = N (base + 1) from N_succ, la_199 (by omega), ea, eb]
  simp only [Option.bind_some, m_lay hk hk6 ha hb9]
  obtain ⟨X, hX⟩ : ∃ X, X = jrw M 210 k (fun c => b2 (snB k (M 208) (M 209) (thr (M 198 22)) (decide (M 203 a = 1)) (decide (M 203 b = 1)) c)) := ⟨_, rfl⟩
  rw [← hX]
  have s : Sm M X := hX ▸ sm_210
  refine ⟨X, ?_, s⟩
  rw [m_sec (S := snB k (M 208) (M 209) (thr (M 198 22)) (decide (M 203 a = 1)) (decide (M 203 b = 1))) (by rw [s 198 (by decide)]; exact hk) hk6 hb (fun c hc => by rw [hX, jrw_in hc]), s 209 (by decide), s 199 (by decide)]
  rfl
theorem rc_due {M X : JM} {k a b : Nat} {z : Int32} (s : Rc M X) : rdue X k a b z = rdue M k a b z := by
  unfold rdue
  rw [s 203 (by decide) (by decide), s 208 (by decide) (by decide), s 209 (by decide) (by decide), s 198 (by decide) (by decide)]
theorem c_due {M : JM} {n k a b d : Nat} (h1 : Ctr M 4 n k) (h2 : Agr M 4 n k) (h3 : Rng M n k) (h4 : M 198 22 = -1) (hd : d < 8) (ea : M 40 d = N a) (eb : M 42 d = N b) (ha : a < n) (hb : b < n) : f113 M 0 (N d) = some (rdue M k a b (M 46 d)) := by
  have hn9 := h1.2.1
  have hk6 := h1.2.2.2.1
  unfold f113
  rw [xp_1, xp_3, get_40 hd, get_42 hd, get_46 hd, ea, eb]
  simp only [Option.bind_some]
  rw [c_seen (by omega), c_seen (by omega)]
  simp only [Option.bind_some]
  rw [c_sec h1.2.2.1 hk6 (fun c hc => (h3.2.1 c hc).2)]
  simp only [Option.bind_some]
  unfold rdue
  have cy : ∀ c, c < k → M 18 c = M 209 c := fun c hc => h2.2.2.2.2.2.2.2.2.2 c hc
  obtain ⟨e, hbel⟩ := sec_congr (k := k) (S := bt ((if bt (M 4 10) a = true then M 4 13 else M 4 12) &&& (if bt (M 4 10) b = true then M 4 13 else M 4 12))) (T := snB k (M 208) (M 209) (thr (M 198 22)) (decide (M 203 a = 1)) (decide (M 203 b = 1))) (cy := M 18) (cy2 := M 209) (z := M 46 d) (fun c hc => by
    have es : ∀ s, bt (if s = true then M 4 13 else M 4 12) c = sees k (M 208) (M 209) (thr (M 198 22)) s c := by
      intro s
      rw [bt_sight h1, decide_eq_true hc, Bool.true_and]
      exact sees_congr (fun c hc => h2.2.2.2.2.2.2.2.2.1 c hc) (fun c hc => h2.2.2.2.2.2.2.2.2.2 c hc) (fun c hc => by rw [h4, thr_m1 (by omega)]; rfl) hc
    rw [bt_and, es, es, seer_ok h1 h2 ha, seer_ok h1 h2 hb]; rfl) cy
  rw [← e]
  generalize (sec k (bt ((if bt (M 4 10) a = true then M 4 13 else M 4 12) &&& (if bt (M 4 10) b = true then M 4 13 else M 4 12))) (M 18) (M 46 d)) = p at hbel
  obtain ⟨p1, p2⟩ := p
  cases p2 with
  | none => rfl
  | some j => exact congrArg some (cy j (hbel.2 j rfl))
theorem c_isD {M : JM} {d : Nat} {v : Int32} (hd : M 34 2 = N d) : f36 M 34 v = some (b2 (isN d v)) := by
  unfold f36 isN
  rw [hd]
  by_cases h : v < 0
  · rw [if_pos h, decide_eq_true h]; rfl
  · rw [if_neg h, decide_eq_false h]
    by_cases h2 : v < N d
    · rw [if_pos h2, decide_eq_true h2]; rfl
    · rw [if_neg h2, decide_eq_false h2]; rfl
theorem m_isD {M : JM} {d : Nat} {v : Int32} (hd : M 199 20 = N d) (h9 : d ≤ 1000) : f182 M 198 v = some (b2 (isN d v)) := by
  unfold f182
  rw [mp_0, la_20, hd, show (0 : Int64) = (0 : Int32).toInt64 from rfl]
  simp only [Option.bind_some, in_ok, isN_sub h9]
  exact jbo_b (Or.inr (Or.inr (Or.inr rfl)))
theorem base_ok {j : Nat} : (21 : Int32) + (5 : Int32) * N j = N (21 + 5 * j) := by
  rw [show (21 : Int32) = N 21 from rfl, show (5 : Int32) = N 5 from rfl, N_mul, N_add]
theorem t_debt {M : JM} {v w : Int32} (h : Inv M) : ∃ x M2, f83 M 0 v w = some x ∧ f183 198 v w M = some (x, M2) ∧ Inv M2 := by
  have hI := h
  obtain ⟨n, k, h1, h2, h3, h4, h5, h6, h7, h8, h9⟩ := h
  have hn9 : n ≤ 9 := h1.2.1
  have hk6 : k ≤ 6 := h1.2.2.2.1
  obtain ⟨D, hD8, dd1, dd2, dd3, dd4⟩ : LifD M 34 0 n := h5.2.2.1
  unfold f83 f183
  rw [xp_3, c_isD dd1, m_isD dd2 (by omega), show (0 : Int64) = (0 : Int32).toInt64 from rfl, show (3 : Int64) = (3 : Int32).toInt64 from rfl, in_ok]
  simp only [Option.bind_some, b2_0]
  cases hv : isN D v with
  | false => exact ⟨-2, M, rfl, rfl, hI⟩
  | true =>
    obtain ⟨d, hd, rfl⟩ := isN_t (by omega) hv
    have hd8 : d < 8 := by omega
    simp only [Bool.true_eq_false, if_false, base_ok, mp_0]
    obtain ⟨q4, q0, q1, q2, q3, ⟨a, ha, ea⟩, ⟨b, hb, eb⟩⟩ := dd4 d hd
    rw [Nat.zero_add] at q4 q0 q1 q2 q3
    have r40 : M 40 d = M 199 (21 + 5 * d) := q0
    have r42 : M 42 d = M 199 (21 + 5 * d + 1) := q1
    have r44 : M 44 d = M 199 (21 + 5 * d + 2) := q2
    have r46 : M 46 d = M 199 (21 + 5 * d + 3) := q3
    obtain ⟨X, e, s⟩ := m_due (M := M) (k := k) (base := 21 + 5 * d) h2.2.1 hk6 (by omega) (r40.symm.trans ea) (r42.symm.trans eb) (show a < 9 by omega) (show b < 9 by omega)
    rw [get_40 hd8, get_42 hd8, get_44 hd8, get_46 hd8, c_due h1 h2 h3 h4 hd8 ea eb ha hb, e, has_N (by omega), r40, r42, r44, r46]
    simp only [Option.bind_some, b2_0]
    by_cases w0 : w < 0
    · rw [decide_eq_true w0]
      have ne : ∀ j : Nat, j < 10 → ¬ w = N j := fun j hj q => N_neg (by omega) (q ▸ w0)
      refine ⟨-3, M, ?_, ?_, hI⟩
      · rw [if_neg (show ¬ w = (0 : Int32) from ne 0 (by omega)), if_neg (show ¬ w = (1 : Int32) from ne 1 (by omega)), if_neg (show ¬ w = (2 : Int32) from ne 2 (by omega)), if_neg (show ¬ w = (3 : Int32) from ne 3 (by omega)), if_neg (show ¬ w = (4 : Int32) from ne 4 (by omega)), if_neg (show ¬ w = (5 : Int32) from ne 5 (by omega))]
      · rw [if_neg (show ¬ w = (4 : Int32) from ne 4 (by omega)), if_neg (show ¬ w = (5 : Int32) from ne 5 (by omega))]; rfl
    · obtain ⟨i, hi, rfl⟩ := N_of w0
      have eq : ∀ j : Nat, j < 10 → (N i = N j ↔ i = j) := fun j hj => N_eq hi (by omega)
      have r5 : M 199 (21 + 5 * d + 4) = b2 (bt (M 34 3) d) := q4
      rw [decide_eq_false w0]
      by_cases i3 : i < 4
      · rw [decide_eq_false (show ¬ (3 : Int32) < N i from fun q => absurd ((N_lt (a := 3) (by omega) hi).mp q) (by omega)), N_add]
        simp only [Bool.not_false, Bool.and_self, Bool.true_eq_false, if_false, la_199 (show 21 + 5 * d + i < 671 by omega), Option.bind_some]
        rcases (show i = 0 ∨ i = 1 ∨ i = 2 ∨ i = 3 by omega) with rfl | rfl | rfl | rfl
        · exact ⟨_, M, rfl, rfl, hI⟩
        · exact ⟨_, M, rfl, rfl, hI⟩
        · exact ⟨_, M, rfl, rfl, hI⟩
        · exact ⟨_, M, rfl, rfl, hI⟩
      · rw [decide_eq_true (show (3 : Int32) < N i from (N_lt (a := 3) (by omega) hi).mpr (by omega)), if_neg (show ¬ N i = (0 : Int32) from fun q => absurd ((eq 0 (by omega)).mp q) (by omega)), if_neg (show ¬ N i = (1 : Int32) from fun q => absurd ((eq 1 (by omega)).mp q) (by omega)), if_neg (show ¬ N i = (2 : Int32) from fun q => absurd ((eq 2 (by omega)).mp q) (by omega)), if_neg (show ¬ N i = (3 : Int32) from fun q => absurd ((eq 3 (by omega)).mp q) (by omega))]
        simp only [Bool.not_true, Bool.and_false, if_true]
        by_cases i4 : i = 4
        · subst i4
          exact ⟨_, X, rfl, rfl, Inv_same hI s.same⟩
        · rw [if_neg (show ¬ N i = (4 : Int32) from fun q => i4 ((eq 4 (by omega)).mp q)), if_neg (show ¬ N i = (4 : Int32) from fun q => i4 ((eq 4 (by omega)).mp q))]
          by_cases i5 : i = 5
          · subst i5
            rw [if_pos (show N 5 = (5 : Int32) from rfl), if_pos (show N 5 = (5 : Int32) from rfl), show N (21 + 5 * d) + (4 : Int32) = N (21 + 5 * d + 4) from N_add, la_199 (by omega), r5]
            cases bt (M 34 3) d
            · exact ⟨0, M, rfl, rfl, hI⟩
            · exact ⟨1, M, rfl, rfl, hI⟩
          · rw [if_neg (show ¬ N i = (5 : Int32) from fun q => i5 ((eq 5 (by omega)).mp q)), if_neg (show ¬ N i = (5 : Int32) from fun q => i5 ((eq 5 (by omega)).mp q))]
            exact ⟨-3, M, rfl, rfl, hI⟩
theorem blk_597 : Blk f217_597 := fun xs h18 i M hx hi hI => by
  obtain ⟨a, M2, e1, e2, h2⟩ := t_debt (v := xs.getD (i + 1) 0) (w := xs.getD (i + 2) 0) hI
  refine ⟨M2, h2, ?_⟩
  unfold f217_597 f217_1076
  rw [show (1 : Int32) = N 1 from rfl, show (2 : Int32) = N 2 from rfl, show (5 : Int32) = N 5 from rfl]
  simp only [N_add, sc_at (show i + 1 < xs.length by omega) hx, sc_at (show i + 2 < xs.length by omega) hx, Option.bind_some, e1, e2, if_true]
