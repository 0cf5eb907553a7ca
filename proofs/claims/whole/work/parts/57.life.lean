/-! PURE: lives: copies, what is remembered -/
theorem jcp_o {M : JM} {a b n o : Nat} (h : o ≠ a) : jcp M a b n o = M o := by
  funext k
  show (if o = a ∧ k < n then _ else _) = _
  rw [if_neg (fun q => h q.1)]
theorem jcp_in {M : JM} {a b n k : Nat} (h : k < n) : jcp M a b n a k = M b k := by
  show (if a = a ∧ k < n then _ else _) = _
  rw [if_pos ⟨rfl, h⟩]
def Cpy (M M1 : JM) (s d : Nat) : Prop := (∀ k, k < 4 → M1 d k = M s k) ∧ (∀ k, k < 9 → M1 (d + 2) k = M (s + 2) k) ∧ (∀ k, k < 9 → M1 (d + 4) k = M (s + 4) k) ∧ (∀ k, k < 8 → M1 (d + 6) k = M (s + 6) k) ∧ (∀ k, k < 8 → M1 (d + 8) k = M (s + 8) k) ∧ (∀ k, k < 8 → M1 (d + 10) k = M (s + 10) k) ∧ (∀ k, k < 8 → M1 (d + 12) k = M (s + 12) k)
theorem c_cpy {M : JM} {s d : Nat} (hd : Lok d) (hs : Lok s) (h : s + 13 ≤ d ∨ d + 13 ≤ s) : ∃ M1, f35 d s M = some M1 ∧ (∀ o, ¬ (d ≤ o ∧ o ≤ d + 12) → M1 o = M o) ∧ Cpy M M1 s d := by
  obtain ⟨d1, d2, d3, d4, d5, d6⟩ := hd
  obtain ⟨s1, s2, s3, s4, s5, s6⟩ := hs
  have r0 : jup M d 0 (M s 0) s = M s := jup_o (by omega)
  have r1 : jup (jup M d 0 (M s 0)) d 1 (M s 1) s = M s := by rw [jup_o (by omega), r0]
  have r2 : jup (jup (jup M d 0 (M s 0)) d 1 (M s 1)) d 2 (M s 2) s = M s := by rw [jup_o (by omega), r1]
  refine ⟨jcp (jcp (jcp (jcp (jcp (jcp (jup (jup (jup (jup M d 0 (M s 0)) d 1 (M s 1)) d 2 (M s 2)) d 3 (M s 3)) (d + 2) (s + 2) 9) (d + 4) (s + 4) 9) (d + 6) (s + 6) 8) (d + 8) (s + 8) 8) (d + 10) (s + 10) 8) (d + 12) (s + 12) 8, ?_, fun o ho => ?_, ?_, ?_, ?_, ?_, ?_, ?_, ?_⟩
  · unfold f35
    simp only [Option.bind_some, r0, r1, r2, copy_ok d1 s1 (show d + 2 ≠ s + 2 by omega), copy_ok d2 s2 (show d + 4 ≠ s + 4 by omega), copy_ok d3 s3 (show d + 6 ≠ s + 6 by omega), copy_ok d4 s4 (show d + 8 ≠ s + 8 by omega), copy_ok d5 s5 (show d + 10 ≠ s + 10 by omega), copy_ok d6 s6 (show d + 12 ≠ s + 12 by omega)]
  · rw [jcp_o (by omega), jcp_o (by omega), jcp_o (by omega), jcp_o (by omega), jcp_o (by omega), jcp_o (by omega), jup_o (by omega), jup_o (by omega), jup_o (by omega), jup_o (by omega)]
  · intro k hk
    rw [jcp_o (by omega), jcp_o (by omega), jcp_o (by omega), jcp_o (by omega), jcp_o (by omega), jcp_o (by omega)]
    rcases (show k = 0 ∨ k = 1 ∨ k = 2 ∨ k = 3 by omega) with rfl | rfl | rfl | rfl
    · rw [jup_nk (by omega), jup_nk (by omega), jup_nk (by omega), jup_same]
    · rw [jup_nk (by omega), jup_nk (by omega), jup_same]
    · rw [jup_nk (by omega), jup_same]
    · rw [jup_same]
  · intro k hk
    rw [jcp_o (by omega), jcp_o (by omega), jcp_o (by omega), jcp_o (by omega), jcp_o (by omega), jcp_in hk, jup_o (by omega), jup_o (by omega), jup_o (by omega), jup_o (by omega)]
  · intro k hk
    rw [jcp_o (by omega), jcp_o (by omega), jcp_o (by omega), jcp_o (by omega), jcp_in hk, jcp_o (by omega), jup_o (by omega), jup_o (by omega), jup_o (by omega), jup_o (by omega)]
  · intro k hk
    rw [jcp_o (by omega), jcp_o (by omega), jcp_o (by omega), jcp_in hk, jcp_o (by omega), jcp_o (by omega), jup_o (by omega), jup_o (by omega), jup_o (by omega), jup_o (by omega)]
  · intro k hk
    rw [jcp_o (by omega), jcp_o (by omega), jcp_in hk, jcp_o (by omega), jcp_o (by omega), jcp_o (by omega), jup_o (by omega), jup_o (by omega), jup_o (by omega), jup_o (by omega)]
  · intro k hk
    rw [jcp_o (by omega), jcp_in hk, jcp_o (by omega), jcp_o (by omega), jcp_o (by omega), jcp_o (by omega), jup_o (by omega), jup_o (by omega), jup_o (by omega), jup_o (by omega)]
  · intro k hk
    rw [jcp_in hk, jcp_o (by omega), jcp_o (by omega), jcp_o (by omega), jcp_o (by omega), jcp_o (by omega), jup_o (by omega), jup_o (by omega), jup_o (by omega), jup_o (by omega)]
theorem lif_mv {M M2 : JM} {o b o2 b2 n : Nat} (hn : n ≤ 9) (h : Lif M o b n) (c : Cpy M M2 o o2) (er : ∀ k, k < 61 → M2 199 (b2 + k) = M 199 (b + k)) : Lif M2 o2 b2 n := by
  obtain ⟨c0, c2, c4, c6, c8, c10, c12⟩ := c
  obtain ⟨h1, h2, ⟨d, hd, h3, h4, h5, h6⟩, h7, h8⟩ := h
  refine ⟨?_, ?_, ⟨d, hd, ?_, ?_, ?_, ?_⟩, ?_, ?_⟩
  · rw [c0 0 (by omega), show b2 = b2 + 0 from rfl, er 0 (by omega)]; exact h1
  · rw [c0 1 (by omega), er 10 (by omega)]; exact h2
  · rw [c0 2 (by omega)]; exact h3
  · rw [er 20 (by omega)]; exact h4
  · rw [c0 3 (by omega)]; exact h5
  · intro j hj
    obtain ⟨g1, g2, g3, g4, g5, g6, g7⟩ := h6 j hj
    have q : ∀ i, i < 5 → M2 199 (b2 + 21 + 5 * j + i) = M 199 (b + 21 + 5 * j + i) := fun i hi => by
      have := er (21 + 5 * j + i) (by omega)
      rw [show b2 + (21 + 5 * j + i) = b2 + 21 + 5 * j + i by omega, show b + (21 + 5 * j + i) = b + 21 + 5 * j + i by omega] at this
      exact this
    rw [c0 3 (by omega), c6 j (by omega), c8 j (by omega), c10 j (by omega), c12 j (by omega), q 4 (by omega), q 1 (by omega), q 2 (by omega), q 3 (by omega), show b2 + 21 + 5 * j = b2 + 21 + 5 * j + 0 from rfl, q 0 (by omega)]
    exact ⟨g1, g2, g3, g4, g5, g6, g7⟩
  · intro p hp
    have q1 := er (11 + p) (by omega)
    have q2 := er (1 + p) (by omega)
    rw [show b2 + (11 + p) = b2 + 11 + p by omega, show b + (11 + p) = b + 11 + p by omega] at q1
    rw [show b2 + (1 + p) = b2 + 1 + p by omega, show b + (1 + p) = b + 1 + p by omega] at q2
    rw [c2 p (by omega), c4 p (by omega), q1, q2]
    exact h7 p hp
  · intro p hp
    rw [c2 p (by omega)]
    rcases h8 p hp with h | ⟨q, hq, h9⟩
    · exact Or.inl h
    · exact Or.inr ⟨q, hq, by rw [c2 q (by omega)]; exact h9⟩
theorem Cpy.self {M M2 : JM} {o : Nat} (r : ∀ a, o ≤ a ∧ a ≤ o + 12 → M2 a = M a) : Cpy M M2 o o := ⟨fun k _ => by rw [r _ (by omega)], fun k _ => by rw [r _ (by omega)], fun k _ => by rw [r _ (by omega)], fun k _ => by rw [r _ (by omega)], fun k _ => by rw [r _ (by omega)], fun k _ => by rw [r _ (by omega)], fun k _ => by rw [r _ (by omega)]⟩
theorem Cpy.to {M M2 M3 : JM} {s d : Nat} (c : Cpy M M2 s d) (r : ∀ a, d ≤ a ∧ a ≤ d + 12 → M3 a = M2 a) : Cpy M M3 s d := by
  obtain ⟨c0, c2, c4, c6, c8, c10, c12⟩ := c
  exact ⟨fun k h => by rw [r _ (by omega)]; exact c0 k h, fun k h => by rw [r _ (by omega)]; exact c2 k h, fun k h => by rw [r _ (by omega)]; exact c4 k h, fun k h => by rw [r _ (by omega)]; exact c6 k h, fun k h => by rw [r _ (by omega)]; exact c8 k h, fun k h => by rw [r _ (by omega)]; exact c10 k h, fun k h => by rw [r _ (by omega)]; exact c12 k h⟩
/-- the shelves -/
theorem shelf_8 : (List.range 8).all (fun q => f48 47 (N q) == some (49 + 13 * q)) = true := by decide +kernel
theorem shelf_2 : (List.range 2).all (fun q => f48 153 (N q) == some (155 + 13 * q)) = true := by decide +kernel
theorem sh8 {q : Nat} (h : q < 8) : f48 47 (N q) = some (49 + 13 * q) := eq_of_beq (List.all_eq_true.mp shelf_8 q (List.mem_range.mpr h))
theorem sh2 {q : Nat} (h : q < 2) : f48 153 (N q) = some (155 + 13 * q) := eq_of_beq (List.all_eq_true.mp shelf_2 q (List.mem_range.mpr h))
theorem lok_p {q : Nat} (h : q < 8) : Lok (49 + 13 * q) := by
  rcases (show q = 0 ∨ q = 1 ∨ q = 2 ∨ q = 3 ∨ q = 4 ∨ q = 5 ∨ q = 6 ∨ q = 7 by omega) with rfl | rfl | rfl | rfl | rfl | rfl | rfl | rfl <;> exact lok (by decide)
theorem lok_k {q : Nat} (h : q < 2) : Lok (155 + 13 * q) := by
  rcases (show q = 0 ∨ q = 1 by omega) with rfl | rfl <;> exact lok (by decide)
theorem ring_all : (List.range 8).all (fun q => jir (N q + 1) 8 == some (N ((q + 1) % 8)) && (jir (N q + 8 - 1) 8 == some (N ((q + 7) % 8)))) = true := by decide +kernel
theorem ring_up {q : Nat} (h : q < 8) : jir (N q + 1) 8 = some (N ((q + 1) % 8)) := by
  have := List.all_eq_true.mp ring_all q (List.mem_range.mpr h)
  rw [Bool.and_eq_true] at this
  exact eq_of_beq this.1
theorem ring_dn {q : Nat} (h : q < 8) : jir (N q + 8 - 1) 8 = some (N ((q + 7) % 8)) := by
  have := List.all_eq_true.mp ring_all q (List.mem_range.mpr h)
  rw [Bool.and_eq_true] at this
  exact eq_of_beq this.2
def up8 (u : Nat) : Nat := if u < 8 then u + 1 else 8
theorem min_all : (List.range 9).all (fun u => f209 (N u + 1) 8 == some (N (up8 u))) = true := by decide +kernel
theorem min_ok {u : Nat} (h : u ≤ 8) : f209 (N u + 1) 8 = some (N (up8 u)) := eq_of_beq (List.all_eq_true.mp min_all u (List.mem_range.mpr (by omega)))
theorem c_rem {M : JM} {u q : Nat} (hu : M 0 6 = N u) (hq : M 0 5 = N q) (hu8 : u ≤ 8) (hq8 : q < 8) : ∃ M1, f105 0 M = some M1 ∧ M1 0 5 = N ((q + 1) % 8) ∧ M1 0 6 = N (up8 u) ∧ (∀ k, k ≠ 5 → k ≠ 6 → M1 0 k = M 0 k) ∧ (∀ o, o ≠ 0 → ¬ (49 + 13 * q ≤ o ∧ o ≤ 61 + 13 * q) → M1 o = M o) ∧ Cpy M M1 34 (49 + 13 * q) := by
  obtain ⟨X, e, r, c⟩ := c_cpy (M := M) (lok_p hq8) lok_34 (Or.inl (by omega))
  have x0 : X 0 = M 0 := r 0 (by omega)
  refine ⟨jup (jup X 0 5 (N ((q + 1) % 8))) 0 6 (N (up8 u)), ?_, ?_, jup_same, fun k h5 h6 => ?_, fun o h0 ho => ?_, ?_⟩
  · unfold f105 f49
    rw [xp_4, xp_3, hq, sh8 hq8]
    simp only [Option.bind_some, e]
    rw [x0, hq, ring_up hq8]
    simp only [Option.bind_some]
    rw [jup_nk (by omega), x0, hu, min_ok hu8]
    rfl
  · rw [jup_nk (by omega), jup_same]
  · rw [jup_nk (by omega), jup_nk (by omega), x0]
  · rw [jup_o h0, jup_o h0]
    exact r o (by omega)
  · exact c.to (fun a ha => by rw [jup_o (by omega), jup_o (by omega)])
/-- copies in the reference's row -/
def jmv (M : JM) (t f K : Nat) : JM := fun o j => if o = 199 ∧ t ≤ j ∧ j < t + K then M 199 (j - t + f) else M o j
theorem jmv_o {M : JM} {t f K o : Nat} (h : o ≠ 199) : jmv M t f K o = M o := by
  funext j
  show (if o = 199 ∧ _ then _ else _) = _
  rw [if_neg (fun q => h q.1)]
theorem jmv_out {M : JM} {t f K j : Nat} (h : ¬ (t ≤ j ∧ j < t + K)) : jmv M t f K 199 j = M 199 j := by
  show (if 199 = 199 ∧ _ then _ else _) = _
  rw [if_neg (fun q => h q.2)]
theorem jmv_in {M : JM} {t f K j : Nat} (h : j < K) : jmv M t f K 199 (t + j) = M 199 (f + j) := by
  show (if 199 = 199 ∧ _ then _ else _) = _
  rw [if_pos ⟨rfl, by omega, by omega⟩, show t + j - t + f = f + j by omega]
theorem jmv_0 {M : JM} {t f : Nat} : jmv M t f 0 = M := by
  funext o j
  show (if _ then _ else _) = _
  rw [if_neg (by omega)]
theorem jmv_s {M : JM} {t f K : Nat} : jup (jmv M t f K) 199 (t + K) (M 199 (f + K)) = jmv M t f (K + 1) := by
  funext o j
  rw [jup_at]
  show (if o = 199 ∧ j = t + K then _ else if o = 199 ∧ t ≤ j ∧ j < t + K then _ else _) = if o = 199 ∧ t ≤ j ∧ j < t + (K + 1) then _ else _
  by_cases h1 : o = 199 ∧ j = t + K
  · rw [if_pos h1, if_pos ⟨h1.1, by omega, by omega⟩, h1.2, show t + K - t + f = f + K by omega]
  · rw [if_neg h1]
    by_cases h2 : o = 199 ∧ t ≤ j ∧ j < t + K
    · rw [if_pos h2, if_pos ⟨h2.1, by omega, by omega⟩]
    · rw [if_neg h2, if_neg (fun q => by omega)]
theorem m_copy {M : JM} {t f : Nat} (ht : t + 61 ≤ 671) (hf : f + 61 ≤ 671) (h : t ≤ f ∨ f + 61 ≤ t) : f169 198 (N f) (N t) M = some (jmv M t f 61) := by
  unfold f169
  have key := (loop_run (F := fun n c (_ : Unit) => f169_2 n 198 (N f) (N t) (N c) (jmv M t f c)) (K := 61) (f := fun _ s => s) (out := fun _ => some (jmv M t f 61)) (P := fun _ _ => True) (fun n c s hc _ => ⟨?_, trivial⟩) (fun n s _ => ?_) 61 0 () 1000 (by omega) (by omega) trivial).1
  · rw [jmv_0] at key; exact key
  · show f169_2 (n + 1) 198 (N f) (N t) (N c) (jmv M t f c) = f169_2 n 198 (N f) (N t) (N (c + 1)) (jmv M t f (c + 1))
    rw [f169_2, if_pos (show N c < (61 : Int32) from (N_lt (b := 61) (by omega) (by omega)).mpr hc), mp_0, N_add, N_add, la_199 (by omega), jmv_out (show ¬ (t ≤ f + c ∧ f + c < t + c) by omega)]
    simp only [Option.bind_some, sa_199 (show t + c < 671 by omega), jmv_s, N_succ]
  · show f169_2 (n + 1) 198 (N f) (N t) (N 61) (jmv M t f 61) = _
    rw [f169_2, if_neg (show ¬ N 61 < (61 : Int32) by decide)]
theorem m_shift {M : JM} (h : M 198 1 = 8) : f170_2 1000 198 (0 : Int32) M = f170_47 198 (jmv M 183 244 427) := by
  have key := (loop_run (F := fun n c (_ : Unit) => f170_2 n 198 (N c) (jmv M 183 244 c)) (K := 427) (f := fun _ s => s) (out := fun _ => f170_47 198 (jmv M 183 244 427)) (P := fun _ _ => True) (fun n c s hc _ => ⟨?_, trivial⟩) (fun n s _ => ?_) 427 0 () 1000 (by omega) (by omega) trivial).1
  · rw [jmv_0] at key; exact key
  · show f170_2 (n + 1) 198 (N c) (jmv M 183 244 c) = f170_2 n 198 (N (c + 1)) (jmv M 183 244 (c + 1))
    rw [f170_2, if_pos (show N c < (427 : Int32) from (N_lt (b := 427) (by omega) (by omega)).mpr hc), jmv_o (by decide), h, if_pos rfl, mp_0, show (183 : Int32) = N 183 from rfl, show (61 : Int32) = N 61 from rfl, N_add, N_add, la_199 (by omega), jmv_out (show ¬ (183 ≤ 183 + c + 61 ∧ 183 + c + 61 < 183 + c) by omega), show 183 + c + 61 = 244 + c by omega]
    simp only [Option.bind_some, sa_199 (show 183 + c < 671 by omega), jmv_s, N_succ]
  · show f170_2 (n + 1) 198 (N 427) (jmv M 183 244 427) = _
    rw [f170_2, if_neg (show ¬ N 427 < (427 : Int32) by decide)]
theorem m_rem {X : JM} {u : Nat} (hu : X 198 1 = N u) (hu8 : u ≤ 8) : ∃ X2 v sh, (u < 8 ∧ v = u ∧ sh = 0 ∨ u = 8 ∧ v = 7 ∧ sh = 61) ∧ f170 198 X = some X2 ∧ X2 198 1 = N (up8 u) ∧ (∀ k, k ≠ 1 → X2 198 k = X 198 k) ∧ (∀ o, o ≠ 198 → o ≠ 199 → X2 o = X o) ∧ (∀ j, j < 183 → X2 199 j = X 199 j) ∧ (∀ j, 183 ≤ j → j < 183 + 61 * v → X2 199 j = X 199 (j + sh)) ∧ (∀ k, k < 61 → X2 199 (183 + 61 * v + k) = X 199 k) := by
  have e61 : ∀ v, v < 8 → (183 : Int32) + (61 : Int32) * N v = N (183 + 61 * v) := fun v _ => by
    rw [show (183 : Int32) = N 183 from rfl, show (61 : Int32) = N 61 from rfl, N_mul, N_add]
  have fin : ∀ (Z : JM) (v w : Nat), v < 8 → w = v + 1 → ∃ X2, ((f169 198 (0 : Int32) ((183 : Int32) + ((61 : Int32) * (jup Z 198 1 (N v) 198 1))) (jup Z 198 1 (N v))).bind fun M7 => ((some (jup M7 198 1 ((M7 198 1) + (1 : Int32)))).bind fun M8 => (some M8))) = some X2 ∧ X2 198 1 = N w ∧ (∀ k, k ≠ 1 → X2 198 k = Z 198 k) ∧ (∀ o, o ≠ 198 → o ≠ 199 → X2 o = Z o) ∧ (∀ j, j < 183 + 61 * v → X2 199 j = Z 199 j) ∧ (∀ k, k < 61 → X2 199 (183 + 61 * v + k) = Z 199 k) := by
    intro Z v w hv hw
    have em := m_copy (M := jup Z 198 1 (N v)) (t := 183 + 61 * v) (f := 0) (by omega) (by omega) (Or.inr (by omega))
    have e1 : jmv (jup Z 198 1 (N v)) (183 + 61 * v) 0 61 198 1 = N v := by rw [jmv_o (by decide), jup_same]
    refine ⟨jup (jmv (jup Z 198 1 (N v)) (183 + 61 * v) 0 61) 198 1 (N w), ?_, jup_same, fun k hk => ?_, fun o h1 h2 => ?_, fun j hj => ?_, fun k hk => ?_⟩
    · rw [jup_same, e61 v hv, show (0 : Int32) = N 0 from rfl, em]
      simp only [Option.bind_some, e1, N_succ, hw]
    · rw [jup_nk (by omega), jmv_o (by decide), jup_nk (by omega)]
    · rw [jup_o h1, jmv_o h2, jup_o h1]
    · rw [jup_o (by decide), jmv_out (by omega), jup_o (by decide)]
    · rw [jup_o (by decide), jmv_in hk, jup_o (by decide), Nat.zero_add]
  by_cases h : u < 8
  · obtain ⟨X2, g1, g2, g3, g4, g5, g6⟩ := fin X u (u + 1) h rfl
    refine ⟨X2, u, 0, Or.inl ⟨h, rfl, rfl⟩, ?_, ?_, g3, g4, fun j hj => g5 j (by omega), fun j _ hj => g5 j hj, g6⟩
    · unfold f170
      rw [f170_2, if_pos (show (0 : Int32) < 427 by decide), hu, if_neg (show ¬ N u = (8 : Int32) from fun q => absurd ((N_eq (a := u) (b := 8) (by omega) (by omega)).mp q) (by omega))]
      unfold f170_47
      rw [hu, if_neg (show ¬ N u = (8 : Int32) from fun q => absurd ((N_eq (a := u) (b := 8) (by omega) (by omega)).mp q) (by omega))]
      unfold f170_66
      rw [show N u - (0 : Int32) = N u from Int32.sub_zero _]
      exact g1
    · unfold up8
      rw [if_pos h]; exact g2
  · have e : u = 8 := by omega
    subst e
    obtain ⟨X2, g1, g2, g3, g4, g5, g6⟩ := fin (jmv X 183 244 427) 7 8 (by omega) rfl
    refine ⟨X2, 7, 61, Or.inr ⟨rfl, rfl, rfl⟩, ?_, g2, fun k hk => ?_, fun o h1 h2 => ?_, fun j hj => ?_, fun j h1 h2 => ?_, fun k hk => ?_⟩
    · unfold f170
      rw [m_shift hu]
      unfold f170_47
      rw [jmv_o (by decide), hu, if_pos (show N 8 = (8 : Int32) from rfl)]
      unfold f170_66
      rw [show N 8 - (1 : Int32) = N 7 by decide]
      rw [Option.bind_some]
      exact g1
    · rw [g3 k hk, jmv_o (by decide)]
    · rw [g4 o h1 h2, jmv_o h2]
    · rw [g5 j (by omega), jmv_out (by omega)]
    · have := jmv_in (M := X) (t := 183) (f := 244) (K := 427) (j := j - 183) (by omega)
      rw [show 183 + (j - 183) = j by omega, show 244 + (j - 183) = j + 61 by omega] at this
      rw [g5 j (by omega), this]
    · rw [g6 k hk, jmv_out (by omega)]
/-- a deed: what is remembered on both sides, then the life changes -/
theorem deed {M : JM} {n k : Nat} (h1 : Ctr M 4 n k) (h2 : Agr M 4 n k) (h3 : Rng M n k) (h4 : M 198 22 = -1) (h5 : Lif M 34 0 n) (h6 : Fst M n) (h7 : Txt M) (h8 : Und M n) (h9 : Kep M n) : ∃ M1, f105 0 M = some M1 ∧ (∀ o, o ≠ 0 → ¬ (49 ≤ o ∧ o ≤ 152) → M1 o = M o) ∧ ∀ X1, (∀ o, ¬ (34 ≤ o ∧ o ≤ 46) → o ≠ 210 → X1 o = M1 o) → ∃ X2, f170 198 X1 = some X2 ∧ (∀ o, o ≠ 198 → o ≠ 199 → X2 o = X1 o) ∧ (∀ j, j ≠ 1 → X2 198 j = X1 198 j) ∧ (∀ j, j < 183 → X2 199 j = X1 199 j) ∧ ∀ Y, (∀ o, ¬ (34 ≤ o ∧ o ≤ 46) → o ≠ 199 → o ≠ 210 → Y o = X2 o) → (∀ j, 61 ≤ j → Y 199 j = X2 199 j) → Lif Y 34 0 n → Inv Y := by
  have hn9 : n ≤ 9 := h1.2.1
  obtain ⟨u, q, a1, a2, a3, a4, a5, a6⟩ := h8
  obtain ⟨M1, c1, c2, c3, c4, c5, c6⟩ := c_rem a3 a5 a1 a2
  refine ⟨M1, c1, fun o h0 ho => c5 o h0 (by omega), fun X1 hX1 => ?_⟩
  have x198 : X1 198 = M 198 := by rw [hX1 198 (by omega) (by omega), c5 198 (by omega) (by omega)]
  have x199 : X1 199 = M 199 := by rw [hX1 199 (by omega) (by omega), c5 199 (by omega) (by omega)]
  obtain ⟨X2, v, sh, hv, d1, d2, d3, d4, d5, d6, d7⟩ := m_rem (X := X1) (u := u) (by rw [x198]; exact a4) a1
  refine ⟨X2, d1, d4, d3, d5, fun Y y1 y2 y3 => ?_⟩
  have old : ∀ o, o ≠ 0 → ¬ (34 ≤ o ∧ o ≤ 46) → ¬ (49 ≤ o ∧ o ≤ 152) → o ≠ 198 → o ≠ 199 → o ≠ 210 → Y o = M o := fun o g0 g1 g2 g3 g4 g5 => by
    rw [y1 o g1 g4 g5, d4 o g3 g4, hX1 o g1 g5, c5 o g0 (by omega)]
  have past : ∀ o, 49 ≤ o → o ≤ 152 → Y o = M1 o := fun o g1 g2 => by
    rw [y1 o (by omega) (by omega) (by omega), d4 o (by omega) (by omega), hX1 o (by omega) (by omega)]
  have y0 : Y 0 = M1 0 := by rw [y1 0 (by omega) (by omega) (by omega), d4 0 (by omega) (by omega), hX1 0 (by omega) (by omega)]
  have y198 : ∀ j, j ≠ 1 → Y 198 j = M 198 j := fun j hj => by rw [y1 198 (by omega) (by omega) (by omega), d3 j hj, x198]
  have y199 : ∀ j, 61 ≤ j → j < 183 → Y 199 j = M 199 j := fun j g1 g2 => by rw [y2 j g1, d5 j g2, x199]
  refine ⟨n, k, ctr_fr (fun o ho => old o (by omega) (by omega) (by omega) (by omega) (by omega) (by omega)) h1, agr_fr (fun o ho => old o (by omega) (by omega) (by omega) (by omega) (by omega) (by omega)) (fun j hj => y198 j (by omega)) h2, rng_fr (fun o ho => old o (by omega) (by omega) (by omega) (by omega) (by omega) (by omega)) h3, by rw [y198 22 (by omega)]; exact h4, y3, fst_fr (fun o ho => old o (by omega) (by omega) (by omega) (by omega) (by omega) (by omega)) (y198 27 (by omega)) (by rw [old 181 (by omega) (by omega) (by omega) (by omega) (by omega) (by omega)]) h6, txt_fr (fun o ho => old o (by omega) (by omega) (by omega) (by omega) (by omega) (by omega)) (y198 4 (by omega)) (by rw [old 1 (by omega) (by omega) (by omega) (by omega) (by omega) (by omega)]) h7, ?_, fun i hi => ?_⟩
  · refine ⟨up8 u, (q + 1) % 8, by unfold up8; split <;> omega, by omega, by rw [y0]; exact c3, by rw [y1 198 (by omega) (by omega) (by omega)]; exact d2, by rw [y0]; exact c2, fun i hi => ?_⟩
    have hup : up8 u = v + 1 := by unfold up8; split <;> omega
    rw [hup] at hi ⊢
    by_cases hiv : i = v
    · have ei : ((q + 1) % 8 + 8 - (v + 1) + i) % 8 = q := by omega
      rw [ei]
      refine lif_mv hn9 h5 (c6.to (fun a ha => past a (by omega) (by omega))) (fun k hk => ?_)
      rw [y2 _ (by omega), hiv, d7 k hk, x199, Nat.zero_add]
    · have hne : ((q + 1) % 8 + 8 - (v + 1) + i) % 8 ≠ q := by omega
      have hlt : ((q + 1) % 8 + 8 - (v + 1) + i) % 8 < 8 := Nat.mod_lt _ (by omega)
      rcases hv with ⟨g1, g2, g3⟩ | ⟨g1, g2, g3⟩
      · have ei : ((q + 1) % 8 + 8 - (v + 1) + i) % 8 = (q + 8 - u + i) % 8 := by omega
        rw [ei] at hne hlt ⊢
        refine lif_mv hn9 (a6 i (by omega)) (Cpy.self (fun a ha => by rw [past a (by omega) (by omega), c5 a (by omega) (by omega)])) (fun k hk => ?_)
        rw [y2 _ (by omega), d6 _ (by omega) (by omega), g3, x199]; rfl
      · have ei : ((q + 1) % 8 + 8 - (v + 1) + i) % 8 = (q + 8 - u + (i + 1)) % 8 := by omega
        rw [ei] at hne hlt ⊢
        refine lif_mv hn9 (a6 (i + 1) (by omega)) (Cpy.self (fun a ha => by rw [past a (by omega) (by omega), c5 a (by omega) (by omega)])) (fun k hk => ?_)
        rw [y2 _ (by omega), d6 _ (by omega) (by omega), g3, x199, show 183 + 61 * i + k + 61 = 183 + 61 * (i + 1) + k by omega]
  · rw [old 200 (by omega) (by omega) (by omega) (by omega) (by omega) (by omega), y0, c4 8 (by omega) (by omega)]
    refine ⟨(h9 i hi).1, fun hb => lif_mv hn9 ((h9 i hi).2 hb) (Cpy.self (fun a ha => old a (by omega) (by omega) (by omega) (by omega) (by omega) (by omega))) (fun k hk => y199 _ (by omega) (by omega))⟩
