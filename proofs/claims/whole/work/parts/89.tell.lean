/-! PURE: what the clauses make of a country, on both sides -/
section TE
variable {L : Nat → Int32} {t : Nat}
def Wf (D : JM) (n k : Nat) : Prop := D 19 0 = N n ∧ n ≤ 9 ∧ D 19 1 = N k ∧ k ≤ 6 ∧ (∀ p, p < n → okn n (D 25 p) ∧ okn n (D 27 p)) ∧ (∀ p, p < n → rng 3 (D 21 p) ∧ rng 100 (D 23 p)) ∧ (∀ c, c < k → rng 4 (D 31 c) ∧ rng 100 (D 33 c)) ∧ rng 7 (D 19 2) ∧ ∀ p, bt (D 19 10) p = (decide (p < n) && decide (D 21 p = 1))
def Sim (D X : JM) (n k : Nat) : Prop := X 198 7 = N n ∧ X 198 13 = N k ∧ X 198 16 = D 19 2 ∧ (∀ p, p < n → D 21 p = X 203 p ∧ D 23 p = X 204 p ∧ D 25 p = X 205 p ∧ D 27 p = X 206 p ∧ D 29 p = X 207 p) ∧ ∀ c, c < k → D 31 c = X 208 c ∧ D 33 c = X 209 c
theorem okn_up {n : Nat} {x : Int32} (h : okn n x) : okn (n + 1) x := by
  rcases h with h | ⟨j, hj, h⟩
  · exact Or.inl h
  · exact Or.inr ⟨j, by omega, h⟩
theorem stc_wf {D : JM} {n k w : Nat} {a b c : Int32} (h : Wf D n k) (hc : csT n k w = true) (hw : w < 13) (ha : argO n w a b c) : Wf (stc w a b c n k D) (nxn w n) (nxk w k) := by
  obtain ⟨h1, h2, h3, h4, h5, h6, h7, h8, h9⟩ := h
  obtain ⟨q1, q2⟩ := nx_le hc h2 h4
  obtain ⟨s0, s1⟩ := stc_n (a := a) (b := b) (c := c) h1 h3 hw
  refine ⟨s0, q1, s1, q2, ?_⟩
  obtain ⟨a1, a2, a3, a4⟩ := ha
  unfold stc nxn nxk
  by_cases w4 : w < 4
  · rw [if_pos w4, if_pos w4, if_pos w4]
    refine ⟨fun p hp => ?_, fun p hp => ?_, fun c hc => ?_, ?_, fun p => ?_⟩
    · rw [jup_o (by decide), jup_o (by decide), jup_o (by decide), jup_o (by decide), jup_o (by decide), jup_o (by decide)]; exact h5 p hp
    · rw [jup_o (by decide), jup_o (by decide), jup_o (by decide), jup_o (by decide), jup_o (by decide), jup_o (by decide)]; exact h6 p hp
    · have v1 : jup (jup (jup D 31 k (N w)) 33 k a) 19 1 (N (k + 1)) 31 c = if c = k then N w else D 31 c := by rw [jup_o (by decide), jup_o (by decide), jup_at]; simp only [true_and]
      have v2 : jup (jup (jup D 31 k (N w)) 33 k a) 19 1 (N (k + 1)) 33 c = if c = k then a else D 33 c := by rw [jup_o (by decide), jup_at, jup_o (by decide)]; simp only [true_and]
      rw [v1, v2]
      by_cases e : c = k
      · rw [if_pos e, if_pos e]
        exact ⟨⟨w, w4, rfl⟩, a1 (by omega)⟩
      · rw [if_neg e, if_neg e]
        exact h7 c (by omega)
    · rw [jup_nk (by omega), jup_o (by decide), jup_o (by decide)]; exact h8
    · rw [jup_nk (by omega), jup_o (by decide), jup_o (by decide), jup_o (by decide), jup_o (by decide), jup_o (by decide)]; exact h9 p
  · rw [if_neg w4, if_neg w4, if_neg w4]
    by_cases w7 : w < 7
    · rw [if_pos w7, if_pos w7, if_pos (show w < 11 by omega)]
      have hn : n < 9 := by
        unfold csT at hc
        rw [if_neg w4, if_pos w7] at hc
        exact of_decide_eq_true hc
      refine ⟨fun p hp => ?_, fun p hp => ?_, h7, h8, fun p => ?_⟩
      · show okn (n + 1) (if p = n then -1 else D 25 p) ∧ okn (n + 1) (if p = n then -1 else D 27 p)
        by_cases e : p = n
        · rw [if_pos e, if_pos e]; exact ⟨Or.inl rfl, Or.inl rfl⟩
        · rw [if_neg e, if_neg e]
          exact ⟨okn_up (h5 p (by omega)).1, okn_up (h5 p (by omega)).2⟩
      · show rng 3 (if p = n then N (w - 4) else D 21 p) ∧ rng 100 (if p = n then a else D 23 p)
        by_cases e : p = n
        · rw [if_pos e, if_pos e]; exact ⟨⟨w - 4, by omega, rfl⟩, a1 w7⟩
        · rw [if_neg e, if_neg e]; exact h6 p (by omega)
      · show bt (if N (w - 4) = 1 then D 19 10 ||| B n else D 19 10) p = (decide (p < n + 1) && decide ((if p = n then N (w - 4) else D 21 p) = 1))
        by_cases e : p = n
        · rw [if_pos e, decide_eq_true (show p < n + 1 by omega), Bool.true_and]
          by_cases e1 : N (w - 4) = 1
          · rw [if_pos e1, decide_eq_true e1, bt_or, bt_B (by omega), decide_eq_true e, Bool.or_true]
          · rw [if_neg e1, decide_eq_false e1, h9 p, decide_eq_false (show ¬ p < n by omega), Bool.false_and]
        · rw [if_neg e, show decide (p < n + 1) = decide (p < n) from decide_eq_decide.mpr (by omega), ← h9 p]
          by_cases e1 : N (w - 4) = 1
          · rw [if_pos e1, bt_or, bt_B (by omega), decide_eq_false e, Bool.or_false]
          · rw [if_neg e1]
    · rw [if_neg w7, if_neg w7]
      by_cases w9 : w < 9
      · obtain ⟨A, b0, hA, hB, rfl, rfl, hC, _⟩ := a2 (by omega) w9
        rw [if_pos w9, if_neg (show ¬ w = 11 by omega), if_pos (show w < 11 by omega), N_nat (by omega)]
        refine ⟨fun p hp => ?_, fun p hp => ?_, fun c hc => ?_, ?_, fun p => ?_⟩
        · rw [jup_o (by decide), jup_at, jup_at, jup_o (by decide)]
          by_cases e : p = A
          · rw [if_pos ⟨rfl, e⟩, if_pos ⟨rfl, e⟩]
            refine ⟨Or.inr ⟨b0, by omega, rfl⟩, ?_⟩
            rcases hC with hC | ⟨C, hC, hC2, _⟩
            · exact Or.inl hC
            · exact Or.inr ⟨C, by omega, hC2⟩
          · rw [if_neg (fun q => e q.2), if_neg (fun q => e q.2)]
            exact h5 p hp
        · rw [jup_o (by decide), jup_o (by decide), jup_o (by decide), jup_o (by decide)]; exact h6 p hp
        · rw [jup_o (by decide), jup_o (by decide), jup_o (by decide), jup_o (by decide)]; exact h7 c hc
        · rw [jup_o (by decide), jup_o (by decide)]; exact h8
        · rw [jup_o (by decide), jup_o (by decide), jup_o (by decide), jup_o (by decide)]; exact h9 p
      · rw [if_neg w9]
        by_cases w9' : w = 9
        · rw [if_pos w9', if_neg (show ¬ w = 11 by omega), if_pos (show w < 11 by omega)]
          refine ⟨fun p hp => ?_, fun p hp => ?_, fun c hc => ?_, ?_, fun p => ?_⟩
          · rw [jup_o (by decide), jup_o (by decide)]; exact h5 p hp
          · rw [jup_o (by decide), jup_o (by decide)]; exact h6 p hp
          · rw [jup_o (by decide), jup_o (by decide)]; exact h7 c hc
          · rw [jup_o (by decide)]; exact h8
          · rw [jup_o (by decide), jup_o (by decide)]; exact h9 p
        · rw [if_neg w9']
          by_cases w10 : w = 10
          · rw [if_pos w10, if_neg (show ¬ w = 11 by omega), if_pos (show w < 11 by omega)]
            refine ⟨fun p hp => ?_, fun p hp => ?_, fun c hc => ?_, ?_, fun p => ?_⟩
            · rw [jup_o (by decide), jup_o (by decide)]; exact h5 p hp
            · rw [jup_o (by decide), jup_o (by decide)]; exact h6 p hp
            · rw [jup_o (by decide), jup_o (by decide)]; exact h7 c hc
            · rw [jup_same]; exact a4 w10
            · rw [jup_nk (by omega), jup_o (by decide)]; exact h9 p
          · rw [if_neg w10]
            by_cases w11 : w = 11
            · rw [if_pos w11, if_pos w11, if_neg (show ¬ w < 11 by omega)]
              refine ⟨fun p hp => absurd hp (Nat.not_lt_zero _), fun p hp => absurd hp (Nat.not_lt_zero _), fun c hc => absurd hc (Nat.not_lt_zero _), ⟨2, by omega, ?_⟩, fun p => ?_⟩
              · rw [jup_nk (by omega), jup_same]; rfl
              · rw [jup_nk (by omega), jup_nk (by omega), jup_same, bt_zero]; rfl
            · rw [if_neg w11, if_neg w11, if_neg (show ¬ w < 11 by omega)]
              refine ⟨fun p hp => ?_, fun p hp => ?_, fun c hc => absurd hc (Nat.not_lt_zero _), ?_, fun p => ?_⟩
              · rw [jup_o (by decide), jup_o (by decide)]; exact h5 p hp
              · rw [jup_o (by decide), jup_o (by decide)]; exact h6 p hp
              · rw [jup_nk (by omega)]; exact h8
              · rw [jup_nk (by omega), jup_o (by decide)]; exact h9 p
def okE : List (Nat × Int32 × Int32 × Int32) → Nat → Nat → Prop
  | [], _, _ => True
  | e :: l, n, k => (e.1 < 13 ∧ csT n k e.1 = true ∧ argO n e.1 e.2.1 e.2.2.1 e.2.2.2) ∧ okE l (nxn e.1 n) (nxk e.1 k)
theorem prT_ok : ∀ (d p n k : Nat) (l : List (Nat × Int32 × Int32 × Int32)), p ≤ t → n ≤ 9 → k ≤ 6 → prT L t d p n k = .inr l → okE l n k ∧ l.length ≤ d
  | 0, _, _, _, _, _, _, _, h => by cases h
  | d + 1, p, n, k, l, hp, hn, hk, h => by
    rw [prT] at h
    cases hc : clT L t p n k with
    | inl f => rw [hc] at h; cases h
    | inr r =>
      obtain ⟨w, a, b, c, q⟩ := r
      rw [hc] at h
      dsimp only at h
      obtain ⟨k1, k2, k3, k4⟩ := clT_ok hp hn hc
      obtain ⟨n9, n6⟩ := nx_le k2 hn hk
      have hs := (skT_r (L := L) k3).2
      by_cases et : skT L t q = t
      · rw [if_pos et] at h
        cases h
        exact ⟨⟨⟨k1, k2, k4⟩, trivial⟩, Nat.succ_le_succ (Nat.zero_le d)⟩
      · rw [if_neg et] at h
        by_cases e : L (skT L t q) = 59 ∧ d ≠ 0
        · rw [if_pos e] at h
          cases hr : prT L t d (skT L t q + 1) (nxn w n) (nxk w k) with
          | inl f => rw [hr] at h; cases h
          | inr l2 =>
            rw [hr] at h
            cases h
            obtain ⟨i1, i2⟩ := prT_ok d (skT L t q + 1) (nxn w n) (nxk w k) l2 (by omega) n9 n6 hr
            exact ⟨⟨⟨k1, k2, k4⟩, i1⟩, Nat.succ_le_succ i2⟩
        · rw [if_neg e] at h
          cases h
theorem stl_wf : ∀ (l : List (Nat × Int32 × Int32 × Int32)) (n k : Nat) (D : JM), okE l n k → Wf D n k → ∃ n2 k2, Wf (stL l n k D) n2 k2
  | [], n, k, _, _, h => ⟨n, k, h⟩
  | e :: l, n, k, D, ho, h => stl_wf l _ _ _ ho.2 (stc_wf h ho.1.2.1 ho.1.1 ho.1.2.2)
/-- what telling leaves alone -/
def FrT (X Y : JM) : Prop := (∀ o, o ≠ 198 → ¬ (203 ≤ o ∧ o ≤ 209) → Y o = X o) ∧ ∀ m, m ≠ 7 → m ≠ 13 → m ≠ 16 → Y 198 m = X 198 m
theorem frt_tr {X Y Z : JM} (h : FrT X Y) (g : FrT Y Z) : FrT X Z := ⟨fun o a b => (g.1 o a b).trans (h.1 o a b), fun m a b c => (g.2 m a b c).trans (h.2 m a b c)⟩
theorem r_8 {w : Nat} (hw : w < 13) : (rcT w = 8 ↔ w = 7) := by
  have q : (List.range 13).all (fun w => (decide (rcT w = 8) == decide (w = 7))) = true := by decide +kernel
  have q2 := List.all_eq_true.mp q w (List.mem_range.mpr hw)
  simp only [beq_iff_eq, decide_eq_decide] at q2
  exact q2
theorem m_tell {D X : JM} {j n k w : Nat} {a b c : Int32} (hW : Wf D n k) (hS : Sim D X n k) (hE : EntM X j w a b c) (hj : j < 14) (hc : csT n k w = true) (hw : w < 13) (ha : argO n w a b c) : ∃ Y, f144 198 (N (4 * j)) X = some Y ∧ Sim (stc w a b c n k D) Y (nxn w n) (nxk w k) ∧ FrT X Y := by
  obtain ⟨a1, a2, a3, a4⟩ := ha
  obtain ⟨g1, g2, g3, g4, g5⟩ := hS
  obtain ⟨e1, e2, e3, e4⟩ := hE
  obtain ⟨r1, r2, r3, r4, r5, r6⟩ := r_ne hw
  have r7 := r_8 hw
  have start : f144 198 (N (4 * j)) X = (if b2 (decide (w < 4)) = (0 : Int32) then (if b2 (decide (4 ≤ w ∧ w < 7)) = (0 : Int32) then (if rcT w = (8 : Int32) then (f144_74 198 (N (4 * j)) (rcT w) (X 202 (4 * j + 1)) (X 202 (4 * j + 2)) X) else (if rcT w = (9 : Int32) then (f144_74 198 (N (4 * j)) (rcT w) (X 202 (4 * j + 1)) (X 202 (4 * j + 2)) X) else (if rcT w = (10 : Int32) then ((jsa (jpt 198 12) (X 202 (4 * j + 1)) (X 202 (4 * j + 2)) X).bind fun M15 => (some M15)) else (if rcT w = (11 : Int32) then (some (jup X 198 16 (X 202 (4 * j + 1)))) else (if rcT w = (12 : Int32) then (some (jup X 198 13 (0 : Int32))) else some (jup (jup (jup X 198 7 (0 : Int32)) 198 13 (0 : Int32)) 198 16 (2 : Int32))))))) else ((f142 198 (rcT w - (5 : Int32)) (X 202 (4 * j + 1)) X).bind fun M23 => (some M23))) else ((f143 198 (rcT w - (1 : Int32)) (X 202 (4 * j + 1)) X).bind fun M24 => (some M24))) := by
    unfold f144
    rw [mp_5, show (1 : Int32) = N 1 from rfl, show (2 : Int32) = N 2 from rfl, N_add, N_add, la_202 (by omega), Option.bind_some, la_202 (by omega), Option.bind_some, la_202 (by omega), Option.bind_some, e1, r_137 hw, Option.bind_some, r_138 hw, Option.bind_some]
    rfl
  rw [start]
  unfold stc nxn nxk
  by_cases w4 : w < 4
  · have hk : k < 6 := by
      unfold csT at hc
      rw [if_pos w4] at hc
      exact of_decide_eq_true hc
    rw [decide_eq_true w4, if_neg (show ¬ b2 true = 0 by decide), if_pos w4, if_pos w4, if_pos w4, e2 (by omega)]
    have ew : rcT w - 1 = N w := by
      unfold rcT
      rw [if_pos (by omega)]
      exact (Int32.ofNat_sub (w + 1) 1 (by omega)).symm
    unfold f143
    rw [ew, g2, mp_14, sa_208 hk, Option.bind_some, mp_15, jup_o (by decide), g2, sa_209 hk, Option.bind_some, jup_o (by decide), jup_o (by decide), g2, N_succ, Option.bind_some]
    refine ⟨_, rfl, ⟨?_, jup_same, ?_, fun p hp => ?_, fun c hc => ?_⟩, fun o x y => ?_, fun m x y z => ?_⟩
    · rw [jup_nk (by omega), jup_o (by decide), jup_o (by decide)]; exact g1
    · rw [jup_nk (by omega), jup_o (by decide), jup_o (by decide), jup_nk (by omega), jup_o (by decide), jup_o (by decide)]; exact g3
    · have u1 : ∀ o, o ≠ 31 → o ≠ 33 → o ≠ 19 → jup (jup (jup D 31 k (N w)) 33 k a) 19 1 (N (k + 1)) o = D o := fun o x y z => by rw [jup_o z, jup_o y, jup_o x]
      have u2 : ∀ o, o ≠ 208 → o ≠ 209 → o ≠ 198 → jup (jup (jup X 208 k (N w)) 209 k a) 198 13 (N (k + 1)) o = X o := fun o x y z => by rw [jup_o z, jup_o y, jup_o x]
      rw [u1 21 (by decide) (by decide) (by decide), u1 23 (by decide) (by decide) (by decide), u1 25 (by decide) (by decide) (by decide), u1 27 (by decide) (by decide) (by decide), u1 29 (by decide) (by decide) (by decide), u2 203 (by decide) (by decide) (by decide), u2 204 (by decide) (by decide) (by decide), u2 205 (by decide) (by decide) (by decide), u2 206 (by decide) (by decide) (by decide), u2 207 (by decide) (by decide) (by decide)]
      exact g4 p hp
    · have v1 : jup (jup (jup D 31 k (N w)) 33 k a) 19 1 (N (k + 1)) 31 c = if c = k then N w else D 31 c := by rw [jup_o (by decide), jup_o (by decide), jup_at]; simp only [true_and]
      have v2 : jup (jup (jup D 31 k (N w)) 33 k a) 19 1 (N (k + 1)) 33 c = if c = k then a else D 33 c := by rw [jup_o (by decide), jup_at, jup_o (by decide)]; simp only [true_and]
      have v3 : jup (jup (jup X 208 k (N w)) 209 k a) 198 13 (N (k + 1)) 208 c = if c = k then N w else X 208 c := by rw [jup_o (by decide), jup_o (by decide), jup_at]; simp only [true_and]
      have v4 : jup (jup (jup X 208 k (N w)) 209 k a) 198 13 (N (k + 1)) 209 c = if c = k then a else X 209 c := by rw [jup_o (by decide), jup_at, jup_o (by decide)]; simp only [true_and]
      rw [v1, v2, v3, v4]
      by_cases e : c = k
      · rw [if_pos e, if_pos e, if_pos e, if_pos e]; exact ⟨rfl, rfl⟩
      · rw [if_neg e, if_neg e, if_neg e, if_neg e]; exact g5 c (by omega)
    · rw [jup_o x, jup_o (by omega), jup_o (by omega)]
    · rw [jup_nk (by omega), jup_o (by decide), jup_o (by decide)]
  · rw [decide_eq_false w4, if_pos (show b2 false = 0 from rfl), if_neg w4, if_neg w4, if_neg w4]
    by_cases w7 : w < 7
    · have hn : n < 9 := by
        unfold csT at hc
        rw [if_neg w4, if_pos w7] at hc
        exact of_decide_eq_true hc
      rw [decide_eq_true (show 4 ≤ w ∧ w < 7 by omega), if_neg (show ¬ b2 true = 0 by decide), if_pos w7, if_pos w7, if_pos (show w < 11 by omega), e2 (by omega)]
      have ew : rcT w - 5 = N (w - 4) := by
        unfold rcT
        rw [if_pos (by omega), show w - 4 = w + 1 - 5 by omega]
        exact (Int32.ofNat_sub (w + 1) 5 (by omega)).symm
      rw [ew]
      obtain ⟨Z, z1, z2, z3, z4, z5, z6, z7, z8, z9⟩ := m_addone (kd := N (w - 4)) (y := a) g1 hn
      rw [z1, Option.bind_some]
      refine ⟨Z, rfl, ⟨z2, by rw [z8 13 (by omega)]; exact g2, by rw [z8 16 (by omega)]; exact g3, fun p hp => ?_, fun c hc => ?_⟩, fun o x y => z9 o x (by omega) (by omega) (by omega) (by omega) (by omega), fun m x _ _ => z8 m x⟩
      · show (if p = n then N (w - 4) else D 21 p) = Z 203 p ∧ (if p = n then a else D 23 p) = Z 204 p ∧ (if p = n then -1 else D 25 p) = Z 205 p ∧ (if p = n then -1 else D 27 p) = Z 206 p ∧ (if p = n then 0 else D 29 p) = Z 207 p
        rw [z3, z4, z5, z6, z7]
        by_cases e : p = n
        · simp only [if_pos e, and_self]
        · simp only [if_neg e]; exact g4 p (by omega)
      · rw [z9 208 (by decide) (by decide) (by decide) (by decide) (by decide) (by decide), z9 209 (by decide) (by decide) (by decide) (by decide) (by decide) (by decide)]
        exact g5 c hc
    · rw [decide_eq_false (show ¬ (4 ≤ w ∧ w < 7) by omega), if_pos (show b2 false = 0 from rfl), if_neg w7, if_neg w7]
      by_cases w9 : w < 9
      · obtain ⟨A, b0, hA, hB, rfl, rfl, hC, hC8⟩ := a2 (by omega) w9
        have hn9 := hW.2.1
        have to74 : (if rcT w = (8 : Int32) then (f144_74 198 (N (4 * j)) (rcT w) (X 202 (4 * j + 1)) (X 202 (4 * j + 2)) X) else (if rcT w = (9 : Int32) then (f144_74 198 (N (4 * j)) (rcT w) (X 202 (4 * j + 1)) (X 202 (4 * j + 2)) X) else (if rcT w = (10 : Int32) then ((jsa (jpt 198 12) (X 202 (4 * j + 1)) (X 202 (4 * j + 2)) X).bind fun M15 => (some M15)) else (if rcT w = (11 : Int32) then (some (jup X 198 16 (X 202 (4 * j + 1)))) else (if rcT w = (12 : Int32) then (some (jup X 198 13 (0 : Int32))) else some (jup (jup (jup X 198 7 (0 : Int32)) 198 13 (0 : Int32)) 198 16 (2 : Int32))))))) = some (jup (jup X 205 A (N b0)) 206 A c) := by
          rw [e2 (by omega), e3 (by omega) (by omega)]
          unfold f144_74 f144_105
          have h3 : N (4 * j) + (3 : Int32) = N (4 * j + 3) := by rw [show (3 : Int32) = N 3 from rfl, N_add]
          rw [mp_10, sa_205 (by omega), Option.bind_some, mp_5, h3, la_202 (by omega), Option.bind_some, mp_11, sa_206 (by omega), sa_206 (by omega), jup_o (by decide), Option.bind_some, Option.bind_some]
          by_cases w7' : w = 7
          · rw [if_pos (r7.mpr w7'), if_pos (r7.mpr w7'), e4 w7']
          · have w8 : w = 8 := by omega
            rw [if_neg (fun q => w7' (r7.mp q)), if_pos (r6.mpr w8), if_neg (fun q => w7' (r7.mp q)), hC8 w8]
        rw [to74, if_pos w9, if_neg (show ¬ w = 11 by omega), if_pos (show w < 11 by omega), N_nat (by omega)]
        refine ⟨_, rfl, ⟨?_, ?_, ?_, fun p hp => ?_, fun c hc => ?_⟩, fun o x y => ?_, fun m x y z => ?_⟩
        · rw [jup_o (by decide), jup_o (by decide)]; exact g1
        · rw [jup_o (by decide), jup_o (by decide)]; exact g2
        · rw [jup_o (by decide), jup_o (by decide), jup_o (by decide), jup_o (by decide)]; exact g3
        · have u1 : ∀ o, o ≠ 25 → o ≠ 27 → jup (jup D 25 A (N b0)) 27 A c o = D o := fun o x y => by rw [jup_o y, jup_o x]
          have u2 : ∀ o, o ≠ 205 → o ≠ 206 → jup (jup X 205 A (N b0)) 206 A c o = X o := fun o x y => by rw [jup_o y, jup_o x]
          have v1 : jup (jup D 25 A (N b0)) 27 A c 25 p = if p = A then N b0 else D 25 p := by rw [jup_o (by decide), jup_at]; simp only [true_and]
          have v2 : jup (jup D 25 A (N b0)) 27 A c 27 p = if p = A then c else D 27 p := by rw [jup_at, jup_o (by decide)]; simp only [true_and]
          have v3 : jup (jup X 205 A (N b0)) 206 A c 205 p = if p = A then N b0 else X 205 p := by rw [jup_o (by decide), jup_at]; simp only [true_and]
          have v4 : jup (jup X 205 A (N b0)) 206 A c 206 p = if p = A then c else X 206 p := by rw [jup_at, jup_o (by decide)]; simp only [true_and]
          obtain ⟨w1, w2, w3, w4, w5⟩ := g4 p hp
          rw [u1 21 (by decide) (by decide), u1 23 (by decide) (by decide), v1, v2, u1 29 (by decide) (by decide), u2 203 (by decide) (by decide), u2 204 (by decide) (by decide), v3, v4, u2 207 (by decide) (by decide)]
          by_cases e : p = A
          · rw [if_pos e, if_pos e, if_pos e, if_pos e]; exact ⟨w1, w2, rfl, rfl, w5⟩
          · rw [if_neg e, if_neg e, if_neg e, if_neg e]; exact ⟨w1, w2, w3, w4, w5⟩
        · rw [jup_o (by decide), jup_o (by decide), jup_o (by decide), jup_o (by decide), jup_o (by decide), jup_o (by decide), jup_o (by decide), jup_o (by decide)]; exact g5 c hc
        · rw [jup_o (by omega), jup_o (by omega)]
        · rw [jup_o (by decide), jup_o (by decide)]
      · rw [if_neg (fun q => absurd (r7.mp q) (by omega)), if_neg (fun q => absurd (r6.mp q) (by omega)), if_neg w9]
        by_cases w9' : w = 9
        · obtain ⟨A, hA, rfl, _⟩ := a3 w9'
          have hn9 := hW.2.1
          rw [if_pos (r5.mpr w9'), if_pos w9', if_neg (show ¬ w = 11 by omega), if_pos (show w < 11 by omega), e2 (by omega), e3 (by omega) (by omega), mp_12, sa_207 (by omega), Option.bind_some, N_nat (by omega)]
          refine ⟨_, rfl, ⟨?_, ?_, ?_, fun p hp => ?_, fun c hc => ?_⟩, fun o x y => ?_, fun m x y z => ?_⟩
          · rw [jup_o (by decide)]; exact g1
          · rw [jup_o (by decide)]; exact g2
          · rw [jup_o (by decide), jup_o (by decide)]; exact g3
          · obtain ⟨w1, w2, w3, w4, w5⟩ := g4 p hp
            rw [jup_o (by decide), jup_o (by decide), jup_o (by decide), jup_o (by decide), jup_o (by decide), jup_o (by decide), jup_o (by decide), jup_o (by decide), jup_at, jup_at]
            by_cases e : p = A
            · rw [if_pos ⟨rfl, e⟩, if_pos ⟨rfl, e⟩]; exact ⟨w1, w2, w3, w4, rfl⟩
            · rw [if_neg (fun q => e q.2), if_neg (fun q => e q.2)]; exact ⟨w1, w2, w3, w4, w5⟩
          · rw [jup_o (by decide), jup_o (by decide), jup_o (by decide), jup_o (by decide)]; exact g5 c hc
          · rw [jup_o (by omega)]
          · rw [jup_o (by decide)]
        · rw [if_neg (fun q => w9' (r5.mp q)), if_neg w9']
          by_cases w10 : w = 10
          · rw [if_pos (r4.mpr w10), if_pos w10, if_neg (show ¬ w = 11 by omega), if_pos (show w < 11 by omega), e2 (by omega)]
            refine ⟨_, rfl, ⟨?_, ?_, ?_, fun p hp => ?_, fun c hc => ?_⟩, fun o x y => ?_, fun m x y z => ?_⟩
            · rw [jup_nk (by omega)]; exact g1
            · rw [jup_nk (by omega)]; exact g2
            · rw [jup_same, jup_same]
            · have u1 : ∀ o, o ≠ 19 → jup D 19 2 a o = D o := fun o x => jup_o x
              have u2 : ∀ o, o ≠ 198 → jup X 198 16 a o = X o := fun o x => jup_o x
              rw [u1 21 (by decide), u1 23 (by decide), u1 25 (by decide), u1 27 (by decide), u1 29 (by decide), u2 203 (by decide), u2 204 (by decide), u2 205 (by decide), u2 206 (by decide), u2 207 (by decide)]
              exact g4 p hp
            · rw [jup_o (by decide), jup_o (by decide), jup_o (by decide), jup_o (by decide)]; exact g5 c hc
            · rw [jup_o x]
            · rw [jup_nk (by omega)]
          · rw [if_neg (fun q => w10 (r4.mp q)), if_neg w10]
            by_cases w11 : w = 11
            · rw [if_neg (fun q => absurd (r3.mp q) (by omega)), if_pos w11, if_pos w11, if_neg (show ¬ w < 11 by omega)]
              refine ⟨_, rfl, ⟨?_, ?_, ?_, fun p hp => absurd hp (Nat.not_lt_zero _), fun c hc => absurd hc (Nat.not_lt_zero _)⟩, fun o x y => ?_, fun m x y z => ?_⟩
              · rw [jup_nk (by omega), jup_nk (by omega), jup_same]; rfl
              · rw [jup_nk (by omega), jup_same]; rfl
              · rw [jup_same, jup_nk (by omega), jup_same]
              · rw [jup_o x, jup_o x, jup_o x]
              · rw [jup_nk (by omega), jup_nk (by omega), jup_nk (by omega)]
            · have w12 : w = 12 := by omega
              rw [if_pos (r3.mpr w12), if_neg w11, if_neg w11, if_neg (show ¬ w < 11 by omega)]
              refine ⟨_, rfl, ⟨?_, ?_, ?_, fun p hp => ?_, fun c hc => absurd hc (Nat.not_lt_zero _)⟩, fun o x y => ?_, fun m x y z => ?_⟩
              · rw [jup_nk (by omega)]; exact g1
              · rw [jup_same]; rfl
              · rw [jup_nk (by omega), jup_nk (by omega)]; exact g3
              · have u1 : ∀ o, o ≠ 19 → jup D 19 1 0 o = D o := fun o x => jup_o x
                have u2 : ∀ o, o ≠ 198 → jup X 198 13 0 o = X o := fun o x => jup_o x
                rw [u1 21 (by decide), u1 23 (by decide), u1 25 (by decide), u1 27 (by decide), u1 29 (by decide), u2 203 (by decide), u2 204 (by decide), u2 205 (by decide), u2 206 (by decide), u2 207 (by decide)]
                exact g4 p hp
              · rw [jup_o x]
              · rw [jup_nk (by omega)]
theorem entl_mv {X Y : JM} (r : Y 202 = X 202) : ∀ (l : List (Nat × Int32 × Int32 × Int32)) (j : Nat), EntL X j l → EntL Y j l
  | [], _, _ => trivial
  | e :: l, j, h => ⟨ent_mv h.1 (fun m _ => by rw [r]), entl_mv r l (j + 1) h.2⟩
theorem m_tells : ∀ (l : List (Nat × Int32 × Int32 × Int32)) (j n k f : Nat) (D X : JM), okE l n k → Wf D n k → Sim D X n k → EntL X j l → X 198 6 = N (j + l.length) → j + l.length ≤ 14 → l.length < f → ∃ Y n2 k2, f146_13 f 198 (N j) X = f146_13 1 198 (N (j + l.length)) Y ∧ Wf (stL l n k D) n2 k2 ∧ Sim (stL l n k D) Y n2 k2 ∧ FrT X Y
  | _, _, _, _, 0, _, _, _, _, _, _, _, _, hf => absurd hf (Nat.not_lt_zero _)
  | [], j, n, k, f + 1, D, X, _, hW, hS, _, h6, hj, _ => by
    refine ⟨X, n, k, ?_, hW, hS, fun _ _ _ => rfl, fun _ _ _ _ => rfl⟩
    rw [List.length_nil, Nat.add_zero] at h6 hj
    show f146_13 (f + 1) 198 (N j) X = f146_13 1 198 (N j) X
    rw [f146_13, f146_13, h6, if_neg (fun q => Nat.lt_irrefl _ ((N_lt (by omega) (by omega)).mp q)), if_neg (fun q => Nat.lt_irrefl _ ((N_lt (by omega) (by omega)).mp q))]
  | e :: l, j, n, k, f + 1, D, X, hO, hW, hS, hE, h6, hj, hf => by
    obtain ⟨w, a, b, c⟩ := e
    rw [List.length_cons] at h6 hj hf ⊢
    obtain ⟨Y, y1, y2, y3⟩ := m_tell hW hS hE.1 (by omega) hO.1.2.1 hO.1.1 hO.1.2.2
    have hW2 := stc_wf hW hO.1.2.1 hO.1.1 hO.1.2.2
    obtain ⟨Z, n2, k2, z1, z2, z3, z4⟩ := m_tells l (j + 1) _ _ f _ Y hO.2 hW2 y2 (entl_mv (y3.1 202 (by decide) (by omega)) l (j + 1) hE.2) (by rw [y3.2 6 (by omega) (by omega) (by omega), h6, Nat.add_assoc, Nat.add_comm 1]) (by omega) (by omega)
    refine ⟨Z, n2, k2, ?_, z2, z3, frt_tr y3 z4⟩
    rw [f146_13, h6, if_pos ((N_lt (by omega) (by omega)).mpr (by omega)), show (4 : Int32) * N j = N (4 * j) by rw [show (4 : Int32) = N 4 from rfl, N_mul], y1, Option.bind_some, N_succ, z1, show j + 1 + l.length = j + (l.length + 1) by omega]
end TE
