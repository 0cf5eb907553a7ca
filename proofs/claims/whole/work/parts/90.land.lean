/-! PURE: land -/
section LA
variable {L : Nat → Int32} {t : Nat}
theorem c_begin {A : JM} {n : Nat} (h0 : A 4 0 = N n) (hn : n ≤ 9) : ∃ C, f34 34 4 A = some C ∧ C 34 0 = 0 ∧ C 34 1 = B n - 1 ∧ C 34 2 = 0 ∧ C 34 3 = 0 ∧ (∀ p, p < 9 → C 36 p = -1 ∧ C 38 p = A 14 p) ∧ ∀ o, o ≠ 34 → o ≠ 36 → o ≠ 38 → C o = A o := by
  obtain ⟨Q, hQ⟩ : ∃ Q, Q = jup (jup (jup (jup A 34 0 0) 34 1 (B n - 1)) 34 2 0) 34 3 0 := ⟨_, rfl⟩
  have qo : ∀ o, o ≠ 34 → Q o = A o := fun o ho => by rw [hQ, jup_o ho, jup_o ho, jup_o ho, jup_o ho]
  have fo : ∀ o, o ≠ 36 → jfl Q 36 9 (-1) o = Q o := fun o ho => by
    funext k
    unfold jfl
    rw [if_neg (fun q => ho q.1)]
  refine ⟨jcp (jfl Q 36 9 (-1)) 38 14 9, ?_, ?_, ?_, ?_, ?_, fun p hp => ⟨?_, ?_⟩, fun o a b c => ?_⟩
  · unfold f34
    rw [Option.bind_some, jup_o (by decide), h0, low_N (by omega), Option.bind_some, Option.bind_some, Option.bind_some, Option.bind_some, ← hQ, fill_ok (show Row (jpt 34 4) 36 9 from lok_34.1), Option.bind_some, copy_ok (show Row (jpt 34 5) 38 9 from lok_34.2.1) (show Row (jpt 4 7) 14 9 from cok_4.2.2.2.2.1) (by decide)]
    rfl
  · rw [jcp_o (by decide), fo 34 (by decide), hQ, jup_nk (by omega), jup_nk (by omega), jup_nk (by omega), jup_same]
  · rw [jcp_o (by decide), fo 34 (by decide), hQ, jup_nk (by omega), jup_nk (by omega), jup_same]
  · rw [jcp_o (by decide), fo 34 (by decide), hQ, jup_nk (by omega), jup_same]
  · rw [jcp_o (by decide), fo 34 (by decide), hQ, jup_same]
  · rw [jcp_o (by decide)]
    unfold jfl
    rw [if_pos ⟨rfl, hp⟩]
  · rw [jcp_in hp, fo 14 (by decide), qo 14 (by decide)]
  · rw [jcp_o c, fo o b, qo o a]
def bg1 (X : JM) (i : Nat) : JM := fun o k => if o = 199 ∧ i ≤ k ∧ k < 61 then (if 11 ≤ k ∧ k ≤ 19 then -1 else 0) else X o k
def bg2 (X : JM) (i n : Nat) : JM := fun o k => if o = 199 ∧ 1 + i ≤ k ∧ k < 1 + n then X 207 (k - 1) else X o k
theorem m_bg1 : ∀ (d i f : Nat) (X : JM), i + d = 61 → d < f → f145_2 f 198 (N i) X = f145_41 1000 198 0 (bg1 X i)
  | _, _, 0, _, _, hf => absurd hf (Nat.not_lt_zero _)
  | 0, i, f + 1, X, hi, _ => by
    have e : bg1 X i = X := by
      funext o k
      unfold bg1
      rw [if_neg (by omega)]
    rw [f145_2, if_neg (show ¬ N i < (61 : Int32) from fun q => absurd ((N_lt (b := 61) (by omega) (by omega)).mp q) (by omega)), e]
  | d + 1, i, f + 1, X, hi, hf => by
    have step : ∀ v : Int32, v = (if 11 ≤ i ∧ i ≤ 19 then -1 else 0) → f145_32 (f145_2 f) 198 (N i) v (N i) (jpt 198 0) X = f145_41 1000 198 0 (bg1 X i) := fun v hv => by
      unfold f145_32
      rw [mp_0, sa_199 (by omega), Option.bind_some, N_succ, m_bg1 d (i + 1) f _ (by omega) (by omega)]
      congr 1
      funext o k
      unfold bg1
      by_cases h1 : o = 199 ∧ i ≤ k ∧ k < 61
      · rw [if_pos h1]
        by_cases h2 : k = i
        · rw [if_neg (by omega), h1.1, h2, jup_same, hv]
        · rw [if_pos (by omega)]
      · rw [if_neg h1, if_neg (by omega), jup_nk (by omega)]
    have hin : f125 ((N i).toInt64) (11 : Int64) (19 : Int64) = some (b2 (decide (11 ≤ i ∧ i ≤ 19))) := by
      rw [show (11 : Int64) = (11 : Int32).toInt64 from rfl, show (19 : Int64) = (19 : Int32).toInt64 from rfl, in_ok]
      congr 2
      have e1 : decide (N i < (11 : Int32)) = decide (i < 11) := decide_eq_decide.mpr (N_lt (b := 11) (by omega) (by omega))
      have e2 : decide ((19 : Int32) < N i) = decide (19 < i) := decide_eq_decide.mpr (N_lt (a := 19) (by omega) (by omega))
      rw [e1, e2]
      by_cases h1 : i < 11
      · rw [decide_eq_true h1, decide_eq_false (show ¬ (11 ≤ i ∧ i ≤ 19) by omega)]; rfl
      · rw [decide_eq_false h1]
        by_cases h2 : 19 < i
        · rw [decide_eq_true h2, decide_eq_false (show ¬ (11 ≤ i ∧ i ≤ 19) by omega)]; rfl
        · rw [decide_eq_false h2, decide_eq_true (show 11 ≤ i ∧ i ≤ 19 by omega)]; rfl
    rw [f145_2, if_pos (show N i < (61 : Int32) from (N_lt (b := 61) (by omega) (by omega)).mpr (by omega)), hin, Option.bind_some]
    by_cases h : 11 ≤ i ∧ i ≤ 19
    · rw [decide_eq_true h, if_neg (show ¬ b2 true = 0 by decide)]
      exact step _ (by rw [if_pos h])
    · rw [decide_eq_false h, if_pos (show b2 false = 0 from rfl)]
      exact step _ (by rw [if_neg h])
theorem m_bg2 {n : Nat} (hn : n ≤ 9) : ∀ (d i f : Nat) (X : JM), i + d = n → d < f → X 198 7 = N n → f145_41 f 198 (N i) X = f145_41 1 198 (N n) (bg2 X i n)
  | _, _, 0, _, _, hf, _ => absurd hf (Nat.not_lt_zero _)
  | 0, i, f + 1, X, hi, _, h7 => by
    have e : bg2 X i n = X := by
      funext o k
      unfold bg2
      rw [if_neg (by omega)]
    have ei : i = n := hi
    rw [e, ei, f145_41, f145_41, h7, if_neg (fun q => Nat.lt_irrefl _ ((N_lt (by omega) (by omega)).mp q)), if_neg (fun q => Nat.lt_irrefl _ ((N_lt (by omega) (by omega)).mp q))]
  | d + 1, i, f + 1, X, hi, hf, h7 => by
    rw [f145_41, h7, if_pos ((N_lt (by omega) (by omega)).mpr (by omega)), mp_12, la_207 (by omega), Option.bind_some, mp_0, show (1 : Int32) + N i = N (1 + i) by rw [show (1 : Int32) = N 1 from rfl, N_add], sa_199 (by omega), Option.bind_some, N_succ, m_bg2 hn d (i + 1) f _ (by omega) (by omega) (by rw [jup_o (by decide)]; exact h7)]
    congr 1
    funext o k
    unfold bg2
    rw [jup_o (by decide)]
    by_cases h1 : o = 199 ∧ 1 + i ≤ k ∧ k < 1 + n
    · rw [if_pos h1]
      by_cases h2 : k = 1 + i
      · rw [if_neg (by omega), h1.1, h2, jup_same, show 1 + i - 1 = i by omega]
      · rw [if_pos (by omega)]
    · rw [if_neg h1, if_neg (by omega), jup_nk (by omega)]
theorem m_begin {X : JM} {n : Nat} (h7 : X 198 7 = N n) (hn : n ≤ 9) : ∃ Y, f145 198 X = some Y ∧ Y 199 0 = 0 ∧ Y 199 10 = B n - 1 ∧ Y 199 20 = 0 ∧ (∀ p, p < n → Y 199 (11 + p) = -1 ∧ Y 199 (1 + p) = X 207 p) ∧ Y 198 1 = 0 ∧ Y 198 27 = 0 ∧ (∀ i, i < 2 → Y 200 i = 0) ∧ (∀ o, o ≠ 198 → o ≠ 199 → o ≠ 200 → Y o = X o) ∧ ∀ m, m ≠ 1 → m ≠ 27 → Y 198 m = X 198 m := by
  obtain ⟨P, hP⟩ : ∃ P, P = bg2 (bg1 X 0) 0 n := ⟨_, rfl⟩
  have p7 : bg1 X 0 198 7 = N n := by
    show (if 198 = 199 ∧ 0 ≤ 7 ∧ 7 < 61 then _ else X 198 7) = N n
    rw [if_neg (by omega)]; exact h7
  have po : ∀ o, o ≠ 199 → P o = X o := fun o ho => by
    funext k
    rw [hP]
    show (if o = 199 ∧ 1 + 0 ≤ k ∧ k < 1 + n then _ else (if o = 199 ∧ 0 ≤ k ∧ k < 61 then _ else X o k)) = X o k
    rw [if_neg (fun q => ho q.1), if_neg (fun q => ho q.1)]
  have p199 : ∀ k, k < 61 → P 199 k = if 1 ≤ k ∧ k < 1 + n then X 207 (k - 1) else if 11 ≤ k ∧ k ≤ 19 then -1 else 0 := fun k hk => by
    rw [hP]
    show (if 199 = 199 ∧ 1 + 0 ≤ k ∧ k < 1 + n then bg1 X 0 207 (k - 1) else (if 199 = 199 ∧ 0 ≤ k ∧ k < 61 then (if 11 ≤ k ∧ k ≤ 19 then -1 else 0) else X 199 k)) = _
    have e7 : bg1 X 0 207 (k - 1) = X 207 (k - 1) := by
      show (if 207 = 199 ∧ 0 ≤ k - 1 ∧ k - 1 < 61 then _ else X 207 (k - 1)) = _
      rw [if_neg (by omega)]
    by_cases h1 : 1 ≤ k ∧ k < 1 + n
    · rw [if_pos (show 199 = 199 ∧ 1 + 0 ≤ k ∧ k < 1 + n by omega), if_pos h1, e7]
    · rw [if_neg (show ¬ (199 = 199 ∧ 1 + 0 ≤ k ∧ k < 1 + n) by omega), if_neg h1, if_pos (show 199 = 199 ∧ 0 ≤ k ∧ k < 61 by omega)]
  obtain ⟨Y, hY⟩ : ∃ Y, Y = jup (jup (jup (jup (jup P 199 10 (B n - 1)) 198 1 0) 200 0 0) 200 1 0) 198 27 0 := ⟨_, rfl⟩
  have y199 : ∀ k, k ≠ 10 → Y 199 k = P 199 k := fun k hk => by rw [hY, jup_o (by decide), jup_o (by decide), jup_o (by decide), jup_o (by decide), jup_nk (by omega)]
  refine ⟨Y, ?_, ?_, ?_, ?_, fun p hp => ⟨?_, ?_⟩, ?_, ?_, fun i hi => ?_, fun o a b c => ?_, fun m a b => ?_⟩
  · unfold f145
    rw [show (0 : Int32) = N 0 from rfl, m_bg1 61 0 1000 X (by omega) (by omega), show (0 : Int32) = N 0 from rfl, m_bg2 hn n 0 1000 (bg1 X 0) (by omega) (by omega) p7, ← hP, f145_41, po 198 (by decide), h7, if_neg (fun q => Nat.lt_irrefl _ ((N_lt (by omega) (by omega)).mp q)), mp_0, show (10 : Int32) = N 10 from rfl, sa_199 (by omega), Option.bind_some, Option.bind_some, mp_2, show ((0 : Int32) &&& 1) = 0 from rfl, show (1 : Int32) = N 1 from rfl, show (0 : Int32) = N 0 from rfl, sa_200 (by omega), Option.bind_some, sa_200 (by omega), Option.bind_some, Option.bind_some, hY]
    rfl
  · rw [y199 0 (by omega), p199 0 (by omega), if_neg (by omega), if_neg (by omega)]
  · rw [hY, jup_o (by decide), jup_o (by decide), jup_o (by decide), jup_o (by decide), jup_same]
  · rw [y199 20 (by omega), p199 20 (by omega), if_neg (by omega), if_neg (by omega)]
  · rw [y199 _ (by omega), p199 _ (by omega), if_neg (by omega), if_pos (by omega)]
  · rw [y199 _ (by omega), p199 _ (by omega), if_pos (by omega), show 1 + p - 1 = p by omega]
  · rw [hY, jup_nk (by omega), jup_o (by decide), jup_o (by decide), jup_same]
  · rw [hY, jup_same]
  · rcases (show i = 0 ∨ i = 1 by omega) with rfl | rfl
    · rw [hY, jup_o (by decide), jup_nk (by omega), jup_same]
    · rw [hY, jup_o (by decide), jup_same]
  · rw [hY, jup_o a, jup_o c, jup_o c, jup_o a, jup_o b, po o b]
  · rw [hY, jup_nk (by omega), jup_o (by decide), jup_o (by decide), jup_nk (by omega), jup_o (by decide), po 198 (by decide)]
theorem t_landC {xs : Option (List Int32)} {M : JM} (h : Inv M) : ∃ a M1 M2, f71 xs 0 M = some (a, M1) ∧ f146 198 M1 = some (a, M2) ∧ Inv M2 := by
  have hI := h
  obtain ⟨n, k, h1, h2, h3, h4, h5, h6, ⟨t, t1, t2, t3, t4⟩, h8, h9⟩ := h
  obtain ⟨M1, Y, m1, m2, y1, y2, y3, y4⟩ := c_text (xs := xs) (L := M 3) (t := t) h1 ⟨t2, t1, fun i hi => rfl⟩
  have tx : ∀ X : JM, X 198 = M 198 → X 201 = M 201 → TxM X (M 3) t := fun X e1 e2 => ⟨by rw [e1]; exact t3, t1, fun i hi => by rw [e2]; exact (t4 i hi).1.symm⟩
  have cls : f71 xs 0 M = (if Y 1 3 = -1 then ((f1 4 19 Y).bind fun M4 => ((f53 1 M4).bind fun z13 => ((f34 34 4 z13.2).bind fun M7 => ((f26 181 M7).bind fun z12 => ((some (jup z12.2 0 8 (0 : Int32))).bind fun M10 => ((some (jup M10 0 6 (0 : Int32))).bind fun M11 => (some ((M11 1 4), M11)))))))) else some (-4, Y)) := by
    unfold f71
    rw [xp_0, xp_1, xp_2, xp_3, xp_9, m1, Option.bind_some, y1, Option.bind_some]
  rw [cls]
  cases hp : prT (M 3) t 14 0 n k with
  | inl fp =>
    rw [hp] at y4
    dsimp only at y4
    obtain ⟨v, Z, z1, z2, z3⟩ := m_text (n := n) (k := k) (tx Y (y2 198 (by decide) (by omega)) (y2 201 (by decide) (by omega))) (by rw [y2 198 (by decide) (by omega)]; exact h2.1) (by rw [y2 198 (by decide) (by omega)]; exact h2.2.1) h1.2.1 h1.2.2.2.1
    rw [hp] at z3
    dsimp only at z3
    refine ⟨-4, Y, Z, by rw [y4.2, if_neg (N_m1 (by omega))], ?_, Inv_same hI (fun o k hk => ?_)⟩
    · unfold f146
      rw [z1, Option.bind_some, z3]
      dsimp only
      rw [if_neg (N_m1 (by omega))]
    · unfold sck at hk
      by_cases o198 : o = 198
      · subst o198
        rw [z2.2 k (by omega) (by omega), y2 198 (by decide) (by omega)]
      · rw [z2.1 o o198 (by omega)]
        by_cases o1 : o = 1
        · subst o1
          exact y3 k (by omega) (by omega) (by omega)
        · rw [y2 o o1 (by omega)]
  | inr l =>
    rw [hp] at y4
    dsimp only at y4
    obtain ⟨c1, c2, ⟨kc, c3, c4, c5⟩, c6, c7⟩ := y4
    obtain ⟨hO, hlen⟩ := prT_ok (L := M 3) 14 0 n k l (Nat.zero_le t) h1.2.1 h1.2.2.2.1 hp
    have hW : Wf M1 n k := by
      refine ⟨by rw [m2.1 0 (by omega)]; exact h1.1, h1.2.1, by rw [m2.1 1 (by omega)]; exact h1.2.2.1, h1.2.2.2.1, fun p hp => ?_, fun p hp => ?_, fun c hc => ?_, by rw [m2.1 2 (by omega)]; exact h3.2.2, fun p => ?_⟩
      · have q := m2.2.1 p (by have := h1.2.1; omega)
        rw [show M1 25 p = M 10 p from q.2.2.1, show M1 27 p = M 12 p from q.2.2.2.1]
        exact h1.2.2.2.2.1 p hp
      · have q := m2.2.1 p (by have := h1.2.1; omega)
        rw [show M1 21 p = M 6 p from q.1, show M1 23 p = M 8 p from q.2.1]
        exact h3.1 p hp
      · have q := m2.2.2 c (by have := h1.2.2.2.1; omega)
        rw [show M1 31 c = M 16 c from q.1, show M1 33 c = M 18 c from q.2]
        exact h3.2.1 c hc
      · rw [m2.1 10 (by omega), h1.2.2.2.2.2.2.1 p]
        by_cases hp : p < n
        · have q := m2.2.1 p (by have := h1.2.1; omega)
          rw [show M1 21 p = M 6 p from q.1]
        · rw [decide_eq_false hp, Bool.false_and, Bool.false_and]
    obtain ⟨n2, k2, hW2⟩ := stl_wf l n k M1 hO hW
    obtain ⟨A, a1, a2, a3⟩ := c_ccpy (M := Y) (s := 19) cok_4 cok_19 (by omega)
    have dn : Y 19 0 = N n2 := by rw [c6 0 (by omega) (by omega) (by omega)]; exact hW2.1
    have hA0 : jup A 1 1 0 4 0 = N n2 := by rw [jup_o (by decide), a3.1 0 (by omega)]; exact dn
    obtain ⟨C, b1, b2', b3, b4, b5, b6, b7⟩ := c_begin hA0 hW2.2.1
    obtain ⟨F, hF⟩ : ∃ F, F = jup (jup (jup C 181 0 0) 0 8 0) 0 6 0 := ⟨_, rfl⟩
    have fo : ∀ o, o ≠ 0 → o ≠ 181 → F o = C o := fun o a b => by rw [hF, jup_o a, jup_o a, jup_o b]
    have fC : ∀ o, o ≠ 0 → o ≠ 181 → o ≠ 34 → o ≠ 36 → o ≠ 38 → o ≠ 1 → F o = A o := fun o x1 x2 x3 x4 x5 x6 => by rw [fo o x1 x2, b7 o x3 x4 x5, jup_o x6]
    have fM : ∀ o, 39 ≤ o → o ≠ 181 → F o = M o := fun o x1 x2 => by rw [fC o (by omega) x2 (by omega) (by omega) (by omega) (by omega), a2 o (by omega), y2 o (by omega) (by omega)]
    have f14 : F 1 4 = N l.length := by rw [fo 1 (by decide) (by decide), b7 1 (by decide) (by decide) (by decide), jup_nk (by omega), a2 1 (by omega)]; exact c2
    obtain ⟨v, Z, z1, z2, z3⟩ := m_text (n := n) (k := k) (tx F (fM 198 (by omega) (by omega)) (fM 201 (by omega) (by omega))) (by rw [fM 198 (by omega) (by omega)]; exact h2.1) (by rw [fM 198 (by omega) (by omega)]; exact h2.2.1) h1.2.1 h1.2.2.2.1
    rw [hp] at z3
    dsimp only at z3
    obtain ⟨g1, g2, g3, _⟩ := z3
    rw [Nat.zero_add] at g2
    have zM : ∀ o, 39 ≤ o → o ≠ 181 → o ≠ 198 → o ≠ 202 → Z o = M o := fun o x1 x2 x3 x4 => by rw [z2.1 o x3 x4, fM o x1 x2]
    have hS : Sim M1 Z n k := by
      refine ⟨by rw [z2.2 7 (by omega) (by omega), fM 198 (by omega) (by omega)]; exact h2.1, by rw [z2.2 13 (by omega) (by omega), fM 198 (by omega) (by omega)]; exact h2.2.1, by rw [z2.2 16 (by omega) (by omega), fM 198 (by omega) (by omega), m2.1 2 (by omega)]; exact h2.2.2.1, fun p hp => ?_, fun c hc => ?_⟩
      · have q := m2.2.1 p (by have := h1.2.1; omega)
        rw [show M1 21 p = M 6 p from q.1, show M1 23 p = M 8 p from q.2.1, show M1 25 p = M 10 p from q.2.2.1, show M1 27 p = M 12 p from q.2.2.2.1, show M1 29 p = M 14 p from q.2.2.2.2, zM 203 (by omega) (by omega) (by omega) (by omega), zM 204 (by omega) (by omega) (by omega) (by omega), zM 205 (by omega) (by omega) (by omega) (by omega), zM 206 (by omega) (by omega) (by omega) (by omega), zM 207 (by omega) (by omega) (by omega) (by omega)]
        exact ⟨h2.2.2.2.1 p hp, h2.2.2.2.2.1 p hp, h2.2.2.2.2.2.1 p hp, h2.2.2.2.2.2.2.1 p hp, h2.2.2.2.2.2.2.2.1 p hp⟩
      · have q := m2.2.2 c (by have := h1.2.2.2.1; omega)
        rw [show M1 31 c = M 16 c from q.1, show M1 33 c = M 18 c from q.2, zM 208 (by omega) (by omega) (by omega) (by omega), zM 209 (by omega) (by omega) (by omega) (by omega)]
        exact ⟨h2.2.2.2.2.2.2.2.2.1 c hc, h2.2.2.2.2.2.2.2.2.2 c hc⟩
    obtain ⟨W, n3, k3, w1, w2, w3, w4⟩ := m_tells l 0 n k 1000 M1 Z hO hW hS g3 (by rw [Nat.zero_add]; exact g2) (by omega) (by omega)
    have en : n3 = n2 := (N_eq (by have := w2.2.1; omega) (by have := hW2.2.1; omega)).mp (w2.1.symm.trans hW2.1)
    have ek : k3 = k2 := (N_eq (by have := w2.2.2.2.1; omega) (by have := hW2.2.2.2.1; omega)).mp (w2.2.2.1.symm.trans hW2.2.2.1)
    subst en
    subst ek
    have ekc : kc = k3 := (N_eq (by omega) (by have := hW2.2.2.2.1; omega)).mp (c4.symm.trans ((c6 1 (by omega) (by omega) (by omega)).trans hW2.2.2.1))
    subst ekc
    obtain ⟨V, v1, v2, v3, v4, v5, v6, v7, v8, v9, v10⟩ := m_begin w3.1 hW2.2.1
    obtain ⟨G, hG⟩ : ∃ G, G = jup V 198 4 0 := ⟨_, rfl⟩
    have w6 : W 198 6 = N l.length := by rw [w4.2 6 (by omega) (by omega) (by omega)]; exact g2
    refine ⟨N l.length, F, G, ?_, ?_, ?_⟩
    · rw [if_pos c1, a1, Option.bind_some]
      unfold f53
      rw [Option.bind_some, Option.bind_some]
      dsimp only
      rw [b1, Option.bind_some]
      unfold f26
      rw [Option.bind_some, Option.bind_some]
      dsimp only
      rw [Option.bind_some, Option.bind_some, ← hF, f14]
    · unfold f146
      rw [z1, Option.bind_some, g1]
      dsimp only
      rw [if_pos rfl, show (0 : Int32) = N 0 from rfl, w1, Nat.zero_add, f146_13, w6, if_neg (fun q => Nat.lt_irrefl _ ((N_lt (by omega) (by omega)).mp q)), v1, Option.bind_some, Option.bind_some, jup_nk (by omega), v10 6 (by omega) (by omega), w6, hG]
    · have hn9 := hW2.2.1
      have hk6 := hW2.2.2.2.1
      have go : ∀ o, o ≠ 198 → G o = V o := fun o ho => by rw [hG, jup_o ho]
      have gF : ∀ o, o < 198 → G o = F o := fun o ho => by rw [go o (by omega), v9 o (by omega) (by omega) (by omega), w4.1 o (by omega) (by omega), z2.1 o (by omega) (by omega)]
      have g98 : ∀ m, m ≠ 4 → m ≠ 1 → m ≠ 27 → G 198 m = W 198 m := fun m x1 x2 x3 => by rw [hG, jup_nk (by omega), v10 m x2 x3]
      have gA : ∀ o, 4 ≤ o → o ≤ 18 → G o = A o := fun o x1 x2 => by rw [gF o (by omega), fC o (by omega) (by omega) (by omega) (by omega) (by omega) (by omega)]
      have gD0 : ∀ i, i < 3 ∨ i = 10 → G 4 i = stL l n k M1 19 i := fun i hi => by rw [gA 4 (by omega) (by omega), a3.1 i (by omega), c6 i (by omega) (by omega) (by omega)]
      have gp : ∀ p, p < n3 → G 6 p = stL l n k M1 21 p ∧ G 8 p = stL l n k M1 23 p ∧ G 10 p = stL l n k M1 25 p ∧ G 12 p = stL l n k M1 27 p ∧ G 14 p = stL l n k M1 29 p := fun p hp => by
        have q := a3.2.1 p (by omega)
        rw [gA 6 (by omega) (by omega), gA 8 (by omega) (by omega), gA 10 (by omega) (by omega), gA 12 (by omega) (by omega), gA 14 (by omega) (by omega), show A 6 p = Y 21 p from q.1, show A 8 p = Y 23 p from q.2.1, show A 10 p = Y 25 p from q.2.2.1, show A 12 p = Y 27 p from q.2.2.2.1, show A 14 p = Y 29 p from q.2.2.2.2, c7 21 (by omega), c7 23 (by omega), c7 25 (by omega), c7 27 (by omega), c7 29 (by omega)]
        exact ⟨rfl, rfl, rfl, rfl, rfl⟩
      have gc : ∀ c, c < kc → G 16 c = stL l n k M1 31 c ∧ G 18 c = stL l n k M1 33 c := fun c hc => by
        have q := a3.2.2 c (by omega)
        rw [gA 16 (by omega) (by omega), gA 18 (by omega) (by omega), show A 16 c = Y 31 c from q.1, show A 18 c = Y 33 c from q.2, c7 31 (by omega), c7 33 (by omega)]
        exact ⟨rfl, rfl⟩
      have gW : ∀ o, 203 ≤ o → G o = W o := fun o ho => by rw [go o (by omega), v9 o (by omega) (by omega) (by omega)]
      refine ⟨n3, kc, ?_, ?_, ?_, ?_, ?_, ?_, ?_, ?_, ?_⟩
      · refine ctr_mk (by rw [gD0 0 (by omega)]; exact hW2.1) hn9 (by rw [gD0 1 (by omega)]; exact hW2.2.2.1) hk6 (fun p hp => ?_) (fun p hp => ?_) (fun p => ?_) ?_
        · show okn n3 (G 10 p) ∧ okn n3 (G 12 p)
          rw [(gp p hp).2.2.1, (gp p hp).2.2.2.1]
          exact hW2.2.2.2.2.1 p hp
        · show ¬ G 8 p < 0
          obtain ⟨x, hx, ex⟩ := (hW2.2.2.2.2.2.1 p hp).2
          rw [(gp p hp).2.1, ex]
          exact N_neg (by omega)
        · show bt (G 4 10) p = (decide (p < n3) && decide (G 6 p = 1))
          rw [gD0 10 (by omega), hW2.2.2.2.2.2.2.2.2 p]
          by_cases hp : p < n3
          · rw [(gp p hp).1]
          · rw [decide_eq_false hp, Bool.false_and, Bool.false_and]
        · refine cmt_mv (s := 19) (d := 4) ?_ ?_ ?_ (fun c hc => ?_) c5
          · rw [gA 4 (by omega) (by omega), a3.1 11 (by omega)]
          · rw [gA 4 (by omega) (by omega), a3.1 12 (by omega)]
          · rw [gA 4 (by omega) (by omega), a3.1 13 (by omega)]
          · show G 16 c = Y 31 c ∧ G 18 c = Y 33 c
            rw [(gc c hc).1, (gc c hc).2, c7 31 (by omega), c7 33 (by omega)]
            exact ⟨rfl, rfl⟩
      · obtain ⟨s1, s2, s3, s4, s5⟩ := w3
        refine ⟨by rw [g98 7 (by omega) (by omega) (by omega)]; exact s1, by rw [g98 13 (by omega) (by omega) (by omega)]; exact s2, by rw [g98 16 (by omega) (by omega) (by omega), gD0 2 (by omega)]; exact s3, fun p hp => ?_, fun p hp => ?_, fun p hp => ?_, fun p hp => ?_, fun p hp => ?_, fun c hc => ?_, fun c hc => ?_⟩
        · show G 6 p = G 203 p
          rw [(gp p hp).1, gW 203 (by omega)]; exact (s4 p hp).1
        · show G 8 p = G 204 p
          rw [(gp p hp).2.1, gW 204 (by omega)]; exact (s4 p hp).2.1
        · show G 10 p = G 205 p
          rw [(gp p hp).2.2.1, gW 205 (by omega)]; exact (s4 p hp).2.2.1
        · show G 12 p = G 206 p
          rw [(gp p hp).2.2.2.1, gW 206 (by omega)]; exact (s4 p hp).2.2.2.1
        · show G 14 p = G 207 p
          rw [(gp p hp).2.2.2.2, gW 207 (by omega)]; exact (s4 p hp).2.2.2.2
        · show G 16 c = G 208 c
          rw [(gc c hc).1, gW 208 (by omega)]; exact (s5 c hc).1
        · show G 18 c = G 209 c
          rw [(gc c hc).2, gW 209 (by omega)]; exact (s5 c hc).2
      · refine ⟨fun p hp => ?_, fun c hc => ?_, ?_⟩
        · rw [(gp p hp).1, (gp p hp).2.1]; exact hW2.2.2.2.2.2.1 p hp
        · rw [(gc c hc).1, (gc c hc).2]; exact hW2.2.2.2.2.2.2.1 c hc
        · rw [gD0 2 (by omega)]; exact hW2.2.2.2.2.2.2.2.1
      · rw [g98 22 (by omega) (by omega) (by omega), w4.2 22 (by omega) (by omega) (by omega), z2.2 22 (by omega) (by omega), fM 198 (by omega) (by omega)]
        exact h4
      · have e34 : G 34 = C 34 := by rw [gF 34 (by omega), fo 34 (by decide) (by decide)]
        have e36 : G 36 = C 36 := by rw [gF 36 (by omega), fo 36 (by decide) (by decide)]
        have e38 : G 38 = C 38 := by rw [gF 38 (by omega), fo 38 (by decide) (by decide)]
        have e199 : G 199 = V 199 := go 199 (by decide)
        have x14 : ∀ p, jup A 1 1 0 14 p = A 14 p := fun p => by rw [jup_o (by decide)]
        refine ⟨⟨?_, ?_⟩, ⟨?_, ?_⟩, ⟨0, by omega, ?_, ?_, fun j hj => ?_, fun j hj => absurd hj (Nat.not_lt_zero _)⟩, fun p hp => ⟨?_, ?_⟩, fun p hp => Or.inl ?_⟩
        · rw [e34, e199, b2', v2]
        · rw [e34, b2']; exact ⟨0, by omega, rfl⟩
        · rw [e34, e199, b3, v3]
        · rw [e34, b3]
          intro j hj
          rw [bt_low hn9] at hj
          exact of_decide_eq_true hj
        · rw [e34, b4]; rfl
        · rw [e199, v4]; rfl
        · rw [e34, b5, bt_zero] at hj
          cases hj
        · show G 36 p = G 199 (0 + 11 + p)
          rw [e36, e199, (b6 p (by omega)).1, Nat.zero_add, (v5 p hp).1]
        · show G 38 p = G 199 (0 + 1 + p)
          rw [e38, e199, (b6 p (by omega)).2, Nat.zero_add, (v5 p hp).2, x14, ← gA 14 (by omega) (by omega), (gp p hp).2.2.2.2]
          exact (w3.2.2.2.1 p hp).2.2.2.2
        · show G 36 p = -1
          rw [e36]; exact (b6 p (by omega)).1
      · refine ⟨0, by omega, ?_, ?_, fun i hi => absurd hi (Nat.not_lt_zero _)⟩
        · rw [gF 181 (by omega), hF, jup_o (by decide), jup_o (by decide), jup_same]; rfl
        · rw [hG, jup_nk (by omega), v7]; rfl
      · refine ⟨0, by omega, ?_, ?_, fun i hi => absurd hi (Nat.not_lt_zero _)⟩
        · rw [gF 1 (by omega), fo 1 (by decide) (by decide), b7 1 (by decide) (by decide) (by decide), jup_same]; rfl
        · rw [hG, jup_same]; rfl
      · obtain ⟨u, q, q1, q2, q3, q4, q5, q6⟩ := h8
        refine ⟨0, q, by omega, q2, ?_, ?_, ?_, fun i hi => absurd hi (Nat.not_lt_zero _)⟩
        · rw [gF 0 (by omega), hF, jup_same]; rfl
        · rw [hG, jup_nk (by omega), v6]; rfl
        · rw [gF 0 (by omega), hF, jup_nk (by omega), jup_nk (by omega), jup_o (by decide), b7 0 (by decide) (by decide) (by decide), jup_o (by decide), a2 0 (by omega), y2 0 (by decide) (by omega)]
          exact q5
      · intro i hi
        have e08 : G 0 8 = 0 := by rw [gF 0 (by omega), hF, jup_nk (by omega), jup_same]
        rw [e08, bt_zero, go 200 (by decide), v8 i hi]
        exact ⟨rfl, fun q => by cases q⟩
theorem blk_221 : Blk f217_221 := fun xs h18 i M hx hi hI => by
  obtain ⟨a, M1, M2, e1, e2, h2⟩ := t_landC (xs := some xs) hI
  refine ⟨M2, h2, ?_⟩
  unfold f217_221 f217_1076
  rw [show (5 : Int32) = N 5 from rfl]
  simp only [N_add, Option.bind_some, e1, e2, if_true]
end LA
