/-! PURE: the text, read by the class -/
section LP
variable {L : Nat → Int32} {t : Nat} {xs : Option (List Int32)}
def nxn (w n : Nat) : Nat := if w < 4 then n else if w < 7 then n + 1 else if w = 11 then 0 else n
def nxk (w k : Nat) : Nat := if w < 4 then k + 1 else if w < 11 then k else 0
def prT (L : Nat → Int32) (t : Nat) : Nat → Nat → Nat → Nat → Sum Nat (List (Nat × Int32 × Int32 × Int32))
  | 0, p, _, _ => .inl p
  | d + 1, p, n, k => match clT L t p n k with
    | .inl f => .inl f
    | .inr (w, a, b, c, q) => if skT L t q = t then .inr [(w, a, b, c)] else if L (skT L t q) = 59 ∧ d ≠ 0 then (match prT L t d (skT L t q + 1) (nxn w n) (nxk w k) with
      | .inl f => .inl f
      | .inr l => .inr ((w, a, b, c) :: l)) else .inl (skT L t q)
def stL : List (Nat × Int32 × Int32 × Int32) → Nat → Nat → JM → JM
  | [], _, _, D => D
  | e :: l, n, k, D => stL l (nxn e.1 n) (nxk e.1 k) (stc e.1 e.2.1 e.2.2.1 e.2.2.2 n k D)
/-- what a clause read can hold -/
def argO (n w : Nat) (a b c : Int32) : Prop := (w < 7 → rng 100 a) ∧ (7 ≤ w → w < 9 → ∃ A B, A < n ∧ B < A ∧ a = N A ∧ b = N B ∧ (c = -1 ∨ ∃ C, C < A ∧ c = N C ∧ c ≠ b) ∧ (w = 8 → c = -1)) ∧ (w = 9 → ∃ A, A < n ∧ a = N A ∧ rng 100 b) ∧ (w = 10 → rng 7 a)
theorem clT_ok {p n k w q : Nat} {a b c : Int32} (hp : p ≤ t) (hn : n ≤ 9) (h : clT L t p n k = .inr (w, a, b, c, q)) : w < 13 ∧ csT n k w = true ∧ q ≤ t ∧ argO n w a b c := by
  have hs := (skT_r (L := L) hp).2
  have he := (weT_r (L := L) hs).2
  unfold clT at h
  cases hwd : wdT L (skT L t p) (weT L t (skT L t p)) n k with
  | none => rw [hwd] at h; cases h
  | some w0 =>
    rw [hwd] at h
    obtain ⟨g1, g2, g3⟩ := wd_some hwd
    generalize weT L t (skT L t p) = e at *
    dsimp only at h
    by_cases w7 : w0 < 7
    · rw [if_pos w7] at h
      cases hr : rdT L t e 99 (-1) with
      | none => rw [hr] at h; cases h
      | some vq =>
        obtain ⟨v, q0⟩ := vq
        rw [hr] at h
        cases h
        obtain ⟨x, hx, rfl⟩ := rd_num he hr
        exact ⟨g1, g3, rdT_le he hr, fun _ => ⟨x, hx, rfl⟩, fun q _ => by omega, fun q => by omega, fun q => by omega⟩
    · rw [if_neg w7] at h
      by_cases w9 : w0 < 9
      · rw [if_pos w9] at h
        cases hr : rdT L t e (N n - 1) (-1) with
        | none => rw [hr] at h; cases h
        | some vq =>
          obtain ⟨v, q0⟩ := vq
          rw [hr] at h
          obtain ⟨A, hA, rfl⟩ := rd_lim he (by omega) hr
          have hq0 := rdT_le he hr
          dsimp only at h
          cases hr2 : rdT L t q0 (N A - 1) (-1) with
          | none => rw [hr2] at h; cases h
          | some vq2 =>
            obtain ⟨v2, q2⟩ := vq2
            rw [hr2] at h
            obtain ⟨b0, hB, rfl⟩ := rd_lim hq0 (by omega) hr2
            have hq2 := rdT_le hq0 hr2
            dsimp only at h
            by_cases w8 : w0 = 8
            · rw [if_pos w8] at h
              cases h
              exact ⟨g1, g3, hq2, fun q => by omega, fun _ _ => ⟨A, b0, hA, hB, rfl, rfl, Or.inl rfl, fun _ => rfl⟩, fun q => by omega, fun q => by omega⟩
            · rw [if_neg w8] at h
              cases hr3 : rdT L t q2 (N A - 1) (N b0) with
              | none => rw [hr3] at h; cases h
              | some vq3 =>
                obtain ⟨v3, q3⟩ := vq3
                rw [hr3] at h
                cases h
                obtain ⟨x, hx, rfl⟩ := rd_lim hq2 (by omega) hr3
                exact ⟨g1, g3, rdT_le hq2 hr3, fun q => by omega, fun _ _ => ⟨A, b0, hA, hB, rfl, rfl, Or.inr ⟨x, hx, rfl, (vl_num (s := 0) (e := 0) hr3).2⟩, fun q => absurd q w8⟩, fun q => by omega, fun q => by omega⟩
      · rw [if_neg w9] at h
        by_cases w9' : w0 = 9
        · rw [if_pos w9'] at h
          cases hr : rdT L t e (N n - 1) (-1) with
          | none => rw [hr] at h; cases h
          | some vq =>
            obtain ⟨v, q0⟩ := vq
            rw [hr] at h
            obtain ⟨A, hA, rfl⟩ := rd_lim he (by omega) hr
            have hq0 := rdT_le he hr
            dsimp only at h
            cases hr2 : rdT L t q0 99 (-1) with
            | none => rw [hr2] at h; cases h
            | some vq2 =>
              obtain ⟨v2, q2⟩ := vq2
              rw [hr2] at h
              cases h
              obtain ⟨x, hx, rfl⟩ := rd_num hq0 hr2
              exact ⟨g1, g3, rdT_le hq0 hr2, fun q => by omega, fun q _ => by omega, fun _ => ⟨A, hA, rfl, x, hx, rfl⟩, fun q => by omega⟩
        · rw [if_neg w9'] at h
          by_cases w10 : w0 = 10
          · rw [if_pos w10] at h
            cases hr : rdT L t e 6 (-1) with
            | none => rw [hr] at h; cases h
            | some vq =>
              obtain ⟨v, q0⟩ := vq
              rw [hr] at h
              cases h
              exact ⟨g1, g3, rdT_le he hr, fun q => by omega, fun q _ => by omega, fun q => by omega, fun _ => rd_lim (m := 7) (unl := -1) he (by omega) hr⟩
          · rw [if_neg w10] at h
            cases h
            exact ⟨g1, g3, he, fun q => by omega, fun q _ => by omega, fun q => by omega, fun q => by omega⟩
theorem nx_le {n k w : Nat} (h : csT n k w = true) (hn : n ≤ 9) (hk : k ≤ 6) : nxn w n ≤ 9 ∧ nxk w k ≤ 6 := by
  unfold csT at h
  unfold nxn nxk
  by_cases w4 : w < 4
  · rw [if_pos w4] at h
    have := of_decide_eq_true h
    rw [if_pos w4, if_pos w4]; omega
  · rw [if_neg w4] at h
    rw [if_neg w4, if_neg w4]
    by_cases w7 : w < 7
    · rw [if_pos w7] at h
      have := of_decide_eq_true h
      rw [if_pos w7, if_pos (by omega)]; omega
    · rw [if_neg w7]
      constructor
      · split <;> omega
      · split <;> omega
theorem stc_n {n k w : Nat} {a b c : Int32} {D : JM} (h0 : D 19 0 = N n) (h1 : D 19 1 = N k) (hw : w < 13) : stc w a b c n k D 19 0 = N (nxn w n) ∧ stc w a b c n k D 19 1 = N (nxk w k) := by
  unfold stc nxn nxk
  by_cases w4 : w < 4
  · rw [if_pos w4, if_pos w4, if_pos w4, jup_same, jup_nk (by omega), jup_o (by decide), jup_o (by decide)]
    exact ⟨h0, rfl⟩
  · rw [if_neg w4, if_neg w4, if_neg w4]
    by_cases w7 : w < 7
    · rw [if_pos w7, if_pos w7, if_pos (show w < 11 by omega)]
      exact ⟨rfl, h1⟩
    · rw [if_neg w7, if_neg w7]
      by_cases w9 : w < 9
      · rw [if_pos w9, if_neg (show ¬ w = 11 by omega), if_pos (show w < 11 by omega), jup_o (by decide), jup_o (by decide)]
        exact ⟨h0, h1⟩
      · rw [if_neg w9]
        by_cases w9' : w = 9
        · rw [if_pos w9', if_neg (show ¬ w = 11 by omega), if_pos (show w < 11 by omega), jup_o (by decide)]
          exact ⟨h0, h1⟩
        · rw [if_neg w9']
          by_cases w10 : w = 10
          · rw [if_pos w10, if_neg (show ¬ w = 11 by omega), if_pos (show w < 11 by omega), jup_nk (by omega), jup_nk (by omega)]
            exact ⟨h0, h1⟩
          · rw [if_neg w10]
            by_cases w11 : w = 11
            · rw [if_pos w11, if_pos w11, if_neg (show ¬ w < 11 by omega)]
              exact ⟨rfl, rfl⟩
            · rw [if_neg w11, if_neg w11, if_neg (show ¬ w < 11 by omega), jup_nk (by omega), jup_same]
              exact ⟨h0, rfl⟩
def Otr (X Y : JM) : Prop := (∀ o, o ≠ 1 → ¬ (19 ≤ o ∧ o ≤ 33) → Y o = X o) ∧ ∀ j, j ≠ 2 → j ≠ 3 → j ≠ 4 → Y 1 j = X 1 j
theorem otr_oth {X Y : JM} (h : Oth X Y) : Otr X Y := ⟨h.1, fun j a b _ => h.2 j a b⟩
theorem otr_tr {X Y Z : JM} (h : Otr X Y) (g : Otr Y Z) : Otr X Z := ⟨fun o a b => (g.1 o a b).trans (h.1 o a b), fun j a b c => (g.2 j a b c).trans (h.2 j a b c)⟩
theorem otr_j {X Y : JM} {j : Nat} {v : Int32} (h : Otr X Y) (hj : j = 2 ∨ j = 3 ∨ j = 4) : Otr X (jup Y 1 j v) := ⟨fun o a b => by rw [jup_o a]; exact h.1 o a b, fun i a b c => by rw [jup_nk (by omega)]; exact h.2 i a b c⟩
def ResL (X Y D : JM) (j n k : Nat) (r : Sum Nat (List (Nat × Int32 × Int32 × Int32))) : Prop := Otr X Y ∧ (∃ c, c ≤ 6 ∧ Y 19 1 = N c) ∧ match r with
  | .inl fp => fp ≤ 160 ∧ Y 1 3 = N fp
  | .inr l => Y 1 3 = -1 ∧ Y 1 4 = N (j + l.length) ∧ DrE Y (stL l n k D)
theorem c_sep_f {Y : JM} {fp q : Nat} (h : TxC Y L t) (h2 : Y 1 2 = N q) (hq : q ≤ t) (h3 : Y 1 3 = N fp) (hf : fp ≤ 160) : f55 1 Y = some (0, jup Y 1 2 (N (skT L t q))) := by
  unfold f55
  rw [c_skip h h2 hq, Option.bind_some, if_neg (by rw [jup_nk (by omega), h3]; exact N_m1 (by omega))]
theorem c_loop : ∀ (d j p n k f : Nat) (X D : JM), j + d = 14 → d < f → 0 < d → TxC X L t → X 1 4 = N j → X 1 2 = N p → X 1 3 = -1 → p ≤ t → DrE X D → D 19 0 = N n → D 19 1 = N k → n ≤ 9 → k ≤ 6 → ∃ Y, f54_17 xs f 1 19 1 X = f54_53 xs 19 Y ∧ ResL X Y D j n k (prT L t d p n k)
  | _, _, _, _, _, 0, _, _, _, hf, _, _, _, _, _, _, _, _, _, _, _ => absurd hf (Nat.not_lt_zero _)
  | 0, _, _, _, _, _ + 1, _, _, _, _, h0, _, _, _, _, _, _, _, _, _, _ => absurd h0 (Nat.lt_irrefl _)
  | d + 1, j, p, n, k, f + 1, X, D, hj, hf, _, h, h4, h2, h3, hp, hD, d0, d1, hn, hk => by
    have h160 := h.2.1
    obtain ⟨Y1, e1, r1⟩ := c_clause (xs := xs) h h2 h3 hp hD d0 d1 hn hk
    rw [f54_17, if_neg (show ¬ (1 : Int32) = 0 by decide), h4, if_pos (show N j < (14 : Int32) from (N_lt (b := 14) (by omega) (by omega)).mpr (by omega)), e1, Option.bind_some, Option.bind_some]
    unfold prT
    unfold Res at r1
    have stop : ∀ Z : JM, ∀ g, g ≠ 0 → f54_17 xs g 1 19 0 Z = f54_53 xs 19 Z := fun Z g hg => by
      obtain ⟨m, rfl⟩ : ∃ m, g = m + 1 := ⟨g - 1, by omega⟩
      rw [f54_17, if_pos rfl]
    cases hc : clT L t p n k with
    | inl fp =>
      rw [hc] at r1
      dsimp only at r1
      obtain ⟨b0, b1, b2', ⟨q, hq, b3⟩, k', hk', b4⟩ := r1
      obtain ⟨Y, hY⟩ : ∃ Y, Y = jup Y1 1 4 (Y1 1 4 + 1) := ⟨_, rfl⟩
      have y1 : TxC Y L t := by rw [hY]; exact txc_up (txc_oth h b1) (by decide)
      have y2 : Y 1 2 = N q := by rw [hY, jup_nk (by omega)]; exact b3
      have y3 : Y 1 3 = N fp := by rw [hY, jup_nk (by omega)]; exact b2'
      rw [← hY, c_sep_f y1 y2 hq y3 b0, Option.bind_some]
      dsimp only
      rw [stop _ f (by omega)]
      refine ⟨_, rfl, otr_j (by rw [hY]; exact otr_j (otr_oth b1) (by omega)) (by omega), ⟨k', hk', by rw [jup_o (by decide), hY, jup_o (by decide)]; exact b4⟩, b0, by rw [jup_nk (by omega)]; exact y3⟩
    | inr r =>
      obtain ⟨w, a, b, c, q⟩ := r
      rw [hc] at r1
      dsimp only at r1
      obtain ⟨b0, b1, b2', b3, b4⟩ := r1
      obtain ⟨k1, k2, k3, k4⟩ := clT_ok hp hn hc
      have hsq := (skT_r (L := L) k3)
      obtain ⟨s0, s1⟩ := stc_n (a := a) (b := b) (c := c) d0 d1 k1
      obtain ⟨n9, n6⟩ := nx_le k2 hn hk
      have e4 : Y1 1 4 = N j := by rw [b1.2 4 (by omega) (by omega)]; exact h4
      obtain ⟨Y, hY⟩ : ∃ Y, Y = jup Y1 1 4 (N (j + 1)) := ⟨_, rfl⟩
      have y1 : TxC Y L t := by rw [hY]; exact txc_up (txc_oth h b1) (by decide)
      have y2 : Y 1 2 = N q := by rw [hY, jup_nk (by omega)]; exact b3
      have y3 : Y 1 3 = -1 := by rw [hY, jup_nk (by omega)]; exact b2'
      have y4 : Y 1 4 = N (j + 1) := by rw [hY, jup_same]
      have y5 : Otr X Y := by rw [hY]; exact otr_j (otr_oth b1) (by omega)
      have y6 : DrE Y (stc w a b c n k D) := by rw [hY]; exact dre_txt b4
      have y7 : Y 19 1 = N (nxk w k) := by rw [y6 19 (by omega)]; exact s1
      rw [e4, N_succ, ← hY]
      dsimp only
      unfold f55
      obtain ⟨Z, hZ⟩ : ∃ Z, Z = jup Y 1 2 (N (skT L t q)) := ⟨_, rfl⟩
      have z1 : TxC Z L t := by rw [hZ]; exact txc_up y1 (by decide)
      have z2 : Z 1 2 = N (skT L t q) := by rw [hZ, jup_same]
      have z3 : Z 1 3 = -1 := by rw [hZ, jup_nk (by omega)]; exact y3
      have z4 : Z 1 4 = N (j + 1) := by rw [hZ, jup_nk (by omega)]; exact y4
      have z5 : Otr X Z := by rw [hZ]; exact otr_j y5 (by omega)
      have z6 : DrE Z (stc w a b c n k D) := by rw [hZ]; exact dre_txt y6
      have z7 : Z 19 1 = N (nxk w k) := by rw [z6 19 (by omega)]; exact s1
      rw [c_skip y1 y2 k3, Option.bind_some, ← hZ, if_pos z3, z2, z1.1, z4]
      have bad : f55_50 1 Z = some (0, jup Z 1 3 (N (skT L t q))) := by
        unfold f55_50
        rw [z2]
        rfl
      by_cases et : skT L t q = t
      · rw [if_pos et, et, if_neg (fun q => Nat.lt_irrefl _ ((N_lt (by omega) (by omega)).mp q)), Option.bind_some]
        dsimp only
        rw [stop _ f (by omega)]
        refine ⟨Z, rfl, z5, ⟨_, n6, z7⟩, z3, z4, z6⟩
      · rw [if_neg et, if_pos ((N_lt (by omega) (by omega)).mpr (by omega)), txc_let z1 (by omega), Option.bind_some]
        by_cases e59 : L (skT L t q) = 59
        · rw [if_pos e59]
          by_cases ed : d = 0
          · rw [if_pos (show N (j + 1) = (14 : Int32) by rw [show j + 1 = 14 by omega]; rfl), if_neg (fun q => q.2 ed), bad, Option.bind_some]
            dsimp only
            rw [stop _ f (by omega)]
            exact ⟨_, rfl, otr_j z5 (by omega), ⟨_, n6, by rw [jup_o (by decide)]; exact z7⟩, by omega, jup_same⟩
          · rw [if_neg (show ¬ N (j + 1) = (14 : Int32) from fun q => absurd ((N_eq (b := 14) (by omega) (by omega)).mp q) (by omega)), if_pos ⟨e59, ed⟩, Option.bind_some, Option.bind_some, N_succ]
            dsimp only
            obtain ⟨W, w1, w2, w3, w4⟩ := c_loop d (j + 1) (skT L t q + 1) (nxn w n) (nxk w k) f (jup Z 1 2 (N (skT L t q + 1))) (stc w a b c n k D) (by omega) (by omega) (by omega) (txc_up z1 (by decide)) (by rw [jup_nk (by omega)]; exact z4) jup_same (by rw [jup_nk (by omega)]; exact z3) (by omega) (dre_txt z6) s0 s1 n9 n6
            refine ⟨W, w1, otr_tr (otr_j z5 (by omega)) w2, w3, ?_⟩
            cases hp2 : prT L t d (skT L t q + 1) (nxn w n) (nxk w k) with
            | inl fp => rw [hp2] at w4; exact w4
            | inr l =>
              rw [hp2] at w4
              refine ⟨w4.1, ?_, w4.2.2⟩
              rw [w4.2.1, List.length_cons, Nat.add_assoc, Nat.add_comm 1]
        · rw [if_neg e59, if_neg (fun q => e59 q.1), bad, Option.bind_some]
          dsimp only
          rw [stop _ f (by omega)]
          exact ⟨_, rfl, otr_j z5 (by omega), ⟨_, n6, by rw [jup_o (by decide)]; exact z7⟩, by omega, jup_same⟩
  termination_by d => d
end LP
