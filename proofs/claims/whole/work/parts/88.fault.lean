/-! PURE: fault -/
section FA
variable {L : Nat → Int32} {t : Nat}
def rsT (L : Nat → Int32) (t d q n k : Nat) : Sum Nat (List (Nat × Int32 × Int32 × Int32)) := if skT L t q = t then .inr [] else if L (skT L t q) = 59 ∧ d ≠ 0 then prT L t d (skT L t q + 1) n k else .inl (skT L t q)
theorem prT_rs {d p n k : Nat} : prT L t (d + 1) p n k = match clT L t p n k with
    | .inl f => .inl f
    | .inr (w, a, b, c, q) => match rsT L t d q (nxn w n) (nxk w k) with
      | .inl f => .inl f
      | .inr l => .inr ((w, a, b, c) :: l) := by
  rw [prT]
  cases clT L t p n k with
  | inl f => rfl
  | inr r =>
    obtain ⟨w, a, b, c, q⟩ := r
    dsimp only
    unfold rsT
    by_cases h1 : skT L t q = t
    · rw [if_pos h1, if_pos h1]
    · rw [if_neg h1, if_neg h1]
      by_cases h2 : L (skT L t q) = 59 ∧ d ≠ 0
      · rw [if_pos h2, if_pos h2]
        cases prT L t d (skT L t q + 1) (nxn w n) (nxk w k) <;> rfl
      · rw [if_neg h2, if_neg h2]
def EntL (Y : JM) : Nat → List (Nat × Int32 × Int32 × Int32) → Prop
  | _, [] => True
  | j, e :: l => EntM Y j e.1 e.2.1 e.2.2.1 e.2.2.2 ∧ EntL Y (j + 1) l
theorem ent_mv {Y Z : JM} {j w : Nat} {a b c : Int32} (h : EntM Y j w a b c) (r : ∀ m, m < 4 * (j + 1) → Z 202 m = Y 202 m) : EntM Z j w a b c := ⟨by rw [r _ (by omega)]; exact h.1, fun q => by rw [r _ (by omega)]; exact h.2.1 q, fun q q' => by rw [r _ (by omega)]; exact h.2.2.1 q q', fun q => by rw [r _ (by omega)]; exact h.2.2.2 q⟩
def ResR (X Y : JM) (j : Nat) (v : Int32) (r : Sum Nat (List (Nat × Int32 × Int32 × Int32))) : Prop := FrM X Y ∧ match r with
  | .inl fp => v = N fp
  | .inr l => v = -1 ∧ Y 198 6 = N (j + l.length) ∧ EntL Y j l ∧ ∀ m, m < 4 * j → Y 202 m = X 202 m
/-- the rest of a text, after a clause -/
theorem m_loop : ∀ (d j q n k f : Nat) (X : JM), j + d = 14 → d + 1 < f → AtT X L t q → q ≤ t → X 198 6 = N j → X 198 20 = N n → X 198 21 = N k → n ≤ 9 → k ≤ 6 → ∃ v Y, f141_42 f 198 X = some (v, Y) ∧ ResR X Y j v (rsT L t d q n k)
  | _, _, _, _, _, 0, _, _, hf, _, _, _, _, _, _, _ => absurd hf (Nat.not_lt_zero _)
  | d, j, q, n, k, f + 1, X, hj, hf, h, hq, h6, h20, h21, hn, hk => by
    have hh := h
    obtain ⟨hT, h7, h8, h9⟩ := h
    have h160 := hT.2.1
    have hs := (skT_r (L := L) hq).2
    unfold rsT
    rw [f141_42, h8, h9, hT.1]
    generalize skT L t q = s at *
    have stop : f141_93 (f141_42 f) 198 X = some (N s, X) := by
      unfold f141_93 f141_94 f141_108
      rw [if_pos rfl, if_pos rfl, h8]
    have frX : FrM X X := ⟨fun _ _ _ => rfl, fun _ _ _ => rfl⟩
    by_cases hst : s = t
    · rw [if_pos hst, if_neg (fun q => absurd ((N_lt (by omega) (by omega)).mp q) (by omega))]
      exact ⟨-1, X, rfl, frX, rfl, by rw [List.length_nil, Nat.add_zero]; exact h6, trivial, fun _ _ => rfl⟩
    · have hlt : s < t := by omega
      have hte := te_r (L := L) hs
      rw [if_neg hst, if_pos ((N_lt (by omega) (by omega)).mpr hlt), show N (teT L t s) - N s = N (teT L t s - s) from (Int32.ofNat_sub _ s hte.1).symm, mp_3, txm_let hT hlt, Option.bind_some, h6]
      by_cases e59 : L s = 59
      · have ete : teT L t s = s + 1 := by
          unfold teT
          rw [if_pos hlt, e59, if_neg (by decide), if_neg (by decide)]
        rw [ete, show s + 1 - s = 1 by omega, if_pos (show N 1 = (1 : Int32) from rfl), if_pos e59]
        by_cases hd : d = 0
        · rw [if_neg (show ¬ N j < (14 : Int32) from fun q => absurd ((N_lt (b := 14) (by omega) (by omega)).mp q) (by omega)), if_neg (fun q => q.2 hd), stop]
          exact ⟨N s, X, rfl, frX, rfl⟩
        · rw [if_pos (show N j < (14 : Int32) from (N_lt (b := 14) (by omega) (by omega)).mpr (by omega)), if_pos ⟨e59, hd⟩]
          rw [ete] at h7
          unfold f141_94
          rw [if_neg (by decide)]
          obtain ⟨Z, z1, z2⟩ := m_tok hT h7 (show s + 1 ≤ t by omega)
          have zA := tok_at hT z2
          obtain ⟨g, Y, y1, y2, y3⟩ := m_clause (j := j) (n := n) (k := k) zA (by omega) (by rw [z2.2.2.2.1 6 (by omega) (by omega) (by omega)]; exact h6) (by omega) (by rw [z2.2.2.2.1 20 (by omega) (by omega) (by omega)]; exact h20) (by rw [z2.2.2.2.1 21 (by omega) (by omega) (by omega)]; exact h21) hn hk
          have frZ : FrM X Z := ⟨fun o a b => z2.2.2.2.2 o a, fun m a b => z2.2.2.2.1 m (by omega) (by omega) (by omega)⟩
          rw [z1, Option.bind_some, y1, Option.bind_some]
          unfold f141_108
          obtain ⟨d, rfl⟩ : ∃ d', d = d' + 1 := ⟨d - 1, by omega⟩
          rw [prT_rs]
          cases hc : clT L t (s + 1) n k with
          | inl fp =>
            rw [hc] at y3
            dsimp only at y3 ⊢
            rw [if_pos y3.1, y3.2]
            exact ⟨_, Y, rfl, frm_tr frZ y2, rfl⟩
          | inr r =>
            obtain ⟨w, a, b, c, q'⟩ := r
            rw [hc] at y3
            dsimp only at y3 ⊢
            obtain ⟨g1, g2, g3, g4, g5, g6, g7⟩ := y3
            obtain ⟨k1, k2, k3, k4⟩ := clT_ok (show s + 1 ≤ t by omega) hn hc
            obtain ⟨n9, n6⟩ := nx_le k2 hn hk
            rw [if_neg (by rw [g1]; decide)]
            obtain ⟨v, W, w1, w2, w3⟩ := m_loop d (j + 1) q' (nxn w n) (nxk w k) f Y (by omega) (by omega) g2 k3 g3 g4 g5 n9 n6
            refine ⟨v, W, w1, frm_tr frZ (frm_tr y2 w2), ?_⟩
            cases hr : rsT L t d q' (nxn w n) (nxk w k) with
            | inl fp => rw [hr] at w3; exact w3
            | inr l =>
              rw [hr] at w3
              dsimp only at w3 ⊢
              refine ⟨w3.1, by rw [w3.2.1, List.length_cons, Nat.add_assoc, Nat.add_comm 1], ⟨ent_mv g6 (fun m hm => w3.2.2.2 m hm), w3.2.2.1⟩, fun m hm => ?_⟩
              rw [w3.2.2.2 m (by omega), g7 m hm, z2.2.2.2.2 202 (by decide)]
      · rw [if_neg e59, stop, ite_self, if_neg (fun q : L s = 59 ∧ d ≠ 0 => e59 q.1)]
        exact ⟨N s, X, rfl, frX, rfl⟩
  termination_by d => d
/-- the reference reads a text -/
theorem m_text {X : JM} {n k : Nat} (h : TxM X L t) (h7 : X 198 7 = N n) (h13 : X 198 13 = N k) (hn : n ≤ 9) (hk : k ≤ 6) : ∃ v Y, f141 198 X = some (v, Y) ∧ ResR X Y 0 v (prT L t 14 0 n k) := by
  obtain ⟨A, hA⟩ : ∃ A, A = jup (jup (jup (jup X 198 17 0) 198 6 0) 198 20 (N n)) 198 21 (N k) := ⟨_, rfl⟩
  have aT : TxM A L t := by rw [hA]; exact txm_up (txm_up (txm_up (txm_up h (by decide)) (by decide)) (by decide)) (by decide)
  have a17 : A 198 17 = N 0 := by rw [hA, jup_nk (by omega), jup_nk (by omega), jup_nk (by omega), jup_same]; rfl
  have a6 : A 198 6 = N 0 := by rw [hA, jup_nk (by omega), jup_nk (by omega), jup_same]; rfl
  have a20 : A 198 20 = N n := by rw [hA, jup_nk (by omega), jup_same]
  have a21 : A 198 21 = N k := by rw [hA, jup_same]
  have frA : FrM X A := ⟨fun o a b => by rw [hA, jup_o a, jup_o a, jup_o a, jup_o a], fun m a b => by rw [hA, jup_nk (by omega), jup_nk (by omega), jup_nk (by omega), jup_nk (by omega)]⟩
  unfold f141
  rw [Option.bind_some, Option.bind_some, Option.bind_some, Option.bind_some, jup_nk (by omega), jup_nk (by omega), h7, jup_nk (by omega), jup_nk (by omega), jup_nk (by omega), h13, ← hA]
  obtain ⟨Z, z1, z2⟩ := m_tok aT a17 (Nat.zero_le t)
  have zA := tok_at aT z2
  obtain ⟨g, Y, y1, y2, y3⟩ := m_clause (j := 0) (n := n) (k := k) zA (Nat.zero_le t) (by rw [z2.2.2.2.1 6 (by omega) (by omega) (by omega)]; exact a6) (by omega) (by rw [z2.2.2.2.1 20 (by omega) (by omega) (by omega)]; exact a20) (by rw [z2.2.2.2.1 21 (by omega) (by omega) (by omega)]; exact a21) hn hk
  have frZ : FrM X Z := frm_tr frA ⟨fun o a b => z2.2.2.2.2 o a, fun m a b => z2.2.2.2.1 m (by omega) (by omega) (by omega)⟩
  rw [z1, Option.bind_some, y1, Option.bind_some, prT_rs]
  cases hc : clT L t 0 n k with
  | inl fp =>
    rw [hc] at y3
    dsimp only at y3 ⊢
    rw [if_pos y3.1, y3.2]
    exact ⟨_, Y, rfl, frm_tr frZ y2, rfl⟩
  | inr r =>
    obtain ⟨w, a, b, c, q'⟩ := r
    rw [hc] at y3
    dsimp only at y3 ⊢
    obtain ⟨g1, g2, g3, g4, g5, g6, g7⟩ := y3
    obtain ⟨k1, k2, k3, k4⟩ := clT_ok (Nat.zero_le t) hn hc
    obtain ⟨n9, n6⟩ := nx_le k2 hn hk
    rw [if_neg (by rw [g1]; decide)]
    obtain ⟨v, W, w1, w2, w3⟩ := m_loop 13 1 q' (nxn w n) (nxk w k) 1000 Y (by omega) (by omega) g2 k3 g3 g4 g5 n9 n6
    refine ⟨v, W, w1, frm_tr frZ (frm_tr y2 w2), ?_⟩
    cases hr : rsT L t 13 q' (nxn w n) (nxk w k) with
    | inl fp => rw [hr] at w3; exact w3
    | inr l =>
      rw [hr] at w3
      dsimp only at w3 ⊢
      refine ⟨w3.1, by rw [w3.2.1, List.length_cons, Nat.zero_add, Nat.add_comm 1], ⟨ent_mv g6 (fun m hm => w3.2.2.2 m (by omega)), w3.2.2.1⟩, fun m hm => by omega⟩
/-- the class reads a text into its draft -/
def ResC (M M1 Y : JM) (n k : Nat) (r : Sum Nat (List (Nat × Int32 × Int32 × Int32))) : Prop := (∀ o, o ≠ 1 → ¬ (19 ≤ o ∧ o ≤ 33) → Y o = M o) ∧ (∀ j, j ≠ 2 → j ≠ 3 → j ≠ 4 → Y 1 j = M 1 j) ∧ match r with
  | .inl fp => fp ≤ 160 ∧ Y 1 3 = N fp
  | .inr l => Y 1 3 = -1 ∧ Y 1 4 = N l.length ∧ (∃ c, c ≤ 6 ∧ Y 19 1 = N c ∧ Cmt Y 19 c) ∧ (∀ i, i ≠ 11 → i ≠ 12 → i ≠ 13 → Y 19 i = stL l n k M1 19 i) ∧ ∀ o, 20 ≤ o ∧ o ≤ 33 → Y o = stL l n k M1 o
theorem c_text {xs : Option (List Int32)} {M : JM} {n k : Nat} (hC : Ctr M 4 n k) (h : TxC M L t) : ∃ M1 Y, f1 19 4 M = some M1 ∧ CCp M M1 4 19 ∧ f54 xs 1 19 M1 = some Y ∧ ResC M M1 Y n k (prT L t 14 0 n k) := by
  obtain ⟨M1, m1, m2, m3⟩ := c_ccpy (M := M) cok_19 cok_4 (by omega)
  have d0 : M1 19 0 = N n := by rw [m3.1 0 (by omega)]; exact hC.1
  have d1 : M1 19 1 = N k := by rw [m3.1 1 (by omega)]; exact hC.2.2.1
  obtain ⟨A, hA⟩ : ∃ A, A = jup (jup (jup M1 1 2 0) 1 3 (-1)) 1 4 0 := ⟨_, rfl⟩
  have t1 : TxC M1 L t := ⟨by rw [m2 1 (by omega)]; exact h.1, h.2.1, fun i hi => by rw [m2 3 (by omega)]; exact h.2.2 i hi⟩
  have aT : TxC A L t := by rw [hA]; exact txc_up (txc_up (txc_up t1 (by decide)) (by decide)) (by decide)
  obtain ⟨Y, y1, y2, ⟨c, hc, y3⟩, y4⟩ := c_loop (xs := xs) 14 0 0 n k 1000 A M1 (by omega) (by omega) (by omega) aT (by rw [hA, jup_same]; rfl) (by rw [hA, jup_nk (by omega), jup_nk (by omega), jup_same]; rfl) (by rw [hA, jup_nk (by omega), jup_same]) (Nat.zero_le t) (by rw [hA]; exact dre_txt (dre_txt (dre_txt (fun _ _ => rfl)))) d0 d1 hC.2.1 hC.2.2.2.1
  obtain ⟨E1, D, g1, g2, g3, g4, g5⟩ := c_fresh (o := 19) (E := Y) cok_19 y3 hc
  have eo : ∀ o, o ≠ 1 → ¬ (19 ≤ o ∧ o ≤ 33) → D o = M o := fun o a b => by rw [g5 o (by omega), y2.1 o a b, hA, jup_o a, jup_o a, jup_o a, m2 o (by omega)]
  have e1 : ∀ j, j ≠ 2 → j ≠ 3 → j ≠ 4 → D 1 j = M 1 j := fun j a b c => by rw [g5 1 (by omega), y2.2 j a b c, hA, jup_nk (by omega), jup_nk (by omega), jup_nk (by omega), m2 1 (by omega)]
  refine ⟨M1, D, m1, m3, ?_, eo, e1, ?_⟩
  · unfold f54
    rw [Option.bind_some, Option.bind_some, Option.bind_some, ← hA, y1]
    unfold f54_53
    rw [g1, Option.bind_some, g2]
    rfl
  · cases hp : prT L t 14 0 n k with
    | inl fp =>
      rw [hp] at y4
      exact ⟨y4.1, by rw [g5 1 (by omega)]; exact y4.2⟩
    | inr l =>
      rw [hp] at y4
      dsimp only at y4 ⊢
      refine ⟨by rw [g5 1 (by omega)]; exact y4.1, by rw [g5 1 (by omega), y4.2.1, Nat.zero_add], ⟨c, hc, by rw [g4 1 (by omega) (by omega) (by omega)]; exact y3, g3⟩, fun i q1 q2 q3 => by rw [g4 i q1 q2 q3, y4.2.2 19 (by omega)], fun o ho => by rw [g5 o (by omega), y4.2.2 o (by omega)]⟩
theorem t_fault {xs : Option (List Int32)} {M : JM} (h : Inv M) : ∃ a M1 M2, f70 xs 0 M = some (a, M1) ∧ f141 198 M1 = some (a, M2) ∧ Inv M2 := by
  have hI := h
  obtain ⟨n, k, h1, h2, h3, h4, h5, h6, ⟨t, t1, t2, t3, t4⟩, h8, h9⟩ := h
  obtain ⟨M1, Y, m1, m2, y1, y2, y3, y4⟩ := c_text (xs := xs) (L := M 3) (t := t) h1 ⟨t2, t1, fun i hi => rfl⟩
  have tm : TxM Y (M 3) t := ⟨by rw [y2 198 (by decide) (by omega)]; exact t3, t1, fun i hi => by rw [y2 201 (by decide) (by omega)]; exact (t4 i hi).1.symm⟩
  obtain ⟨v, Z, z1, z2, z3⟩ := m_text (n := n) (k := k) tm (by rw [y2 198 (by decide) (by omega)]; exact h2.1) (by rw [y2 198 (by decide) (by omega)]; exact h2.2.1) h1.2.1 h1.2.2.2.1
  have ev : Y 1 3 = v := by
    cases hp : prT (M 3) t 14 0 n k with
    | inl fp => rw [hp] at y4 z3; rw [y4.2, z3]
    | inr l => rw [hp] at y4 z3; rw [y4.1, z3.1]
  refine ⟨v, Y, Z, ?_, z1, Inv_same hI (fun o k hk => ?_)⟩
  · unfold f70
    rw [xp_0, xp_1, xp_2, m1, Option.bind_some, y1, Option.bind_some, ev]
  · unfold sck at hk
    by_cases o198 : o = 198
    · subst o198
      rw [z2.2 k (by omega) (by omega), y2 198 (by decide) (by omega)]
    · rw [z2.1 o o198 (by omega)]
      by_cases o1 : o = 1
      · subst o1
        exact y3 k (by omega) (by omega) (by omega)
      · rw [y2 o o1 (by omega)]
theorem blk_208 : Blk f217_208 := fun xs h18 i M hx hi hI => by
  obtain ⟨a, M1, M2, e1, e2, h2⟩ := t_fault (xs := some xs) hI
  refine ⟨M2, h2, ?_⟩
  unfold f217_208 f217_1076
  rw [show (5 : Int32) = N 5 from rfl]
  simp only [N_add, Option.bind_some, e1, e2, if_true]
end FA
