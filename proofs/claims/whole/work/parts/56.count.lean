/-! PURE: count -/
theorem smN_one {f : Nat → Nat} {q : Nat} : ∀ m, q < m → (∀ j, j < m → j ≠ q → f j = 0) → smN f m = f q
  | 0, h, _ => absurd h (Nat.not_lt_zero _)
  | m + 1, h, h2 => by
    show smN f m + f m = f q
    by_cases e : q = m
    · subst e
      rw [smN_zero q (fun j hj => h2 j (by omega) (by omega)), Nat.zero_add]
    · rw [smN_one m (by omega) (fun j hj hne => h2 j (by omega) hne), h2 m (by omega) (fun q2 => e q2.symm)]; rfl
def wedP (W : Nat → Int32) (n : Nat) : Prop := ∀ p, p < n → W p = -1 ∨ ∃ q, q < n ∧ q ≠ p ∧ W p = N q ∧ W q = N p
def wedD (W : Nat → Int32) (p j : Nat) : Bool := decide (W p = N j)
section WD
variable {W : Nat → Int32} {n : Nat}
theorem wed_symm (hn : n ≤ 9) (h : wedP W n) : ∀ a b, a < n → b < n → wedD W a b = wedD W b a := by
  have one : ∀ a b, a < n → b < n → W a = N b → W b = N a := fun a b ha hb e => by
    rcases h a ha with h1 | ⟨q, hq, _, h2, h3⟩
    · exact absurd (e.symm.trans h1) (N_m1 (by omega))
    · have : q = b := (N_eq (by omega) (by omega)).mp (h2.symm.trans e)
      rw [← this]; exact h3
  intro a b ha hb
  unfold wedD
  by_cases e : W a = N b
  · rw [decide_eq_true e, decide_eq_true (one a b ha hb e)]
  · rw [decide_eq_false e, decide_eq_false (fun q => e (one b a hb ha q))]
theorem wed_any (hn : n ≤ 9) (h : wedP W n) {p : Nat} (hp : p < n) : smN (fun j => ibN (!(decide (j = p)) && wedD W p j)) n = ibN (!(decide (W p = -1))) := by
  rcases h p hp with h1 | ⟨q, hq, hqp, h2, _⟩
  · rw [decide_eq_true h1]
    refine smN_zero n (fun j hj => ?_)
    unfold wedD
    rw [h1, decide_eq_false (show ¬ (-1 : Int32) = N j from fun e => N_m1 (k := j) (by omega) e.symm), Bool.and_false]; rfl
  · rw [smN_one (q := q) n hq (fun j hj hne => ?_)]
    · unfold wedD
      rw [h2, decide_eq_true rfl, decide_eq_false hqp, decide_eq_false (N_m1 (by omega))]; rfl
    · unfold wedD
      rw [h2, decide_eq_false (show ¬ N q = N j from fun e => hne ((N_eq (by omega) (by omega)).mp e).symm), Bool.and_false]; rfl
theorem wed_up (hn : n ≤ 9) (h : wedP W n) {p : Nat} (hp : p < n) : smN (fun j => ibN (decide (p < j) && wedD W p j)) n = ibN (decide (N p < W p)) := by
  rcases h p hp with h1 | ⟨q, hq, hqp, h2, _⟩
  · have hlt : ¬ N p < (-1 : Int32) := fun e => by
      have h0 := N_neg (k := p) (by omega)
      rw [Int32.lt_iff_toInt_lt] at e h0
      have h1 : ((-1 : Int32)).toInt = -1 := rfl
      have h00 : ((0 : Int32)).toInt = 0 := rfl
      omega
    rw [h1, decide_eq_false hlt]
    refine smN_zero n (fun j hj => ?_)
    unfold wedD
    rw [h1, decide_eq_false (show ¬ (-1 : Int32) = N j from fun e => N_m1 (k := j) (by omega) e.symm), Bool.and_false]; rfl
  · rw [smN_one (q := q) n hq (fun j hj hne => ?_)]
    · unfold wedD
      rw [h2, decide_eq_true rfl, Bool.and_true]
      by_cases e : p < q
      · rw [decide_eq_true e, decide_eq_true ((N_lt (by omega) (by omega)).mpr e)]
      · rw [decide_eq_false e, decide_eq_false (fun z => e ((N_lt (by omega) (by omega)).mp z))]
    · unfold wedD
      rw [h2, decide_eq_false (show ¬ N q = N j from fun e => hne ((N_eq (by omega) (by omega)).mp e).symm), Bool.and_false]; rfl
theorem wed_half (hn : n ≤ 9) (h : wedP W n) : smN (fun p => ibN (!(decide (W p = -1)))) n = 2 * smN (fun p => ibN (decide (N p < W p))) n := by
  have e := sm_pairs (wed_symm hn h) n (Nat.le_refl _)
  rw [smN_congr (f := fun a => smN (fun j => ibN (!(decide (j = a)) && wedD W a j)) n) n (fun p hp => wed_any hn h hp), smN_congr (f := fun a => smN (fun j => ibN (decide (a < j) && wedD W a j)) n) n (fun p hp => wed_up hn h hp)] at e
  exact e
end WD
theorem smN_ib {g : Nat → Bool} (m : Nat) : smN (fun j => ibN (g j)) m ≤ m := by
  have := smN_le (c := 1) (f := fun j => ibN (g j)) m (fun j _ => ibN_le)
  omega
theorem c_marr {M : JM} {n : Nat} (hn : M 4 0 = N n) (hn9 : n ≤ 9) (h : wedP (M 36) n) : f110 M 0 = some (N (smN (fun p => ibN (decide (N p < M 36 p))) n)) := by
  unfold f110
  have key : ∀ (d p f : Nat), p + d = n → d < f → f110_4 M f 0 (N (smN (fun p => ibN (!(decide (M 36 p = -1)))) p)) (N p) = some (N (smN (fun p => ibN (decide (N p < M 36 p))) n)) := by
    intro d
    induction d with
    | zero =>
      intro p f hp hf
      obtain ⟨f, rfl⟩ : ∃ g, f = g + 1 := ⟨f - 1, by omega⟩
      have e : p = n := hp
      subst e
      have := smN_ib (g := fun q => decide (N q < M 36 q)) p
      rw [f110_4, xp_1, hn, if_neg (fun q => Nat.lt_irrefl _ ((N_lt (by omega) (by omega)).mp q)), wed_half hn9 h, half_ok (by omega)]
      rfl
    | succ d ih =>
      intro p f hp hf
      obtain ⟨f, rfl⟩ : ∃ g, f = g + 1 := ⟨f - 1, by omega⟩
      have e := ih (p + 1) f (by omega) (by omega)
      rw [f110_4, xp_1, xp_3, hn, if_pos ((N_lt (by omega) (by omega)).mpr (by omega)), get_in lok_34.1 (show p < 9 by omega)]
      unfold f110_33
      simp only [Option.bind_some, N_succ]
      rw [← e]
      show (if M 36 p = -1 then _ else _) = f110_4 M f 0 (N (smN (fun p => ibN (!(decide (M 36 p = -1)))) p + ibN (!(decide (M 36 p = -1))))) (N (p + 1))
      by_cases hw : M 36 p = -1
      · rw [if_pos hw, decide_eq_true hw]; rfl
      · rw [if_neg hw, decide_eq_false hw]; rfl
  exact key n 0 1000 (by omega) (by omega)
theorem m_marr {M : JM} {n : Nat} (hn : M 198 7 = N n) (hn9 : n ≤ 9) (h : ∀ p, p < n → M 199 (11 + p) = M 36 p) : f175 M 198 = some (N (smN (fun p => ibN (decide (N p < M 36 p))) n)) := by
  unfold f175
  have key : ∀ (d p f : Nat), p + d = n → d < f → f175_4 M f 198 (N (smN (fun p => ibN (decide (N p < M 36 p))) p)) (N p) = some (N (smN (fun p => ibN (decide (N p < M 36 p))) n)) := by
    intro d
    induction d with
    | zero =>
      intro p f hp hf
      obtain ⟨f, rfl⟩ : ∃ g, f = g + 1 := ⟨f - 1, by omega⟩
      have e : p = n := hp
      subst e
      rw [f175_4, hn, if_neg (fun q => Nat.lt_irrefl _ ((N_lt (by omega) (by omega)).mp q))]
    | succ d ih =>
      intro p f hp hf
      obtain ⟨f, rfl⟩ : ∃ g, f = g + 1 := ⟨f - 1, by omega⟩
      have e := ih (p + 1) f (by omega) (by omega)
      rw [f175_4, hn, if_pos ((N_lt (by omega) (by omega)).mpr (by omega)), mp_0, show (11 : Int32) + N p = N (11 + p) from N_add, la_199 (by omega), h p (by omega)]
      unfold f175_31
      simp only [Option.bind_some, N_succ]
      rw [← e]
      show (if N p < M 36 p then _ else _) = f175_4 M f 198 (N (smN (fun p => ibN (decide (N p < M 36 p))) p + ibN (decide (N p < M 36 p)))) (N (p + 1))
      by_cases hw : N p < M 36 p
      · rw [if_pos hw, decide_eq_true hw]; rfl
      · rw [if_neg hw, decide_eq_false hw, show (0 : Int32) = N 0 from rfl, N_add]; rfl
  exact key n 0 1000 (by omega) (by omega)
def gsum (M : JM) (p : Nat) : Int32 := itr (fun p s => s + M 38 p) 0 p 0
theorem gsum_succ {M : JM} {p : Nat} : gsum M (p + 1) = gsum M p + M 38 p := by
  unfold gsum
  rw [itr_succ, Nat.zero_add]
theorem c_gold {M : JM} {n : Nat} (hn9 : n ≤ 9) : f39 M 34 (N n) = some (gsum M n) := by
  unfold f39
  have key : ∀ (d p f : Nat), p + d = n → d < f → f39_4 M f 34 (N n) (gsum M p) (N p) = some (gsum M n) := by
    intro d
    induction d with
    | zero =>
      intro p f hp hf
      obtain ⟨f, rfl⟩ : ∃ g, f = g + 1 := ⟨f - 1, by omega⟩
      have e : p = n := hp
      subst e
      rw [f39_4, if_neg (fun q => Nat.lt_irrefl _ ((N_lt (by omega) (by omega)).mp q))]
    | succ d ih =>
      intro p f hp hf
      obtain ⟨f, rfl⟩ : ∃ g, f = g + 1 := ⟨f - 1, by omega⟩
      have e := ih (p + 1) f (by omega) (by omega)
      rw [f39_4, if_pos ((N_lt (by omega) (by omega)).mpr (by omega)), if_pos (show N p < (9 : Int32) from (N_lt (b := 9) (by omega) (by omega)).mpr (by omega)), get_in lok_34.2.1 (show p < 9 by omega)]
      simp only [Option.bind_some, N_succ]
      rw [gsum_succ] at e
      exact e
  exact key n 0 1000 (by omega) (by omega)
theorem m_gold {M : JM} {n : Nat} {w : Int32} (hn : M 198 7 = N n) (hn9 : n ≤ 9) (h : ∀ p, p < n → M 199 (1 + p) = M 38 p) : ∀ (d p f : Nat), p + d = n → f205_4 (f + d) 198 w (gsum M p) (N p) M = f205_4 f 198 w (gsum M n) (N n) M
  | 0, p, f, hp => by
    have e : p = n := hp
    subst e
    rfl
  | d + 1, p, f, hp => by
    have e := m_gold (w := w) hn hn9 h d (p + 1) f (by omega)
    rw [show f + (d + 1) = f + d + 1 by omega, f205_4, hn, if_pos ((N_lt (by omega) (by omega)).mpr (by omega)), mp_0, show (1 : Int32) + N p = N (1 + p) from N_add, la_199 (by omega), h p (by omega)]
    simp only [Option.bind_some, N_succ]
    rw [gsum_succ] at e
    exact e
theorem t_count {M : JM} {w : Int32} (h : Inv M) : ∃ x M2, f98 M 0 w = some x ∧ f205 198 w M = some (x, M2) ∧ Inv M2 := by
  have hI := h
  obtain ⟨n, k, h1, h2, h3, h4, h5, h6, h7, h8, h9⟩ := h
  have hn9 : n ≤ 9 := h1.2.1
  have e12 : ∀ p, p < n → M 199 (11 + p) = M 36 p := fun p hp => by
    have e := (h5.2.2.2.1 p hp).1
    rw [show 0 + 11 + p = 11 + p by omega] at e
    exact e.symm
  have e1p : ∀ p, p < n → M 199 (1 + p) = M 38 p := fun p hp => by
    have e := (h5.2.2.2.1 p hp).2
    rw [show 0 + 1 + p = 1 + p by omega] at e
    exact e.symm
  have hw : wedP (M 36) n := h5.2.2.2.2
  have hs : f205 198 w M = f205_4 (1000 - n) 198 w (gsum M n) (N n) M := by
    have := m_gold (w := w) h2.1 hn9 e1p n 0 (1000 - n) (by omega)
    rw [show 1000 - n + n = 1000 by omega] at this
    exact this
  rw [hs]
  obtain ⟨f, hf⟩ : ∃ f, 1000 - n = f + 1 := ⟨999 - n, by omega⟩
  rw [hf, f205_4, h2.1, if_neg (fun q => Nat.lt_irrefl _ ((N_lt (by omega) (by omega)).mp q))]
  unfold f98
  rw [xp_1, xp_3, xp_9, xp_0, c_marr h1.1 hn9 hw, m_marr h2.1 hn9 e12, h1.1, c_gold hn9, c_pairs cok_4 h1, mp_0, show jla 199 (0 : Int32) M = jla 199 (N 0) M from rfl, show jla 199 (10 : Int32) M = jla 199 (N 10) M from rfl, show jla 199 (20 : Int32) M = jla 199 (N 20) M from rfl, la_199 (by omega), la_199 (by omega), la_199 (by omega)]
  simp only [Option.bind_some]
  obtain ⟨X2, eP, sP⟩ := m_pairs (rfk_of h1 h2) (Sm.refl (M := M))
  have eY : M 34 0 = M 199 0 := h5.1.1
  have eQ : prs n (fun a b => (md M n k a b (M 199 0)).isSome) = prs n (fun a b => (dg M 4 n k a b (M 34 0)).isSome) := prs_congr (fun a b ha hb => by rw [eY, md_dg h1 h2 h4 ha hb])
  rw [eP, eQ]
  simp only [Option.bind_some]
  have c : ∀ (p : Prop) [Decidable p] (x y : Int32) (A : Option Int32) (Bm : Option (Int32 × JM)), (x = y) → (¬ p → ∃ z M2, A = some z ∧ Bm = some (z, M2) ∧ Inv M2) → ∃ z M2, (if p then some x else A) = some z ∧ (if p then some (y, M) else Bm) = some (z, M2) ∧ Inv M2 := fun p _ x y A Bm e h => by
    by_cases hp : p
    · rw [if_pos hp, if_pos hp]; exact ⟨x, M, rfl, by rw [e], hI⟩
    · rw [if_neg hp, if_neg hp]; exact h hp
  refine c _ _ _ _ _ rfl (fun _ => ?_)
  refine c _ _ _ _ _ (h1.2.2.1.trans h2.2.1.symm) (fun _ => ?_)
  refine c _ _ _ _ _ eY (fun _ => ?_)
  refine c _ _ _ _ _ h2.2.2.1.symm (fun _ => ?_)
  refine c _ _ _ _ _ h5.2.1.1 (fun _ => ?_)
  refine c _ _ _ _ _ rfl (fun _ => ?_)
  refine c _ _ _ _ _ rfl (fun _ => ?_)
  refine c _ _ _ _ _ (by obtain ⟨d, _, d1, d2, _⟩ := h5.2.2.1; exact d1.trans d2.symm) (fun _ => ?_)
  by_cases h8w : w = 8
  · rw [if_pos h8w, if_pos h8w]; exact ⟨_, X2, rfl, rfl, Inv_same hI sP.same⟩
  · rw [if_neg h8w, if_neg h8w]
    refine c _ _ _ _ _ (by obtain ⟨d, _, d1, d2, _⟩ := h6; exact d1.trans d2.symm) (fun _ => ?_)
    refine c _ _ _ _ _ (by obtain ⟨u, q, _, _, d1, d2, _⟩ := h8; exact d1.trans d2.symm) (fun _ => ?_)
    refine c _ _ _ _ _ (by obtain ⟨d, _, d1, d2, _⟩ := h7; exact d1.trans d2.symm) (fun _ => ?_)
    exact ⟨-3, M, rfl, rfl, hI⟩
theorem blk_1053 : Blk f217_1053 := fun xs h18 i M hx hi hI => by
  obtain ⟨a, M2, e1, e2, h2⟩ := t_count (w := xs.getD (i + 1) 0) hI
  refine ⟨M2, h2, ?_⟩
  unfold f217_1053 f217_1076
  rw [show (1 : Int32) = N 1 from rfl, show (5 : Int32) = N 5 from rfl]
  simp only [N_add, sc_at (show i + 1 < xs.length by omega) hx, Option.bind_some, e1, e2, if_true]
