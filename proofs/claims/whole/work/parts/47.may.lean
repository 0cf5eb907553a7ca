/-! PURE: may -/
def free (M : JM) (p : Nat) : Bool := bt (M 34 1) p && (!(decide (M 34 0 < M 8 p)) && decide (M 36 p = -1))
theorem c_free {M : JM} {p : Nat} (hp : p < 9) : f108 M 0 (N p) = some (b2 (free M p)) := by
  unfold f108 free
  rw [xp_3, xp_1, has_N (by omega), get_in cok_4.2.1 hp, get_in lok_34.1 hp]
  simp only [Option.bind_some, b2_0]
  cases bt (M 34 1) p with
  | false => rfl
  | true =>
    by_cases h : M 34 0 < M 8 p
    · rw [if_neg (by decide), if_pos (show M 34 0 < M (4 + 4) p from h), decide_eq_true h]; rfl
    · rw [if_neg (by decide), if_neg (show ¬ M 34 0 < M (4 + 4) p from h), decide_eq_false h]
      by_cases h2 : M 36 p = -1
      · rw [if_pos (show M (34 + 2) p = -1 from h2), decide_eq_true h2]; rfl
      · rw [if_neg (show ¬ M (34 + 2) p = -1 from h2), decide_eq_false h2]; rfl
theorem m_free {M : JM} {n k p : Nat} (h1 : Ctr M 4 n k) (h2 : Agr M 4 n k) (h5 : Lif M 34 0 n) (hp : p < n) : f172 M 198 (N p) = some (b2 (free M p)) := by
  have hp9 : p < 9 := Nat.lt_of_lt_of_le hp h1.2.1
  have e1 : M 199 10 = M 34 1 := h5.2.1.1.symm
  have e2 : M 204 p = M 8 p := (h2.2.2.2.2.1 p hp).symm
  have e3 : M 199 0 = M 34 0 := h5.1.1.symm
  have e4 : M 199 (11 + p) = M 36 p := by
    have e := (h5.2.2.2.1 p hp).1
    rw [show 0 + 11 + p = 11 + p by omega] at e
    exact e.symm
  unfold f172 free
  rw [mp_0, mp_9, show (10 : Int32) = N 10 from rfl, show (11 : Int32) + N p = N (11 + p) from N_add, show jla 199 (0 : Int32) M = jla 199 (N 0) M from rfl, la_199 (by omega), la_199 (by omega), la_199 (by omega), la_204 hp9, e1, e2, e3, e4]
  simp only [Option.bind_some, m_has (show p < 31 by omega), b2_0]
  cases bt (M 34 1) p with
  | false => rfl
  | true =>
    by_cases h : M 34 0 < M 8 p
    · rw [if_neg (by decide), if_pos h, decide_eq_true h]; rfl
    · rw [if_neg (by decide), if_neg h, decide_eq_false h]
      by_cases h2 : M 36 p = -1
      · rw [if_pos h2, decide_eq_true h2]; rfl
      · rw [if_neg h2, decide_eq_false h2]; rfl
def nearB (l : Option Nat) (law : Int32) : Bool := match l with
  | none => false
  | some d => !(decide (law < N d))
theorem c_near {M : JM} {n k a b : Nat} {law y : Int32} (h1 : Ctr M 4 n k) (ha : a < n) (hb : b < n) : f107 M 0 (N a) (N b) law y = some (b2 (nearB (dg M 4 n k a b y) law)) := by
  unfold f107
  rw [xp_1, c_dg cok_4 h1 ha hb]
  simp only [Option.bind_some]
  cases hd : dg M 4 n k a b y with
  | none => rfl
  | some d =>
    have := deg_lt hd
    have hn9 := h1.2.1
    show (if N d = -1 then some 0 else if law < N d then some 0 else some 1) = _
    rw [if_neg (N_m1 (by omega))]
    show _ = some (b2 (!(decide (law < N d))))
    by_cases h : law < N d
    · rw [if_pos h, decide_eq_true h]; rfl
    · rw [if_neg h, decide_eq_false h]; rfl
theorem m_near {M : JM} {n k a b : Nat} {y : Int32} (h1 : Ctr M 4 n k) (h2 : Agr M 4 n k) (h4 : M 198 22 = -1) (ha : a < n) (hb : b < n) : ∃ s, f158 198 (N a) (N b) y M = some (b2 (nearB (dg M 4 n k a b y) (M 4 2)), jrw M 210 k s) := by
  obtain ⟨s, e⟩ := m_dg (y := y) h1 h2 h4 ha hb
  refine ⟨s, ?_⟩
  unfold f158
  rw [e]
  simp only [Option.bind_some]
  have el : jrw M 210 k s 198 16 = M 4 2 := by rw [jrw_o (by decide)]; exact h2.2.2.1
  rw [el]
  cases hd : dg M 4 n k a b y with
  | none => rfl
  | some d =>
    have := deg_lt hd
    have hn9 := h1.2.1
    show (if N d = -1 then _ else if M 4 2 < N d then _ else _) = _
    rw [if_neg (N_m1 (by omega))]
    show _ = some (b2 (!(decide (M 4 2 < N d))), jrw M 210 k s)
    by_cases h : M 4 2 < N d
    · rw [if_pos h, decide_eq_true h]; rfl
    · rw [if_neg h, decide_eq_false h]; rfl
def mayB (M : JM) (n k a b : Nat) : Bool := free M a && (free M b && !(nearB (dg M 4 n k a b (M 34 0)) (M 4 2)))
theorem c_may {M : JM} {n k a b : Nat} (h1 : Ctr M 4 n k) (ha : a < n) (hb : b < n) : f109 M 0 (N a) (N b) = some (b2 (mayB M n k a b)) := by
  have hn9 := h1.2.1
  unfold f109 mayB
  rw [xp_1, xp_3, c_free (by omega), c_free (by omega), c_near h1 ha hb]
  simp only [Option.bind_some, b2_0]
  cases free M a with
  | false => rfl
  | true =>
    cases free M b with
    | false => rfl
    | true => cases nearB (dg M 4 n k a b (M 34 0)) (M 4 2) <;> rfl
theorem m_may {M : JM} {n k a b : Nat} (h1 : Ctr M 4 n k) (h2 : Agr M 4 n k) (h4 : M 198 22 = -1) (h5 : Lif M 34 0 n) (ha : a < n) (hb : b < n) : ∃ M2, f173 198 (N a) (N b) M = some (b2 (mayB M n k a b), M2) ∧ (M2 = M ∨ ∃ s, M2 = jrw M 210 k s) := by
  unfold f173 mayB
  rw [m_free h1 h2 h5 ha, m_free h1 h2 h5 hb, mp_0, show jla 199 (0 : Int32) M = jla 199 (N 0) M from rfl, la_199 (by omega), h5.1.1.symm]
  simp only [Option.bind_some, b2_0]
  obtain ⟨s, e⟩ := m_near (y := M 34 0) h1 h2 h4 ha hb
  rw [e]
  simp only [Option.bind_some, b2_0]
  cases free M a with
  | false => exact ⟨M, rfl, Or.inl rfl⟩
  | true =>
    cases free M b with
    | false => exact ⟨M, rfl, Or.inl rfl⟩
    | true => cases nearB (dg M 4 n k a b (M 34 0)) (M 4 2) <;> exact ⟨_, rfl, Or.inr ⟨s, rfl⟩⟩
theorem same_may {M M2 : JM} {k : Nat} (h : M2 = M ∨ ∃ s, M2 = jrw M 210 k s) : Same M M2 := by
  rcases h with rfl | ⟨s, rfl⟩
  · exact Same.refl
  · exact same_210
theorem t_may {M : JM} {v w : Int32} (h : Inv M) : ∃ x M2, f79 M 0 v w = some x ∧ f174 198 v w M = some (x, M2) ∧ Inv M2 := by
  have hI := h
  obtain ⟨n, k, h1, h2, h3, h4, h5, h6, h7, h8, h9⟩ := h
  have hn9 : n ≤ 9 := h1.2.1
  unfold f79 f174
  rw [xp_1, c_two h1.1, m_two h2.1 (by omega)]
  simp only [Option.bind_some, b2_0]
  cases hv : (isN n v && (isN n w && !(decide (v = w)))) with
  | false => exact ⟨-2, M, rfl, rfl, hI⟩
  | true =>
    obtain ⟨a, b, ha, hb, hab, rfl, rfl⟩ := two_t (by omega) hv
    simp only [Bool.true_eq_false, if_false]
    obtain ⟨M2, e, hs⟩ := m_may h1 h2 h4 h5 ha hb
    rw [c_may h1 ha hb, e]
    simp only [Option.bind_some, b2_0]
    cases mayB M n k a b
    · exact ⟨0, M2, rfl, rfl, Inv_same hI (same_may hs)⟩
    · exact ⟨1, M2, rfl, rfl, Inv_same hI (same_may hs)⟩
theorem blk_465 : Blk f217_465 := fun xs h18 i M hx hi hI => by
  obtain ⟨a, M2, e1, e2, h2⟩ := t_may (v := xs.getD (i + 1) 0) (w := xs.getD (i + 2) 0) hI
  refine ⟨M2, h2, ?_⟩
  unfold f217_465 f217_1076
  rw [show (1 : Int32) = N 1 from rfl, show (2 : Int32) = N 2 from rfl, show (5 : Int32) = N 5 from rfl]
  simp only [N_add, sc_at (show i + 1 < xs.length by omega) hx, sc_at (show i + 2 < xs.length by omega) hx, Option.bind_some, e1, e2, if_true]
