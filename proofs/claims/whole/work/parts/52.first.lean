/-! PURE: first -/
section FI
variable {M : JM} {n k a b : Nat} {g : Int32}
/-- the first year of so many from y on in which they are kin within g -/
def fst0 (M : JM) (n k a b : Nat) (g : Int32) : Nat → Nat → Int32
  | 0, _ => -1
  | c + 1, y => if nearB (dg M 4 n k a b (N y)) g = true then N y else fst0 M n k a b g c (y + 1)
theorem c_first (h1 : Ctr M 4 n k) (ha : a < n) (hb : b < n) : ∀ (c y f : Nat), y + c = 100 → c < f → f88_37 M f 0 (N a) (N b) g (N y) = some (fst0 M n k a b g c y)
  | _, _, 0, _, hf => absurd hf (Nat.not_lt_zero _)
  | 0, y, f + 1, hy, _ => by
    rw [f88_37, if_pos (show (99 : Int32) < N y from (N_lt (a := 99) (by omega) (by omega)).mpr (by omega))]
    rfl
  | c + 1, y, f + 1, hy, hf => by
    rw [f88_37, if_neg (show ¬ (99 : Int32) < N y from fun q => absurd ((N_lt (a := 99) (by omega) (by omega)).mp q) (by omega)), c_near h1 ha hb]
    simp only [Option.bind_some, b2_0]
    unfold fst0
    cases nearB (dg M 4 n k a b (N y)) g with
    | true => rfl
    | false =>
      rw [if_pos rfl, if_neg (by decide), N_succ]
      exact c_first h1 ha hb c (y + 1) f (by omega) (by omega)
theorem m_first (h1 : Ctr M 4 n k) (h2 : Agr M 4 n k) (h4 : M 198 22 = -1) (ha : a < n) (hb : b < n) : ∀ (c y f : Nat) (X : JM), Same M X → y + c = 100 → c < f → ∃ X2, f188_35 f 198 (N a) (N b) g (N y) X = some (fst0 M n k a b g c y, X2) ∧ Same M X2
  | _, _, 0, _, _, _, hf => absurd hf (Nat.not_lt_zero _)
  | 0, y, f + 1, X, s, hy, _ => by
    rw [f188_35, if_pos (show (99 : Int32) < N y from (N_lt (a := 99) (by omega) (by omega)).mpr (by omega))]
    exact ⟨X, rfl, s⟩
  | c + 1, y, f + 1, X, s, hy, hf => by
    obtain ⟨X2, e, s2⟩ := m_dgs (y := N y) s h1 h2 h4 ha hb
    obtain ⟨X3, e3, s3⟩ := m_first h1 h2 h4 ha hb c (y + 1) f X2 s2 (by omega) (by omega)
    rw [f188_35, if_neg (show ¬ (99 : Int32) < N y from fun q => absurd ((N_lt (a := 99) (by omega) (by omega)).mp q) (by omega)), e]
    unfold fst0 f188_67
    simp only [Option.bind_some, N_succ]
    cases hd : dg M 4 n k a b (N y) with
    | none => exact ⟨X3, e3, s3⟩
    | some d =>
      have hdn := deg_lt hd
      have hn9 := h1.2.1
      show ∃ X2_1, (if N d = -1 then f188_35 f 198 (N a) (N b) g (N (y + 1)) X2 else if g < N d then f188_35 f 198 (N a) (N b) g (N (y + 1)) X2 else some (N y, X2)) = some (if (!(decide (g < N d))) = true then N y else fst0 M n k a b g c (y + 1), X2_1) ∧ Same M X2_1
      rw [if_neg (N_m1 (by omega))]
      by_cases hg : g < N d
      · rw [if_pos hg, decide_eq_true hg]
        exact ⟨X3, e3, s3⟩
      · rw [if_neg hg, decide_eq_false hg]
        exact ⟨X2, rfl, s2⟩
end FI
theorem t_first {M : JM} {v w g : Int32} (h : Inv M) : ∃ x M2, f88 M 0 v w g = some x ∧ f188 198 v w g M = some (x, M2) ∧ Inv M2 := by
  have hI := h
  obtain ⟨n, k, h1, h2, h3, h4, h5, h6, h7, h8, h9⟩ := h
  have hn9 : n ≤ 9 := h1.2.1
  unfold f88 f188
  rw [xp_1, xp_3, c_two h1.1, m_two h2.1 (by omega), mp_0, show (0 : Int64) = (0 : Int32).toInt64 from rfl, show (9 : Int64) = (9 : Int32).toInt64 from rfl, in_ok, show jla 199 (0 : Int32) M = jla 199 (N 0) M from rfl, la_199 (by omega)]
  simp only [Option.bind_some, b2_0]
  cases hv : (isN n v && (isN n w && !(decide (v = w)))) with
  | false => exact ⟨-2, M, rfl, rfl, hI⟩
  | true =>
    obtain ⟨a, b, ha, hb, hab, rfl, rfl⟩ := two_t (by omega) hv
    simp only [Bool.true_eq_false, if_false]
    by_cases g0 : g < 0
    · rw [if_pos g0, decide_eq_true g0]
      exact ⟨-3, M, rfl, rfl, hI⟩
    · rw [if_neg g0, decide_eq_false g0]
      by_cases g1 : (9 : Int32) < g
      · rw [if_pos g1, decide_eq_true g1]
        exact ⟨-3, M, rfl, rfl, hI⟩
      · rw [if_neg g1, decide_eq_false g1]
        obtain ⟨⟨ey, j, hj, ej⟩, _⟩ := h5
        rw [← ey, ej]
        obtain ⟨X2, e, s⟩ := m_first (g := g) h1 h2 h4 ha hb (100 - j) j 1000 M Same.refl (by omega) (by omega)
        rw [c_first h1 ha hb (100 - j) j 1000 (by omega) (by omega)]
        simp only [Bool.not_false, Bool.and_self, Bool.true_eq_false, if_false, e]
        exact ⟨_, X2, rfl, rfl, Inv_same hI s⟩
theorem blk_712 : Blk f217_712 := fun xs h18 i M hx hi hI => by
  obtain ⟨a, M2, e1, e2, h2⟩ := t_first (v := xs.getD (i + 1) 0) (w := xs.getD (i + 2) 0) (g := xs.getD (i + 3) 0) hI
  refine ⟨M2, h2, ?_⟩
  unfold f217_712 f217_1076
  rw [show (1 : Int32) = N 1 from rfl, show (2 : Int32) = N 2 from rfl, show (3 : Int32) = N 3 from rfl, show (5 : Int32) = N 5 from rfl]
  simp only [N_add, sc_at (show i + 1 < xs.length by omega) hx, sc_at (show i + 2 < xs.length by omega) hx, sc_at (show i + 3 < xs.length by omega) hx, Option.bind_some, e1, e2, if_true]
