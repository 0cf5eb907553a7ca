/-! PURE: last -/
section LA
variable {M : JM} {n k a b j : Nat}
/-- of so many years from j on the last in which they are not near -/
def lst0 (M : JM) (n k a b j : Nat) : Nat → Int32
  | 0 => -1
  | c + 1 => if nearB (dg M 4 n k a b (N (j + c))) (M 4 2) = true then lst0 M n k a b j c else N (j + c)
theorem c_last (h1 : Ctr M 4 n k) (ha : a < n) (hb : b < n) (hj : M 34 0 = N j) (hj2 : j < 100) : ∀ (c f : Nat) (z : Int32), j + c ≤ 100 → c < f → (z = N (j + c) - 1) → f89_18 M f 0 (N a) (N b) z = some (lst0 M n k a b j c)
  | _, 0, _, _, hf, _ => absurd hf (Nat.not_lt_zero _)
  | 0, f + 1, z, hc, _, hz => by
    have hlt : z < N j := by
      rw [hz]
      by_cases h0 : j = 0
      · subst h0; decide
      · rw [show N (j + 0) - 1 = N (j - 1) from (Int32.ofNat_sub j 1 (by omega)).symm]
        exact (N_lt (by omega) (by omega)).mpr (by omega)
    rw [f89_18, xp_3, hj, if_pos hlt]
    rfl
  | c + 1, f + 1, z, hc, hf, hz => by
    have e : z = N (j + c) := by
      rw [hz, show N (j + (c + 1)) - 1 = N (j + c) from (Int32.ofNat_sub (j + (c + 1)) 1 (by omega)).symm]
    rw [f89_18, xp_3, xp_1, hj, e, if_neg (fun q => absurd ((N_lt (by omega) (by omega)).mp q) (by omega)), c_near h1 ha hb]
    simp only [Option.bind_some, b2_0]
    unfold lst0
    cases nearB (dg M 4 n k a b (N (j + c))) (M 4 2) with
    | false => rfl
    | true =>
      rw [if_neg (by decide), if_pos rfl]
      refine c_last h1 ha hb hj hj2 c f _ (by omega) (by omega) ?_
      exact (Int32.sub_eq_add_neg (N (j + c)) 1).symm
theorem m_last (h1 : Ctr M 4 n k) (h2 : Agr M 4 n k) (h4 : M 198 22 = -1) (ha : a < n) (hb : b < n) : ∀ (c d f : Nat) (X : JM), Same M X → j + d + c = 100 → c < f → ∃ X2, f189_22 f 198 (N a) (N b) (lst0 M n k a b j d) (N (j + d)) X = some (lst0 M n k a b j (d + c), X2) ∧ Same M X2
  | _, _, 0, _, _, _, hf => absurd hf (Nat.not_lt_zero _)
  | 0, d, f + 1, X, s, hy, _ => by
    rw [f189_22, if_pos (show (99 : Int32) < N (j + d) from (N_lt (a := 99) (by omega) (by omega)).mpr (by omega))]
    exact ⟨X, rfl, s⟩
  | c + 1, d, f + 1, X, s, hy, hf => by
    obtain ⟨X2, e, s2⟩ := m_nears (y := N (j + d)) s h1 h2 h4 ha hb
    obtain ⟨X3, e3, s3⟩ := m_last h1 h2 h4 ha hb c (d + 1) f X2 s2 (by omega) (by omega)
    rw [f189_22, if_neg (show ¬ (99 : Int32) < N (j + d) from fun q => absurd ((N_lt (a := 99) (by omega) (by omega)).mp q) (by omega)), e]
    unfold f189_46
    simp only [Option.bind_some, b2_0, N_succ]
    refine ⟨X3, ?_, s3⟩
    rw [show d + (c + 1) = d + 1 + c by omega, ← e3]
    have el : lst0 M n k a b j (d + 1) = if nearB (dg M 4 n k a b (N (j + d))) (M 4 2) = true then lst0 M n k a b j d else N (j + d) := rfl
    rw [el]
    cases nearB (dg M 4 n k a b (N (j + d))) (M 4 2) <;> rfl
end LA
theorem t_last {M : JM} {v w : Int32} (h : Inv M) : ∃ x M2, f89 M 0 v w = some x ∧ f189 198 v w M = some (x, M2) ∧ Inv M2 := by
  have hI := h
  obtain ⟨n, k, h1, h2, h3, h4, h5, h6, h7, h8, h9⟩ := h
  have hn9 : n ≤ 9 := h1.2.1
  unfold f89 f189
  rw [xp_1, c_two h1.1, m_two h2.1 (by omega), mp_0, show jla 199 (0 : Int32) M = jla 199 (N 0) M from rfl, la_199 (by omega)]
  simp only [Option.bind_some, b2_0]
  cases hv : (isN n v && (isN n w && !(decide (v = w)))) with
  | false => exact ⟨-2, M, rfl, rfl, hI⟩
  | true =>
    obtain ⟨a, b, ha, hb, hab, rfl, rfl⟩ := two_t (by omega) hv
    simp only [Bool.true_eq_false, if_false]
    obtain ⟨⟨ey, j, hj, ej⟩, _⟩ := h5
    rw [← ey, ej]
    obtain ⟨X2, e, s⟩ := m_last (j := j) h1 h2 h4 ha hb (100 - j) 0 1000 M Same.refl (by omega) (by omega)
    rw [c_last h1 ha hb ej hj (100 - j) 1000 99 (by omega) (by omega) (by rw [show j + (100 - j) = 100 by omega]; rfl)]
    rw [show 0 + (100 - j) = 100 - j by omega] at e
    exact ⟨_, X2, rfl, e, Inv_same hI s⟩
theorem blk_755 : Blk f217_755 := fun xs h18 i M hx hi hI => by
  obtain ⟨a, M2, e1, e2, h2⟩ := t_last (v := xs.getD (i + 1) 0) (w := xs.getD (i + 2) 0) hI
  refine ⟨M2, h2, ?_⟩
  unfold f217_755 f217_1076
  rw [show (1 : Int32) = N 1 from rfl, show (2 : Int32) = N 2 from rfl, show (5 : Int32) = N 5 from rfl]
  simp only [N_add, sc_at (show i + 1 < xs.length by omega) hx, sc_at (show i + 2 < xs.length by omega) hx, Option.bind_some, e1, e2, if_true]
