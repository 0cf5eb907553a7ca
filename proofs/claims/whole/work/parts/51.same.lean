/-! PURE: the same answers wherever only scratch cells differ -/
section SM
variable {M X : JM} {n k a b : Nat} {y : Int32}
theorem same_ctr (s : Same M X) (h : Ctr M 4 n k) : Ctr X 4 n k := ctr_fr (fun o ho => s.row (fun j => by unfold sck; omega)) h
theorem same_agr (s : Same M X) (h : Agr M 4 n k) : Agr X 4 n k := agr_fr (fun o ho => s.row (fun j => by unfold sck; omega)) (fun j hj => s 198 j (by unfold sck; omega)) h
theorem same_lo (s : Same M X) (h : M 198 22 = -1) : X 198 22 = -1 := by rw [s 198 22 (by unfold sck; omega)]; exact h
theorem same_dg (s : Same M X) : dg X 4 n k a b y = dg M 4 n k a b y := by
  unfold dg lts
  rw [s.row (o := 4) (fun j => by unfold sck; omega), s.row (o := 4 + 4) (fun j => by unfold sck; omega), s.row (o := 4 + 6) (fun j => by unfold sck; omega), s.row (o := 4 + 8) (fun j => by unfold sck; omega), s.row (o := 4 + 14) (fun j => by unfold sck; omega)]
theorem same_free (s : Same M X) {p : Nat} : free X p = free M p := by
  unfold free
  rw [s.row (o := 34) (fun j => by unfold sck; omega), s.row (o := 8) (fun j => by unfold sck; omega), s.row (o := 36) (fun j => by unfold sck; omega)]
theorem same_mayB (s : Same M X) : mayB X n k a b = mayB M n k a b := by
  unfold mayB
  rw [same_free s, same_free s, s.row (o := 34) (fun j => by unfold sck; omega), same_dg s, s.row (o := 4) (fun j => by unfold sck; omega)]
theorem m_dgs (s : Same M X) (h1 : Ctr M 4 n k) (h2 : Agr M 4 n k) (h4 : M 198 22 = -1) (ha : a < n) (hb : b < n) : ∃ X2, f156 198 (N a) (N b) y X = some (oi (dg M 4 n k a b y), X2) ∧ Same M X2 := by
  obtain ⟨g, e⟩ := m_dg (y := y) (same_ctr s h1) (same_agr s h2) (same_lo s h4) ha hb
  exact ⟨_, by rw [e, same_dg s], s.trans same_210⟩
theorem m_nears (s : Same M X) (h1 : Ctr M 4 n k) (h2 : Agr M 4 n k) (h4 : M 198 22 = -1) (ha : a < n) (hb : b < n) : ∃ X2, f158 198 (N a) (N b) y X = some (b2 (nearB (dg M 4 n k a b y) (M 4 2)), X2) ∧ Same M X2 := by
  obtain ⟨g, e⟩ := m_near (y := y) (same_ctr s h1) (same_agr s h2) (same_lo s h4) ha hb
  exact ⟨_, by rw [e, same_dg s, s 4 2 (by unfold sck; omega)], s.trans same_210⟩
theorem m_mays (s : Same M X) (h1 : Ctr M 4 n k) (h2 : Agr M 4 n k) (h4 : M 198 22 = -1) (h5 : Lif M 34 0 n) (ha : a < n) (hb : b < n) : ∃ X2, f173 198 (N a) (N b) X = some (b2 (mayB M n k a b), X2) ∧ Same M X2 := by
  obtain ⟨X2, e, hs⟩ := m_may (same_ctr s h1) (same_agr s h2) (same_lo s h4) (s.lif h5 (Or.inl rfl)) ha hb
  refine ⟨X2, by rw [e, same_mayB s], s.trans ?_⟩
  rcases hs with rfl | ⟨g, rfl⟩
  · exact Same.refl
  · exact same_210
end SM
