/-! PURE: the invariant between the class's cells and the reference's -/
def rng (m : Nat) (x : Int32) : Prop := ∃ j, j < m ∧ x = N j
/-- a life of the class in cell o, the reference's in its row from b on; n people -/
def Lif (M : JM) (o b n : Nat) : Prop := (M o 0 = M 199 b ∧ rng 100 (M o 0)) ∧ (M o 1 = M 199 (b + 10) ∧ bnd n (M o 1)) ∧ (∃ d, d ≤ 8 ∧ M o 2 = N d ∧ M 199 (b + 20) = N d ∧ (∀ j, bt (M o 3) j = true → j < d) ∧ ∀ j, j < d → (M 199 (b + 21 + 5 * j + 4) = b2 (bt (M o 3) j) ∧ M (o + 6) j = M 199 (b + 21 + 5 * j) ∧ M (o + 8) j = M 199 (b + 21 + 5 * j + 1) ∧ M (o + 10) j = M 199 (b + 21 + 5 * j + 2) ∧ M (o + 12) j = M 199 (b + 21 + 5 * j + 3) ∧ rng n (M (o + 6) j) ∧ rng n (M (o + 8) j))) ∧ (∀ p, p < n → M (o + 2) p = M 199 (b + 11 + p) ∧ M (o + 4) p = M 199 (b + 1 + p)) ∧ (∀ p, p < n → M (o + 2) p = -1 ∨ ∃ q, q < n ∧ q ≠ p ∧ M (o + 2) p = N q ∧ M (o + 2) q = N p)
def Fst (M : JM) (n : Nat) : Prop := ∃ h, h ≤ 8 ∧ M 181 0 = N h ∧ M 198 27 = N h ∧ ∀ i, i < h → (M 183 i = M 213 (4 * i) ∧ M 185 i = M 213 (4 * i + 1) ∧ M 187 i = M 213 (4 * i + 2) ∧ M 189 i = M 213 (4 * i + 3) ∧ (∃ a b, a < n ∧ b < n ∧ a ≠ b ∧ M 183 i = N a ∧ M 185 i = N b) ∧ rng 100 (M 187 i) ∧ rng 2 (M 189 i))
def Txt (M : JM) : Prop := ∃ t, t ≤ 160 ∧ M 1 1 = N t ∧ M 198 4 = N t ∧ ∀ i, i < t → (M 3 i = M 201 i ∧ rng 256 (M 3 i))
def Und (M : JM) (n : Nat) : Prop := ∃ u q, u ≤ 8 ∧ q < 8 ∧ M 0 6 = N u ∧ M 198 1 = N u ∧ M 0 5 = N q ∧ ∀ i, i < u → Lif M (49 + 13 * ((q + 8 - u + i) % 8)) (183 + 61 * i) n
def Kep (M : JM) (n : Nat) : Prop := ∀ i, i < 2 → (M 200 i = b2 (bt (M 0 8) i) ∧ (bt (M 0 8) i = true → Lif M (155 + 13 * i) (61 + 61 * i) n))
def Rng (M : JM) (n k : Nat) : Prop := (∀ p, p < n → rng 3 (M 6 p) ∧ rng 100 (M 8 p)) ∧ (∀ c, c < k → rng 4 (M 16 c) ∧ rng 100 (M 18 c)) ∧ rng 7 (M 4 2)
def Inv (M : JM) : Prop := ∃ n k, Ctr M 4 n k ∧ Agr M 4 n k ∧ Rng M n k ∧ M 198 22 = -1 ∧ Lif M 34 0 n ∧ Fst M n ∧ Txt M ∧ Und M n ∧ Kep M n
/-- what no later call finds -/
def sck (o k : Nat) : Prop := (19 ≤ o ∧ o ≤ 33) ∨ (o = 1 ∧ 2 ≤ k) ∨ (o = 181 ∧ 1 ≤ k) ∨ (191 ≤ o ∧ o ≤ 197) ∨ (o = 198 ∧ (k = 6 ∨ (17 ≤ k ∧ k ≤ 21) ∨ 30 ≤ k)) ∨ o = 202 ∨ (210 ≤ o ∧ o ≤ 212) ∨ 214 ≤ o
def Same (M M2 : JM) : Prop := ∀ o k, ¬ sck o k → M2 o k = M o k
theorem Same.refl {M : JM} : Same M M := fun _ _ _ => rfl
theorem Same.trans {M M2 M3 : JM} (h : Same M M2) (h2 : Same M2 M3) : Same M M3 := fun o k q => (h2 o k q).trans (h o k q)
theorem Same.row {M M2 : JM} (h : Same M M2) {o : Nat} (q : ∀ k, ¬ sck o k) : M2 o = M o := funext (fun k => h o k (q k))
theorem Lif_eq {M M2 : JM} {o b n : Nat} (h : Lif M o b n) (e0 : M2 o = M o) (e2 : M2 (o + 2) = M (o + 2)) (e4 : M2 (o + 4) = M (o + 4)) (e6 : M2 (o + 6) = M (o + 6)) (e8 : M2 (o + 8) = M (o + 8)) (e10 : M2 (o + 10) = M (o + 10)) (e12 : M2 (o + 12) = M (o + 12)) (e : M2 199 = M 199) : Lif M2 o b n := by
  unfold Lif at h ⊢
  rw [e0, e2, e4, e6, e8, e10, e12, e]
  exact h
theorem Same.lif {M M2 : JM} (s : Same M M2) {o b n : Nat} (h : Lif M o b n) (ho : o = 34 ∨ (49 ≤ o ∧ o ≤ 168)) : Lif M2 o b n := Lif_eq h (s.row (fun k => by unfold sck; omega)) (s.row (fun k => by unfold sck; omega)) (s.row (fun k => by unfold sck; omega)) (s.row (fun k => by unfold sck; omega)) (s.row (fun k => by unfold sck; omega)) (s.row (fun k => by unfold sck; omega)) (s.row (fun k => by unfold sck; omega)) (s.row (fun k => by unfold sck; omega))
theorem Inv_same {M M2 : JM} (h : Inv M) (s : Same M M2) : Inv M2 := by
  obtain ⟨n, k, h1, h2, h3, h4, h5, h6, h7, h8, h9⟩ := h
  have r : ∀ o, o = 0 ∨ (3 ≤ o ∧ o ≤ 18) ∨ (183 ≤ o ∧ o ≤ 189) ∨ (199 ≤ o ∧ o ≤ 201) ∨ (203 ≤ o ∧ o ≤ 209) ∨ o = 213 → M2 o = M o := fun o ho => s.row (fun k => by unfold sck; omega)
  have f : ∀ k, k ≤ 5 ∨ (7 ≤ k ∧ k ≤ 16) ∨ (22 ≤ k ∧ k ≤ 29) → M2 198 k = M 198 k := fun k hk => s 198 k (by unfold sck; omega)
  refine ⟨n, k, ?_, ?_, ?_, ?_, s.lif h5 (Or.inl rfl), ?_, ?_, ?_, ?_⟩
  · unfold Ctr at h1 ⊢
    rw [r 4 (by omega), r (4 + 2) (by omega), r (4 + 4) (by omega), r (4 + 6) (by omega), r (4 + 8) (by omega), r (4 + 12) (by omega), r (4 + 14) (by omega)]
    exact h1
  · unfold Agr at h2 ⊢
    rw [r 4 (by omega), r (4 + 2) (by omega), r (4 + 4) (by omega), r (4 + 6) (by omega), r (4 + 8) (by omega), r (4 + 10) (by omega), r (4 + 12) (by omega), r (4 + 14) (by omega), r 203 (by omega), r 204 (by omega), r 205 (by omega), r 206 (by omega), r 207 (by omega), r 208 (by omega), r 209 (by omega), f 7 (by omega), f 13 (by omega), f 16 (by omega)]
    exact h2
  · unfold Rng at h3 ⊢
    rw [r 4 (by omega), r 6 (by omega), r 8 (by omega), r 16 (by omega), r 18 (by omega)]
    exact h3
  · rw [f 22 (by omega)]; exact h4
  · obtain ⟨m, hm⟩ := h6
    refine ⟨m, ?_⟩
    rw [s 181 0 (by unfold sck; omega), f 27 (by omega), r 183 (by omega), r 185 (by omega), r 187 (by omega), r 189 (by omega), r 213 (by omega)]
    exact hm
  · obtain ⟨m, hm⟩ := h7
    refine ⟨m, ?_⟩
    rw [s 1 1 (by unfold sck; omega), f 4 (by omega), r 3 (by omega), r 201 (by omega)]
    exact hm
  · obtain ⟨u, q, a1, a2, a3, a4, a5, a6⟩ := h8
    exact ⟨u, q, a1, a2, by rw [r 0 (by omega)]; exact a3, by rw [f 1 (by omega)]; exact a4, by rw [r 0 (by omega)]; exact a5, fun i hi => s.lif (a6 i hi) (by omega)⟩
  · intro i hi
    rw [r 200 (by omega), r 0 (by omega)]
    exact ⟨(h9 i hi).1, fun hb => s.lif ((h9 i hi).2 hb) (by omega)⟩
