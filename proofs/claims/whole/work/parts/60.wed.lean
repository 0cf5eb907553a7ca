/-! PURE: wed, owe -/
def rfree (M : JM) (p : Nat) : Bool := bt (M 199 10) p && (!(decide (M 199 0 < M 204 p)) && decide (M 199 (11 + p) = -1))
def rmay (M : JM) (n k a b : Nat) : Bool := rfree M a && (rfree M b && !(nearB (md M n k a b (M 199 0)) (M 198 16)))
def Rc (M X : JM) : Prop := ∀ o, 198 ≤ o → o ≠ 210 → X o = M o
section RM
variable {M X : JM} {n k a b p : Nat} {y : Int32}
theorem rc_md (s : Rc M X) : md X n k a b y = md M n k a b y := by
  unfold md ltm
  rw [s 203 (by decide) (by decide), s 204 (by decide) (by decide), s 205 (by decide) (by decide), s 206 (by decide) (by decide), s 208 (by decide) (by decide), s 209 (by decide) (by decide), s 198 (by decide) (by decide)]
theorem rc_rfk (s : Rc M X) (h : Rfk M n k) : Rfk X n k := by
  unfold Rfk at h ⊢
  rw [s 204 (by decide) (by decide), s 205 (by decide) (by decide), s 206 (by decide) (by decide), s 198 (by decide) (by decide)]
  exact h
theorem rc_rmay (s : Rc M X) : rmay X n k a b = rmay M n k a b := by
  unfold rmay rfree
  rw [rc_md s, s 199 (by decide) (by decide), s 198 (by decide) (by decide), s 204 (by decide) (by decide)]
theorem m_rfree (hp : p < 9) : f172 X 198 (N p) = some (b2 (rfree X p)) := by
  unfold f172 rfree
  rw [mp_0, mp_9, la_10, la_0, show (11 : Int32) + N p = N (11 + p) from N_add, la_199 (by omega), la_204 hp]
  simp only [Option.bind_some, m_has (show p < 31 by omega), b2_0]
  cases bt (X 199 10) p with
  | false => rfl
  | true =>
    by_cases h : X 199 0 < X 204 p
    · rw [if_neg (by decide), if_pos h, decide_eq_true h]; rfl
    · rw [if_neg (by decide), if_neg h, decide_eq_false h]
      by_cases h2 : X 199 (11 + p) = -1
      · rw [if_pos h2, decide_eq_true h2]; rfl
      · rw [if_neg h2, decide_eq_false h2]; rfl
theorem m_rnear (s : Sm M X) (h : Rfk M n k) (ha : a < n) (hb : b < n) : ∃ X2, f158 198 (N a) (N b) y X = some (b2 (nearB (md M n k a b y) (M 198 16)), X2) ∧ Sm M X2 := by
  obtain ⟨X2, e, s2⟩ := m_degs (y := y) s h ha hb
  refine ⟨X2, ?_, s2⟩
  have hn9 := h.2.1
  unfold f158
  rw [e]
  simp only [Option.bind_some]
  rw [s2 198 (by decide)]
  cases hd : md M n k a b y with
  | none => rfl
  | some d =>
    have := deg_lt hd
    show (if N d = -1 then _ else if M 198 16 < N d then _ else _) = _
    rw [if_neg (N_m1 (by omega))]
    show _ = some (b2 (!(decide (M 198 16 < N d))), X2)
    by_cases h : M 198 16 < N d
    · rw [if_pos h, decide_eq_true h]; rfl
    · rw [if_neg h, decide_eq_false h]; rfl
theorem m_rmay (s : Sm M X) (h : Rfk M n k) (ha : a < n) (hb : b < n) : ∃ X2, f173 198 (N a) (N b) X = some (b2 (rmay M n k a b), X2) ∧ Sm M X2 := by
  have hn9 := h.2.1
  have fr : ∀ q, rfree X q = rfree M q := fun q => by
    unfold rfree
    rw [s 199 (by decide), s 204 (by decide)]
  obtain ⟨X2, e, s2⟩ := m_rnear (y := M 199 0) s h ha hb
  unfold f173 rmay
  rw [m_rfree (by omega), m_rfree (by omega), fr, fr, mp_0, la_0, s 199 (by decide)]
  simp only [Option.bind_some, b2_0, e]
  cases rfree M a with
  | false => exact ⟨X, rfl, s⟩
  | true =>
    cases rfree M b with
    | false => exact ⟨X, rfl, s⟩
    | true => cases nearB (md M n k a b (M 199 0)) (M 198 16) <;> exact ⟨_, rfl, s2⟩
theorem rmay_eq (h1 : Ctr M 4 n k) (h2 : Agr M 4 n k) (h4 : M 198 22 = -1) (h5 : Lif M 34 0 n) (ha : a < n) (hb : b < n) : rmay M n k a b = mayB M n k a b := by
  have fr : ∀ p, p < n → rfree M p = free M p := fun p hp => by
    unfold rfree free
    rw [(lif_w h5 hp).1, ← h2.2.2.2.2.1 p hp, show M 199 10 = M 34 1 from h5.2.1.1.symm, show M 199 0 = M 34 0 from h5.1.1.symm]
  unfold rmay mayB
  rw [fr a ha, fr b hb, md_dg h1 h2 h4 ha hb, show M 199 0 = M 34 0 from h5.1.1.symm, h2.2.2.1]
end RM
theorem set_36 {X : JM} {x : Nat} {v : Int32} (h : x < 9) : f43 (jpt 34 4) (N x) v X = some (jup X 36 x v) := set_in lok_34.1 h
theorem set_38 {X : JM} {x : Nat} {v : Int32} (h : x < 9) : f43 (jpt 34 5) (N x) v X = some (jup X 38 x v) := set_in lok_34.2.1 h
theorem set_40 {X : JM} {x : Nat} {v : Int32} (h : x < 8) : f43 (jpt 34 6) (N x) v X = some (jup X 40 x v) := set_in lok_34.2.2.1 h
theorem set_42 {X : JM} {x : Nat} {v : Int32} (h : x < 8) : f43 (jpt 34 7) (N x) v X = some (jup X 42 x v) := set_in lok_34.2.2.2.1 h
theorem set_44 {X : JM} {x : Nat} {v : Int32} (h : x < 8) : f43 (jpt 34 8) (N x) v X = some (jup X 44 x v) := set_in lok_34.2.2.2.2.1 h
theorem set_46 {X : JM} {x : Nat} {v : Int32} (h : x < 8) : f43 (jpt 34 9) (N x) v X = some (jup X 46 x v) := set_in lok_34.2.2.2.2.2 h
theorem get_36 {X : JM} {x : Nat} (h : x < 9) : f42 X (jpt 34 4) (N x) = some (X 36 x) := get_in lok_34.1 h
theorem get_38 {X : JM} {x : Nat} (h : x < 9) : f42 X (jpt 34 5) (N x) = some (X 38 x) := get_in lok_34.2.1 h
theorem get_40 {X : JM} {x : Nat} (h : x < 8) : f42 X (jpt 34 6) (N x) = some (X 40 x) := get_in lok_34.2.2.1 h
theorem get_42 {X : JM} {x : Nat} (h : x < 8) : f42 X (jpt 34 7) (N x) = some (X 42 x) := get_in lok_34.2.2.2.1 h
theorem get_44 {X : JM} {x : Nat} (h : x < 8) : f42 X (jpt 34 8) (N x) = some (X 44 x) := get_in lok_34.2.2.2.2.1 h
theorem get_46 {X : JM} {x : Nat} (h : x < 8) : f42 X (jpt 34 9) (N x) = some (X 46 x) := get_in lok_34.2.2.2.2.2 h
theorem t_wed {M : JM} {v w : Int32} (h : Inv M) : Two (f80 0 v w) (f176 198 v w) M := by
  have hI := h
  obtain ⟨n, k, h1, h2, h3, h4, h5, h6, h7, h8, h9⟩ := h
  have hn9 : n ≤ 9 := h1.2.1
  unfold Two f80 f176
  rw [xp_1, xp_3, mp_0, c_two h1.1]
  simp only [Option.bind_some, b2_0]
  cases hv : (isN n v && (isN n w && !(decide (v = w)))) with
  | false =>
    refine ⟨-2, M, M, rfl, ?_, hI⟩
    rw [m_two h2.1 (by omega), hv]; rfl
  | true =>
    obtain ⟨a, b, ha, hb, hab, rfl, rfl⟩ := two_t (by omega) hv
    rw [c_may h1 ha hb]
    simp only [Option.bind_some, b2_0, Bool.true_eq_false, if_false]
    cases hm : mayB M n k a b with
    | false =>
      obtain ⟨X, e, s⟩ := m_rmay Sm.refl (rfk_of h1 h2) ha hb
      rw [rmay_eq h1 h2 h4 h5 ha hb, hm] at e
      refine ⟨-4, M, X, rfl, ?_, Inv_same hI s.same⟩
      rw [m_two h2.1 (by omega), hv]
      simp only [Option.bind_some, b2_0, Bool.true_eq_false, if_false, e, if_true]
    | true =>
      obtain ⟨M1, d1, d2, d3⟩ := deed h1 h2 h3 h4 h5 h6 h7 h8 h9
      obtain ⟨Z, hZ⟩ : ∃ Z, Z = jup (jup M1 36 a (N b)) 36 b (N a) := ⟨_, rfl⟩
      have zo : ∀ o, o ≠ 36 → Z o = M1 o := fun o ho => by rw [hZ, jup_o ho, jup_o ho]
      have z36 : ∀ p, Z 36 p = if p = b then N a else if p = a then N b else M 36 p := fun p => by
        rw [hZ, jup_at, jup_at, d2 36 (by omega) (by omega)]
        simp only [true_and]
      have zM : ∀ o, o ≠ 36 → o ≠ 0 → ¬ (49 ≤ o ∧ o ≤ 152) → Z o = M o := fun o q1 q2 q3 => by rw [zo o q1, d2 o q2 q3]
      have hrc : Rc M Z := fun o q1 _ => zM o (by omega) (by omega) (by omega)
      obtain ⟨X1, e, s⟩ := m_rmay (Sm.refl (M := Z)) (rc_rfk hrc (rfk_of h1 h2)) ha hb
      rw [rc_rmay hrc, rmay_eq h1 h2 h4 h5 ha hb, hm] at e
      obtain ⟨X2, g1, g2, g3, g4, g5⟩ := d3 X1 (fun o ho h210 => by rw [s o h210, zo o (by omega)])
      have fa : M 36 a = -1 ∧ M 36 b = -1 := by
        unfold mayB free at hm
        simp only [Bool.and_eq_true, decide_eq_true_iff] at hm
        exact ⟨hm.1.2.2, hm.2.1.2.2⟩
      have hw : wedP (M 36) n := h5.2.2.2.2
      have hw2 : wedP (Z 36) n := by
        intro p hp
        by_cases e1 : p = b
        · subst e1
          exact Or.inr ⟨a, ha, hab, by rw [z36, if_pos rfl], by rw [z36, if_neg hab, if_pos rfl]⟩
        · by_cases e2 : p = a
          · subst e2
            exact Or.inr ⟨b, hb, fun q => hab q.symm, by rw [z36, if_neg hab, if_pos rfl], by rw [z36, if_pos rfl]⟩
          · rcases hw p hp with q | ⟨q, hq, hqp, q1, q2⟩
            · exact Or.inl (by rw [z36, if_neg e1, if_neg e2]; exact q)
            · have n1 : q ≠ b := fun z => by rw [z, fa.2] at q2; exact N_m1 (by omega) q2.symm
              have n2 : q ≠ a := fun z => by rw [z, fa.1] at q2; exact N_m1 (by omega) q2.symm
              exact Or.inr ⟨q, hq, hqp, by rw [z36, if_neg e1, if_neg e2]; exact q1, by rw [z36, if_neg n1, if_neg n2]; exact q2⟩
      obtain ⟨Y, hY⟩ : ∃ Y, Y = jup (jup X2 199 (11 + a) (N b)) 199 (11 + b) (N a) := ⟨_, rfl⟩
      have yo : ∀ o, o ≠ 198 → o ≠ 199 → o ≠ 210 → Y o = Z o := fun o q1 q2 q3 => by rw [hY, jup_o q2, jup_o q2, g2 o q1 q2, s o q3]
      have x199 : ∀ j, j < 183 → X2 199 j = M 199 j := fun j hj => by rw [g4 j hj, s 199 (by decide), zM 199 (by omega) (by omega) (by omega)]
      have y199 : ∀ j, j ≠ 11 + a → j ≠ 11 + b → Y 199 j = X2 199 j := fun j q1 q2 => by rw [hY, jup_nk (by omega), jup_nk (by omega)]
      have y11 : ∀ p, p < n → Y 199 (11 + p) = Z 36 p := fun p hp => by
        rw [z36, hY, jup_at, jup_at]
        simp only [true_and]
        by_cases e1 : p = b
        · rw [if_pos e1, if_pos (by omega)]
        · rw [if_neg e1, if_neg (by omega)]
          by_cases e2 : p = a
          · rw [if_pos e2, if_pos (by omega)]
          · rw [if_neg e2, if_neg (by omega), x199 _ (by omega), (lif_w h5 hp).1]
      refine ⟨N (smN (fun p => ibN (decide (N p < Z 36 p))) n), Z, Y, ?_, ?_, ?_⟩
      · rw [d1, if_neg (by decide)]
        simp only [Option.bind_some, set_36 (show a < 9 by omega), set_36 (show b < 9 by omega), ← hZ, c_marr (M := Z) (by rw [zM 4 (by omega) (by omega) (by omega)]; exact h1.1) hn9 hw2]
      · rw [m_two (M := Z) (by rw [zM 198 (by omega) (by omega) (by omega)]; exact h2.1) (by omega), hv]
        simp only [Option.bind_some, b2_0, Bool.true_eq_false, if_false, e, g1]
        rw [show (11 : Int32) + N a = N (11 + a) from N_add, show (11 : Int32) + N b = N (11 + b) from N_add, sa_199 (by omega)]
        simp only [Option.bind_some]
        rw [sa_199 (by omega)]
        simp only [Option.bind_some, ← hY]
        rw [m_marr (M := Y) (n := n) ?_ hn9 (fun p hp => by rw [y11 p hp, yo 36 (by omega) (by omega) (by omega)])]
        · rw [yo 36 (by omega) (by omega) (by omega)]; rfl
        · rw [hY, jup_o (by omega), jup_o (by omega), g3 7 (by omega), s 198 (by omega), zM 198 (by omega) (by omega) (by omega)]; exact h2.1
      · have yM : ∀ o, o ≠ 36 → o ≠ 0 → ¬ (49 ≤ o ∧ o ≤ 152) → o ≠ 198 → o ≠ 199 → o ≠ 210 → Y o = M o := fun o q1 q2 q3 q4 q5 q6 => by rw [yo o q4 q5 q6, zM o q1 q2 q3]
        have y34 : Y 34 = M 34 := yM 34 (by omega) (by omega) (by omega) (by omega) (by omega) (by omega)
        refine g5 Y (fun o q1 q2 q3 => by rw [hY, jup_o q2, jup_o q2]) (fun j hj => y199 j (by omega) (by omega)) (lif_mk ?_ ?_ ?_ ?_ ?_)
        · rw [y34, y199 0 (by omega) (by omega), x199 0 (by omega)]; exact h5.1
        · rw [y34, y199 10 (by omega) (by omega), x199 10 (by omega)]; exact h5.2.1
        · exact lifD_eq h5.2.2.1 (by rw [y34]) (by rw [y34]) (fun q hq => yM q (by omega) (by omega) (by omega) (by omega) (by omega) (by omega)) (fun j q1 q2 => by rw [y199 j (by omega) (by omega), x199 j (by omega)])
        · intro p hp
          rw [yo 36 (by omega) (by omega) (by omega), y11 p hp, yM 38 (by omega) (by omega) (by omega) (by omega) (by omega) (by omega), y199 (1 + p) (by omega) (by omega), x199 (1 + p) (by omega)]
          exact ⟨rfl, (lif_w h5 hp).2⟩
        · rw [yo 36 (by omega) (by omega) (by omega)]; exact hw2
theorem c_live {M : JM} {a b : Nat} (ha : a < 9) (hb : b < 9) : f106 M 0 (N a) (N b) = some (b2 (bt (M 34 1) a && bt (M 34 1) b)) := by
  unfold f106
  rw [xp_3, has_N (by omega), has_N (by omega)]
  simp only [Option.bind_some, b2_0]
  cases bt (M 34 1) a with
  | false => rfl
  | true => cases bt (M 34 1) b <;> rfl
theorem m_live {M : JM} {a b : Nat} (ha : a < 9) (hb : b < 9) : f179 M 198 (N a) (N b) = some (b2 (bt (M 199 10) a && bt (M 199 10) b)) := by
  unfold f179
  rw [mp_0, la_10]
  simp only [Option.bind_some, b2_0, m_has (show a < 31 by omega), m_has (show b < 31 by omega)]
  cases bt (M 199 10) a with
  | false => rfl
  | true => cases bt (M 199 10) b <;> rfl
theorem t_owe {M : JM} {v w z : Int32} (h : Inv M) : Two (f82 0 v w z) (f180 198 v w z) M := by
  have hI := h
  obtain ⟨n, k, h1, h2, h3, h4, h5, h6, h7, h8, h9⟩ := h
  have hn9 : n ≤ 9 := h1.2.1
  obtain ⟨d, hd8, dd1, dd2, dd3, dd4⟩ : LifD M 34 0 n := h5.2.2.1
  unfold Two f82 f180
  rw [xp_1, xp_3, mp_0, c_two h1.1]
  simp only [Option.bind_some, b2_0, in_1]
  cases hv : (isN n v && (isN n w && !(decide (v = w)))) with
  | false =>
    refine ⟨-2, M, M, rfl, ?_, hI⟩
    rw [m_two h2.1 (by omega), hv]; rfl
  | true =>
    obtain ⟨a, b, ha, hb, hab, rfl, rfl⟩ := two_t (by omega) hv
    simp only [Bool.true_eq_false, if_false]
    by_cases c1 : z < 1
    · rw [if_pos c1, decide_eq_true c1]
      refine ⟨-3, M, M, rfl, ?_, hI⟩
      rw [m_two h2.1 (by omega), hv]; rfl
    · rw [if_neg c1, decide_eq_false c1]
      by_cases c2 : (99 : Int32) < z
      · rw [if_pos c2, decide_eq_true c2]
        refine ⟨-3, M, M, rfl, ?_, hI⟩
        rw [m_two h2.1 (by omega), hv]; rfl
      · rw [if_neg c2, decide_eq_false c2, c_live (by omega) (by omega), dd1]
        simp only [Option.bind_some, b2_0, Bool.not_false, Bool.and_self, Bool.true_eq_false, if_false]
        have el : M 199 10 = M 34 1 := h5.2.1.1.symm
        cases hl : (bt (M 34 1) a && bt (M 34 1) b) with
        | false =>
          refine ⟨-4, M, M, rfl, ?_, hI⟩
          rw [m_two h2.1 (by omega), hv, m_live (by omega) (by omega), el, hl]; rfl
        | true =>
          simp only [Bool.true_eq_false, if_false]
          by_cases c3 : d < 8
          · rw [if_pos (show N d < (8 : Int32) from (N_lt (b := 8) (by omega) (by omega)).mpr c3)]
            obtain ⟨M1, d1, d2, d3⟩ := deed h1 h2 h3 h4 h5 h6 h7 h8 h9
            obtain ⟨Z, hZ⟩ : ∃ Z, Z = jup (jup (jup (jup (jup M1 34 2 (N (d + 1))) 40 d (N a)) 42 d (N b)) 44 d z) 46 d (M 34 0) := ⟨_, rfl⟩
            have m34 : M1 34 = M 34 := d2 34 (by omega) (by omega)
            have zM : ∀ o, o ≠ 34 → o ≠ 40 → o ≠ 42 → o ≠ 44 → o ≠ 46 → o ≠ 0 → ¬ (49 ≤ o ∧ o ≤ 152) → Z o = M o := fun o q1 q2 q3 q4 q5 q6 q7 => by rw [hZ, jup_o q5, jup_o q4, jup_o q3, jup_o q2, jup_o q1, d2 o q6 q7]
            have z34 : ∀ j, j ≠ 2 → Z 34 j = M 34 j := fun j hj => by rw [hZ, jup_o (by omega), jup_o (by omega), jup_o (by omega), jup_o (by omega), jup_nk (by omega), m34]
            have z342 : Z 34 2 = N (d + 1) := by rw [hZ, jup_o (by omega), jup_o (by omega), jup_o (by omega), jup_o (by omega), jup_same]
            have z40 : ∀ j, Z 40 j = if j = d then N a else M 40 j := fun j => by
              rw [hZ, jup_o (by omega), jup_o (by omega), jup_o (by omega), jup_at, jup_o (by omega), d2 40 (by omega) (by omega)]; simp only [true_and]
            have z42 : ∀ j, Z 42 j = if j = d then N b else M 42 j := fun j => by
              rw [hZ, jup_o (by omega), jup_o (by omega), jup_at, jup_o (by omega), jup_o (by omega), d2 42 (by omega) (by omega)]; simp only [true_and]
            have z44 : ∀ j, Z 44 j = if j = d then z else M 44 j := fun j => by
              rw [hZ, jup_o (by omega), jup_at, jup_o (by omega), jup_o (by omega), jup_o (by omega), d2 44 (by omega) (by omega)]; simp only [true_and]
            have z46 : ∀ j, Z 46 j = if j = d then M 34 0 else M 46 j := fun j => by
              rw [hZ, jup_at, jup_o (by omega), jup_o (by omega), jup_o (by omega), jup_o (by omega), d2 46 (by omega) (by omega)]; simp only [true_and]
            obtain ⟨X2, g1, g2, g3, g4, g5⟩ := d3 Z (fun o q1 _ => by rw [hZ, jup_o (by omega), jup_o (by omega), jup_o (by omega), jup_o (by omega), jup_o (by omega)])
            have x199 : ∀ j, j < 183 → X2 199 j = M 199 j := fun j hj => by rw [g4 j hj, zM 199 (by omega) (by omega) (by omega) (by omega) (by omega) (by omega) (by omega)]
            have x0 : X2 199 0 = M 34 0 := by rw [x199 0 (by omega)]; exact h5.1.1.symm
            have x20 : X2 199 20 = N d := by rw [x199 20 (by omega)]; exact dd2
            obtain ⟨Y, hY⟩ : ∃ Y, Y = jup (jup (jup (jup (jup (jup X2 199 (21 + 5 * d) (N a)) 199 (21 + 5 * d + 1) (N b)) 199 (21 + 5 * d + 2) z) 199 (21 + 5 * d + 3) (M 34 0)) 199 (21 + 5 * d + 4) 0) 199 20 (N (d + 1)) := ⟨_, rfl⟩
            have y199 : ∀ j, j ≠ 20 → (j < 21 + 5 * d ∨ 21 + 5 * d + 5 ≤ j) → Y 199 j = X2 199 j := fun j q1 q2 => by rw [hY, jup_nk (by omega), jup_nk (by omega), jup_nk (by omega), jup_nk (by omega), jup_nk (by omega), jup_nk (by omega)]
            have yo : ∀ o, o ≠ 199 → Y o = X2 o := fun o q => by rw [hY, jup_o q, jup_o q, jup_o q, jup_o q, jup_o q, jup_o q]
            have yZ : ∀ o, o ≠ 199 → o ≠ 198 → Y o = Z o := fun o q1 q2 => by rw [yo o q1, g2 o q2 q1]
            refine ⟨N d, Z, Y, ?_, ?_, ?_⟩
            · rw [d1]
              unfold f37
              have s0 : M1 34 2 = N d := by rw [m34]; exact dd1
              simp only [Option.bind_some, s0, N_succ, set_40 c3, set_42 c3, set_44 c3]
              have s1 : jup (jup (jup (jup M1 34 2 (N (d + 1))) 40 d (N a)) 42 d (N b)) 44 d z 34 0 = M 34 0 := by rw [jup_o (by omega), jup_o (by omega), jup_o (by omega), jup_nk (by omega), m34]
              rw [s1]
              simp only [Option.bind_some, set_46 c3, ← hZ]
            · have z198 : Z 198 = M 198 := zM 198 (by omega) (by omega) (by omega) (by omega) (by omega) (by omega) (by omega)
              have z199 : Z 199 = M 199 := zM 199 (by omega) (by omega) (by omega) (by omega) (by omega) (by omega) (by omega)
              rw [m_two (M := Z) (by rw [z198]; exact h2.1) (by omega), hv, m_live (by omega) (by omega), z199, el, hl, la_20, z199]
              have e8 : ¬ M 199 20 = (8 : Int32) := fun q => by
                rw [show M 199 20 = N d from dd2] at q
                exact absurd ((N_eq (a := d) (b := 8) (by omega) (by omega)).mp q) (by omega)
              simp only [Option.bind_some, b2_0, Bool.true_eq_false, if_false, e8, g1, la_20, x20]
              rw [show (21 : Int32) + (5 : Int32) * N d = N (21 + 5 * d) by rw [show (21 : Int32) = N 21 from rfl, show (5 : Int32) = N 5 from rfl, N_mul, N_add], show N (21 + 5 * d) + (1 : Int32) = N (21 + 5 * d + 1) from N_succ, show N (21 + 5 * d) + (2 : Int32) = N (21 + 5 * d + 2) from N_add, show N (21 + 5 * d) + (3 : Int32) = N (21 + 5 * d + 3) from N_add, show N (21 + 5 * d) + (4 : Int32) = N (21 + 5 * d + 4) from N_add]
              simp only [Option.bind_some, sa_199 (show 21 + 5 * d < 671 by omega), sa_199 (show 21 + 5 * d + 1 < 671 by omega), sa_199 (show 21 + 5 * d + 2 < 671 by omega), sa_199 (show 21 + 5 * d + 3 < 671 by omega), sa_199 (show 21 + 5 * d + 4 < 671 by omega), la_0]
              rw [show jup (jup (jup X2 199 (21 + 5 * d) (N a)) 199 (21 + 5 * d + 1) (N b)) 199 (21 + 5 * d + 2) z 199 0 = M 34 0 by rw [jup_nk (by omega), jup_nk (by omega), jup_nk (by omega), x0]]
              rw [show jup (jup (jup (jup (jup X2 199 (21 + 5 * d) (N a)) 199 (21 + 5 * d + 1) (N b)) 199 (21 + 5 * d + 2) z) 199 (21 + 5 * d + 3) (M 34 0)) 199 (21 + 5 * d + 4) 0 199 20 = N d by rw [jup_nk (by omega), jup_nk (by omega), jup_nk (by omega), jup_nk (by omega), jup_nk (by omega), x20]]
              simp only [N_succ, sa_20, Option.bind_some, ← hY, la_20]
              rw [show Y 199 20 = N (d + 1) by rw [hY, jup_same]]
              rw [show N (d + 1) - (1 : Int32) = N d from (Int32.ofNat_sub (d + 1) 1 (by omega)).symm]
            · have y34 : ∀ j, j ≠ 2 → Y 34 j = M 34 j := fun j hj => by rw [yZ 34 (by omega) (by omega), z34 j hj]
              have yM : ∀ o, o ≠ 34 → o ≠ 40 → o ≠ 42 → o ≠ 44 → o ≠ 46 → o ≠ 0 → ¬ (49 ≤ o ∧ o ≤ 152) → o ≠ 198 → o ≠ 199 → Y o = M o := fun o q1 q2 q3 q4 q5 q6 q7 q8 q9 => by rw [yZ o q9 q8, zM o q1 q2 q3 q4 q5 q6 q7]
              refine g5 Y (fun o q1 q2 q3 => yo o q2) (fun j hj => y199 j (by omega) (by omega)) (lif_mk ?_ ?_ ?_ ?_ ?_)
              · rw [y34 0 (by omega), y199 0 (by omega) (by omega), x199 0 (by omega)]; exact h5.1
              · rw [y34 1 (by omega), y199 10 (by omega) (by omega), x199 10 (by omega)]; exact h5.2.1
              · refine ⟨d + 1, by omega, by rw [yZ 34 (by omega) (by omega), z342], by rw [hY]; exact jup_same, fun j hj => ?_, fun j hj => ?_⟩
                · rw [y34 3 (by omega)] at hj
                  have := dd3 j hj
                  omega
                · rw [y34 3 (by omega), show 34 + 6 = 40 from rfl, show 34 + 8 = 42 from rfl, show 34 + 10 = 44 from rfl, show 34 + 12 = 46 from rfl, yZ 40 (by omega) (by omega), yZ 42 (by omega) (by omega), yZ 44 (by omega) (by omega), yZ 46 (by omega) (by omega), z40, z42, z44, z46, Nat.zero_add]
                  by_cases e : j = d
                  · subst e
                    rw [if_pos rfl, if_pos rfl, if_pos rfl, if_pos rfl]
                    refine ⟨?_, ?_, ?_, ?_, ?_, ⟨a, ha, rfl⟩, ⟨b, hb, rfl⟩⟩
                    · have hbf : bt (M 34 3) j = false := by
                        cases hb3 : bt (M 34 3) j with
                        | false => rfl
                        | true => exact absurd (dd3 j hb3) (Nat.lt_irrefl _)
                      rw [hbf, hY, jup_nk (by omega), jup_same]; rfl
                    · rw [hY, jup_nk (by omega), jup_nk (by omega), jup_nk (by omega), jup_nk (by omega), jup_nk (by omega), jup_same]
                    · rw [hY, jup_nk (by omega), jup_nk (by omega), jup_nk (by omega), jup_nk (by omega), jup_same]
                    · rw [hY, jup_nk (by omega), jup_nk (by omega), jup_nk (by omega), jup_same]
                    · rw [hY, jup_nk (by omega), jup_nk (by omega), jup_same]
                  · rw [if_neg e, if_neg e, if_neg e, if_neg e, y199 (21 + 5 * j) (by omega) (by omega), y199 (21 + 5 * j + 1) (by omega) (by omega), y199 (21 + 5 * j + 2) (by omega) (by omega), y199 (21 + 5 * j + 3) (by omega) (by omega), y199 (21 + 5 * j + 4) (by omega) (by omega), x199 (21 + 5 * j) (by omega), x199 (21 + 5 * j + 1) (by omega), x199 (21 + 5 * j + 2) (by omega), x199 (21 + 5 * j + 3) (by omega), x199 (21 + 5 * j + 4) (by omega)]
                    have q := dd4 j (by omega)
                    rw [Nat.zero_add] at q
                    exact q
              · intro p hp
                rw [yM 36 (by omega) (by omega) (by omega) (by omega) (by omega) (by omega) (by omega) (by omega) (by omega), yM 38 (by omega) (by omega) (by omega) (by omega) (by omega) (by omega) (by omega) (by omega) (by omega), y199 (11 + p) (by omega) (by omega), y199 (1 + p) (by omega) (by omega), x199 (11 + p) (by omega), x199 (1 + p) (by omega)]
                exact lif_w h5 hp
              · rw [yM 36 (by omega) (by omega) (by omega) (by omega) (by omega) (by omega) (by omega) (by omega) (by omega)]
                exact h5.2.2.2.2
          · have e8 : d = 8 := by omega
            subst e8
            refine ⟨-5, M, M, ?_, ?_, hI⟩
            · rw [if_neg (by decide)]
            · rw [m_two h2.1 (by omega), hv, m_live (by omega) (by omega), el, hl, la_20, show M 199 20 = N 8 from dd2]; rfl
theorem blk_498 : Blk f217_498 := fun xs h18 i M hx hi hI => by
  obtain ⟨a, M1, M2, e1, e2, h2⟩ := t_wed (v := xs.getD (i + 1) 0) (w := xs.getD (i + 2) 0) hI
  refine ⟨M2, h2, ?_⟩
  unfold f217_498 f217_1076
  rw [show (1 : Int32) = N 1 from rfl, show (2 : Int32) = N 2 from rfl, show (5 : Int32) = N 5 from rfl]
  simp only [N_add, sc_at (show i + 1 < xs.length by omega) hx, sc_at (show i + 2 < xs.length by omega) hx, Option.bind_some, e1, e2, if_true]
theorem blk_554 : Blk f217_554 := fun xs h18 i M hx hi hI => by
  obtain ⟨a, M1, M2, e1, e2, h2⟩ := t_owe (v := xs.getD (i + 1) 0) (w := xs.getD (i + 2) 0) (z := xs.getD (i + 3) 0) hI
  refine ⟨M2, h2, ?_⟩
  unfold f217_554 f217_1076
  rw [show (1 : Int32) = N 1 from rfl, show (2 : Int32) = N 2 from rfl, show (3 : Int32) = N 3 from rfl, show (5 : Int32) = N 5 from rfl]
  simp only [N_add, sc_at (show i + 1 < xs.length by omega) hx, sc_at (show i + 2 < xs.length by omega) hx, sc_at (show i + 3 < xs.length by omega) hx, Option.bind_some, e1, e2, if_true]
