/-! PURE: bestBorn, the call -/
theorem inv_fk {M Y : JM} {n k : Nat} (h1 : Ctr M 4 n k) (h2 : Agr M 4 n k) (h3 : Rng M n k) (h4 : M 198 22 = -1) (h5 : Lif M 34 0 n) (h6 : Fst M n) (h7 : Txt M) (h8 : Und M n) (h9 : Kep M n) (r : ∀ o, ¬ (19 ≤ o ∧ o ≤ 33) → ¬ (203 ≤ o ∧ o ≤ 207) → o ≠ 210 → Y o = M o) (r2 : ∀ o, 203 ≤ o ∧ o ≤ 207 → ∀ p, p < n → Y o p = M o p) : Inv Y := by
  have f : ∀ j, Y 198 j = M 198 j := fun j => by rw [r 198 (by omega) (by omega) (by omega)]
  refine ⟨n, k, ctr_fr (fun o ho => r o (by omega) (by omega) (by omega)) h1, ?_, rng_fr (fun o ho => r o (by omega) (by omega) (by omega)) h3, by rw [f]; exact h4, lif_fr (fun o ho => r o (by omega) (by omega) (by omega)) h5, fst_fr (fun o ho => r o (by omega) (by omega) (by omega)) (f 27) (by rw [r 181 (by omega) (by omega) (by omega)]) h6, txt_fr (fun o ho => r o (by omega) (by omega) (by omega)) (f 4) (by rw [r 1 (by omega) (by omega) (by omega)]) h7, und_fr (fun o ho => r o (by omega) (by omega) (by omega)) (f 1) (by rw [r 0 (by omega) (by omega) (by omega)]) (by rw [r 0 (by omega) (by omega) (by omega)]) h8, kep_fr (fun o ho => r o (by omega) (by omega) (by omega)) (by rw [r 0 (by omega) (by omega) (by omega)]) h9⟩
  obtain ⟨g1, g2, g3, g4, g5, g6, g7, g8, g9, g10⟩ := h2
  have r4 : ∀ o, 4 ≤ o ∧ o ≤ 18 → Y o = M o := fun o ho => r o (by omega) (by omega) (by omega)
  refine ⟨by rw [f]; exact g1, by rw [f]; exact g2, by rw [f, r4 4 (by omega)]; exact g3, fun p hp => ?_, fun p hp => ?_, fun p hp => ?_, fun p hp => ?_, fun p hp => ?_, fun c hc => ?_, fun c hc => ?_⟩
  · rw [r4 (4 + 2) (by omega), r2 203 (by omega) p hp]; exact g4 p hp
  · rw [r4 (4 + 4) (by omega), r2 204 (by omega) p hp]; exact g5 p hp
  · rw [r4 (4 + 6) (by omega), r2 205 (by omega) p hp]; exact g6 p hp
  · rw [r4 (4 + 8) (by omega), r2 206 (by omega) p hp]; exact g7 p hp
  · rw [r4 (4 + 10) (by omega), r2 207 (by omega) p hp]; exact g8 p hp
  · rw [r4 (4 + 12) (by omega), r 208 (by omega) (by omega) (by omega)]; exact g9 c hc
  · rw [r4 (4 + 14) (by omega), r 209 (by omega) (by omega) (by omega)]; exact g10 c hc
theorem ctr_fr19 {M M2 : JM} {n k : Nat} (r : ∀ o, 19 ≤ o ∧ o ≤ 33 → M2 o = M o) (h : Ctr M 19 n k) : Ctr M2 19 n k := by
  unfold Ctr at h ⊢
  rw [r 19 (by omega), r (19 + 2) (by omega), r (19 + 4) (by omega), r (19 + 6) (by omega), r (19 + 8) (by omega), r (19 + 12) (by omega), r (19 + 14) (by omega)]
  exact h
theorem dg_eq19 {M X : JM} {n k a b : Nat} {y : Int32} (r : ∀ o, 19 ≤ o ∧ o ≤ 33 → X o = M o) : dg X 19 n k a b y = dg M 19 n k a b y := by
  unfold dg lts
  rw [r 19 (by omega), r (19 + 4) (by omega), r (19 + 6) (by omega), r (19 + 8) (by omega), r (19 + 14) (by omega)]
theorem m_best {W : JM} {n k a c A C j y r : Nat} (h : Rfk W n k) (hn : n < 9) (ha : a < n) (hc : c < n) (hA : W 204 a = N A) (hC : W 204 c = N C) (hA9 : A < 100) (hC9 : C < 100) (hl : bnd n (W 199 10)) (hj : W 199 0 = N j) (hj9 : j < 100) (hy : y < 100) : ∃ X Y, Bst X n k a c A C ∧ (∀ p, X 203 p = if p = n then 0 else W 203 p) ∧ (∀ p, X 204 p = if p = n then 0 else W 204 p) ∧ (∀ p, X 205 p = if p = n then N a else W 205 p) ∧ (∀ p, X 206 p = if p = n then N c else W 206 p) ∧ (∀ p, X 207 p = if p = n then 0 else W 207 p) ∧ (∀ i, i ≠ 7 → X 198 i = W 198 i) ∧ (∀ o, o ≠ 198 → ¬ (203 ≤ o ∧ o ≤ 207) → X o = W o) ∧ (∀ o, ¬ (203 ≤ o ∧ o ≤ 207) → o ≠ 210 → Y o = W o) ∧ (∀ o, 203 ≤ o ∧ o ≤ 207 → ∀ p, p ≠ n → Y o p = W o p) ∧ ((f142 198 (0 : Int32) (0 : Int32) W).bind fun M8 => ((jsa 205 ((M8 198 7) - (1 : Int32)) (N a) M8).bind fun M9 => ((jsa 206 ((M8 198 7) - (1 : Int32)) (N c) M9).bind fun M10 => ((jla 199 (0 : Int32) M10).bind fun v11 => (f190_89 1000 198 (N a) (N c) (N y) (N r) ((M8 198 7) - (1 : Int32)) (-1 : Int32) (-1 : Int32) v11 M10))))) = some (if y < max j (max A C) then -1 else if N r = 0 then N (max j (max A C)) else N (bcnt X n k (N y) (N (max j (max A C)))), Y) := by
  obtain ⟨Z, e, z7, z203, z204, z205, z206, z207, z198, zo⟩ := m_addone (X := W) (n := n) (kd := 0) (y := 0) h.1 hn
  obtain ⟨X, hX⟩ : ∃ X, X = jup (jup Z 205 n (N a)) 206 n (N c) := ⟨_, rfl⟩
  have x203 : ∀ p, X 203 p = if p = n then 0 else W 203 p := fun p => by rw [hX, jup_o (by decide), jup_o (by decide), z203]
  have x204 : ∀ p, X 204 p = if p = n then 0 else W 204 p := fun p => by rw [hX, jup_o (by decide), jup_o (by decide), z204]
  have x205 : ∀ p, X 205 p = if p = n then N a else W 205 p := fun p => by
    rw [hX, jup_o (by decide), jup_at, z205]
    simp only [true_and]
    by_cases ep : p = n
    · rw [if_pos ep, if_pos ep]
    · rw [if_neg ep, if_neg ep, if_neg ep]
  have x206 : ∀ p, X 206 p = if p = n then N c else W 206 p := fun p => by
    rw [hX, jup_at, jup_o (by decide), z206]
    simp only [true_and]
    by_cases ep : p = n
    · rw [if_pos ep, if_pos ep]
    · rw [if_neg ep, if_neg ep, if_neg ep]
  have x207 : ∀ p, X 207 p = if p = n then 0 else W 207 p := fun p => by rw [hX, jup_o (by decide), jup_o (by decide), z207]
  have x198 : ∀ i, i ≠ 7 → X 198 i = W 198 i := fun i hi => by rw [hX, jup_o (by decide), jup_o (by decide), z198 i hi]
  have x7 : X 198 7 = N (n + 1) := by rw [hX, jup_o (by decide), jup_o (by decide), z7]
  have xo : ∀ o, o ≠ 198 → ¬ (203 ≤ o ∧ o ≤ 207) → X o = W o := fun o q1 q2 => by rw [hX, jup_o (by omega), jup_o (by omega), zo o q1 (by omega) (by omega) (by omega) (by omega) (by omega)]
  obtain ⟨h1, h2, h3, h4, h5, h6⟩ := h
  have hB : Bst X n k a c A C := by
    refine ⟨x7, by omega, by rw [x198 13 (by omega)]; exact h3, h4, fun p hp => by rw [x204, if_neg (by omega)]; exact h5 p hp, fun p hp => ?_, ha, hc, by rw [x204, if_neg (by omega)]; exact hA, by rw [x204, if_neg (by omega)]; exact hC, by omega, by omega, by rw [xo 199 (by omega) (by omega)]; exact hl⟩
    have up : ∀ x, okn n x → okn (n + 1) x := fun x hx => by
      rcases hx with hx | ⟨i, hi, hx⟩
      · exact Or.inl hx
      · exact Or.inr ⟨i, by omega, hx⟩
    rw [x205, x206]
    by_cases ep : p = n
    · rw [if_pos ep, if_pos ep]
      exact ⟨Or.inr ⟨a, by omega, rfl⟩, Or.inr ⟨c, by omega, rfl⟩⟩
    · rw [if_neg ep, if_neg ep]
      exact ⟨up _ (h6 p (by omega)).1, up _ (h6 p (by omega)).2⟩
  have e1 : N (n + 1) - (1 : Int32) = N n := (Int32.ofNat_sub (n + 1) 1 (by omega)).symm
  have fin : ∃ X2, Qb X n X2 ∧ f190_89 1000 198 (N a) (N c) (N y) (N r) (N n) (-1 : Int32) (-1 : Int32) (N j) X = some (if y < max j (max A C) then -1 else if N r = 0 then N (max j (max A C)) else N (bcnt X n k (N y) (N (max j (max A C)))), jup X2 198 7 (N n)) := by
    by_cases hjy : j ≤ y
    · exact bst_1 hB hy (y + 1 - j) j 1000 X (by omega) (by omega) ⟨fun o _ _ => rfl, fun p _ => rfl⟩
    · refine ⟨X, ⟨fun o _ _ => rfl, fun p _ => rfl⟩, ?_⟩
      rw [bst_end (f := 999) hB ⟨fun o _ _ => rfl, fun p _ => rfl⟩ hy (show y < j by omega) (by omega), if_pos (show y < max j (max A C) by omega), ite_self]
  obtain ⟨X2, q2, e2⟩ := fin
  refine ⟨X, jup X2 198 7 (N n), hB, x203, x204, x205, x206, x207, x198, xo, fun o q1 q3 => ?_, fun o ho p hp => ?_, ?_⟩
  · by_cases e198 : o = 198
    · subst e198
      funext i
      by_cases ei : i = 7
      · subst ei; rw [jup_same, h1]
      · rw [jup_nk (by omega), q2.1 198 (by omega) (by omega), x198 i ei]
    · rw [jup_o e198, q2.1 o q3 (by omega), xo o e198 q1]
  · rw [jup_o (by omega)]
    rcases (show o = 203 ∨ o = 204 ∨ o = 205 ∨ o = 206 ∨ o = 207 by omega) with rfl | rfl | rfl | rfl | rfl
    · rw [q2.1 203 (by omega) (by omega), x203, if_neg hp]
    · rw [q2.2 p hp, x204, if_neg hp]
    · rw [q2.1 205 (by omega) (by omega), x205, if_neg hp]
    · rw [q2.1 206 (by omega) (by omega), x206, if_neg hp]
    · rw [q2.1 207 (by omega) (by omega), x207, if_neg hp]
  · rw [e, Option.bind_some, z7, e1, sa_205 hn, Option.bind_some, sa_206 hn, Option.bind_some, ← hX, la_0, Option.bind_some, xo 199 (by omega) (by omega), hj]
    exact e2
theorem t_best {M : JM} {v w y z : Int32} (h : Inv M) : Two (f90 0 v w y z) (f190 198 v w y z) M := by
  have hI := h
  obtain ⟨n, k, h1, h2, h3, h4, h5, h6, h7, h8, h9⟩ := h
  have hn9 : n ≤ 9 := h1.2.1
  have e8 : ∀ q, (n < 9 ∧ (∀ (A B : Option (Int32 × JM)), (if M 4 0 < (9 : Int32) then A else B) = A) ∧ q = 0) ∨ (n = 9 ∧ (∀ (A B : Option (Int32 × JM)), (if M 4 0 < (9 : Int32) then A else B) = B)) ∨ q ≠ 0 := fun q => by
    by_cases hq : q = 0
    · by_cases hn : n < 9
      · exact Or.inl ⟨hn, fun A B => if_pos (by rw [h1.1]; exact (N_lt (b := 9) (by omega) (by omega)).mpr hn), hq⟩
      · exact Or.inr (Or.inl ⟨by omega, fun A B => if_neg (by rw [h1.1]; exact fun z => hn ((N_lt (b := 9) (by omega) (by omega)).mp z))⟩)
    · exact Or.inr (Or.inr hq)
  unfold Two f90
  rw [xp_1, xp_3, c_two h1.1, c_year]
  simp only [Option.bind_some, b2_0]
  have hm2 : ∀ W : JM, W 198 7 = N n → ∀ v w, f160 W 198 v w = some (b2 (isN n v && (isN n w && !(decide (v = w))))) := fun W hW v w => m_two hW (by omega)
  cases hv : (isN n v && (isN n w && !(decide (v = w)))) with
  | false =>
    refine ⟨-2, M, M, rfl, ?_, hI⟩
    unfold f190
    rw [hm2 M h2.1, hv]; rfl
  | true =>
    cases hy : isN 100 y with
    | false =>
      refine ⟨-3, M, M, rfl, ?_, hI⟩
      unfold f190
      rw [hm2 M h2.1, hv, m_year, hy]; rfl
    | true =>
      simp only [Bool.true_eq_false, if_false]
      by_cases z0 : z < 0
      · rw [if_pos z0]
        refine ⟨-3, M, M, rfl, ?_, hI⟩
        unfold f190
        rw [hm2 M h2.1, hv, m_year, hy, in_k, decide_eq_true z0]; rfl
      · rw [if_neg z0]
        by_cases z1 : (1 : Int32) < z
        · rw [if_pos z1]
          refine ⟨-3, M, M, rfl, ?_, hI⟩
          unfold f190
          rw [hm2 M h2.1, hv, m_year, hy, in_k, decide_eq_false z0, decide_eq_true z1]; rfl
        · rw [if_neg z1]
          rcases e8 0 with ⟨hn, e8a, _⟩ | ⟨hn, e8a⟩ | e8a
          · rw [e8a]
            obtain ⟨a, c, ha, hc, hac, rfl, rfl⟩ := two_t (by omega) hv
            obtain ⟨y, hy9, rfl⟩ := isN_t (by omega) hy
            obtain ⟨r, hr, rfl⟩ := N_of z0
            have hr2 : r < 2 := by
              apply Classical.byContradiction
              intro q
              exact z1 ((N_lt (a := 1) (by omega) hr).mpr (by omega))
            obtain ⟨A, hA9, hA⟩ := (h3.1 a ha).2
            obtain ⟨C, hC9, hC⟩ := (h3.1 c hc).2
            obtain ⟨j, hj9, hj⟩ := h5.1.2
            have hne : ¬ N n = (9 : Int32) := fun q => absurd ((N_eq (a := n) (b := 9) (by omega) (by omega)).mp q) (by omega)
            rw [get_in cok_4.2.1 (show a < 9 by omega), get_in cok_4.2.1 (show c < 9 by omega), show M (4 + 4) a = N A from hA, show M (4 + 4) c = N C from hC, hj]
            simp only [Option.bind_some, mx_N (show A < 1000 by omega) (show C < 1000 by omega), mx_N (show j < 1000 by omega) (show max A C < 1000 by omega)]
            obtain ⟨b, hb⟩ : ∃ b, b = max j (max A C) := ⟨_, rfl⟩
            rw [← hb]
            have ref : ∀ W : JM, (∀ o, ¬ (19 ≤ o ∧ o ≤ 33) → W o = M o) → ∃ X Y, Bst X n k a c A C ∧ (∀ p, X 203 p = if p = n then 0 else W 203 p) ∧ (∀ p, X 204 p = if p = n then 0 else W 204 p) ∧ (∀ p, X 205 p = if p = n then N a else W 205 p) ∧ (∀ p, X 206 p = if p = n then N c else W 206 p) ∧ (∀ p, X 207 p = if p = n then 0 else W 207 p) ∧ (∀ i, i ≠ 7 → X 198 i = W 198 i) ∧ (∀ o, o ≠ 198 → ¬ (203 ≤ o ∧ o ≤ 207) → X o = W o) ∧ Inv Y ∧ f190 198 (N a) (N c) (N y) (N r) W = some (if y < b then -1 else if N r = 0 then N b else N (bcnt X n k (N y) (N b)), Y) := by
              intro W hW
              have w7 : W 198 7 = N n := by rw [hW 198 (by omega)]; exact h2.1
              have hR : Rfk W n k := rfk_eq (fun o ho => hW o (by omega)) (by rw [hW 198 (by omega)]) (by rw [hW 198 (by omega)]) (rfk_of h1 h2)
              obtain ⟨X, Y, g1, g2, g3, g4, g5, g6, g7, g8, g9, g10, g11⟩ := m_best (r := r) (y := y) (j := j) hR hn ha hc (by rw [hW 204 (by omega), ← h2.2.2.2.2.1 a ha]; exact hA) (by rw [hW 204 (by omega), ← h2.2.2.2.2.1 c hc]; exact hC) hA9 hC9 (by rw [hW 199 (by omega), show M 199 10 = M 34 1 from h5.2.1.1.symm]; exact h5.2.1.2) (by rw [hW 199 (by omega), show M 199 0 = M 34 0 from h5.1.1.symm]; exact hj) hj9 hy9
              refine ⟨X, Y, g1, g2, g3, g4, g5, g6, g7, g8, inv_fk h1 h2 h3 h4 h5 h6 h7 h8 h9 (fun o q1 q2 q3 => by rw [g9 o q2 q3, hW o q1]) (fun o ho p hp => by rw [g10 o ho p (by omega), hW o (by omega)]), ?_⟩
              unfold f190
              rw [mp_0, mp_10, mp_11, hm2 W w7, hv, m_year, hy, in_k, decide_eq_false z0, decide_eq_false z1, w7]
              simp only [Option.bind_some, b2_0, Bool.not_false, Bool.and_self, Bool.true_eq_false, if_false, hne]
              rw [hb]
              exact g11
            by_cases hyb : y < b
            · rw [if_pos ((N_lt (by omega) (by omega)).mpr hyb)]
              obtain ⟨X, Y, _, _, _, _, _, _, _, _, g9, g10⟩ := ref M (fun _ _ => rfl)
              rw [if_pos hyb] at g10
              exact ⟨-1, M, Y, rfl, g10, g9⟩
            · rw [if_neg (fun q => hyb ((N_lt (by omega) (by omega)).mp q))]
              by_cases hz : N r = 0
              · rw [if_pos hz]
                obtain ⟨X, Y, _, _, _, _, _, _, _, _, g9, g10⟩ := ref M (fun _ _ => rfl)
                rw [if_neg hyb, if_pos hz] at g10
                exact ⟨N b, M, Y, rfl, g10, g9⟩
              · rw [if_neg hz]
                obtain ⟨D, d1, d2, d3, d4, d5⟩ := c_ccpy (M := M) cok_19 cok_4 (Or.inl (by omega))
                obtain ⟨F, f1, f2, f3, f4, f5, f6, f7, f8, f9, f10⟩ := c_addone (X := D) (n := n) (kd := 0) (y := N b) (by rw [d3 0 (by omega)]; exact h1.1) hn
                obtain ⟨G, hG⟩ : ∃ G, G = jup (jup F 25 n (N a)) 27 n (N c) := ⟨_, rfl⟩
                have gF : ∀ o, o ≠ 25 → o ≠ 27 → G o = F o := fun o q1 q2 => by rw [hG, jup_o q2, jup_o q1]
                have gM : ∀ o, ¬ (19 ≤ o ∧ o ≤ 33) → G o = M o := fun o ho => by rw [gF o (by omega) (by omega), f10 o (by omega) (by omega) (by omega) (by omega) (by omega) (by omega), d2 o (by omega)]
                have g19 : ∀ i, (i = 1 ∨ i = 2 ∨ i = 10 ∨ i = 11 ∨ i = 12 ∨ i = 13) → G 19 i = M 4 i := fun i hi => by
                  rw [gF 19 (by omega) (by omega)]
                  by_cases e10 : i = 10
                  · subst e10
                    rw [f8, if_neg (by decide), d3 10 (by omega)]
                  · rw [f9 i (by omega) e10, d3 i (by omega)]
                have g21 : ∀ p, p < 9 → G 21 p = if p = n then 0 else M 6 p := fun p hp => by rw [gF 21 (by omega) (by omega), f3, show D 21 p = M 6 p from (d4 p hp).1]
                have g23 : ∀ p, p < 9 → G 23 p = if p = n then N b else M 8 p := fun p hp => by rw [gF 23 (by omega) (by omega), f4, show D 23 p = M 8 p from (d4 p hp).2.1]
                have g25 : ∀ p, p < 9 → G 25 p = if p = n then N a else M 10 p := fun p hp => by
                  rw [hG, jup_o (by omega), jup_at, f5, show D 25 p = M 10 p from (d4 p hp).2.2.1]
                  simp only [true_and]
                  by_cases ep : p = n
                  · rw [if_pos ep, if_pos ep]
                  · rw [if_neg ep, if_neg ep, if_neg ep]
                have g27 : ∀ p, p < 9 → G 27 p = if p = n then N c else M 12 p := fun p hp => by
                  rw [hG, jup_at, jup_o (by omega), f6, show D 27 p = M 12 p from (d4 p hp).2.2.2.1]
                  simp only [true_and]
                  by_cases ep : p = n
                  · rw [if_pos ep, if_pos ep]
                  · rw [if_neg ep, if_neg ep, if_neg ep]
                have g29 : ∀ p, p < 9 → G 29 p = if p = n then 0 else M 14 p := fun p hp => by rw [gF 29 (by omega) (by omega), f7, show D 29 p = M 14 p from (d4 p hp).2.2.2.2]
                have g31 : ∀ q, q < 6 → G 31 q = M 16 q ∧ G 33 q = M 18 q := fun q hq => by
                  rw [gF 31 (by omega) (by omega), gF 33 (by omega) (by omega), f10 31 (by omega) (by omega) (by omega) (by omega) (by omega) (by omega), f10 33 (by omega) (by omega) (by omega) (by omega) (by omega) (by omega)]
                  exact d5 q hq
                have hk6 : k ≤ 6 := h1.2.2.2.1
                have hCG : Ctr G 19 (n + 1) k := by
                  refine ctr_mk (by rw [gF 19 (by omega) (by omega)]; exact f2) (by omega) (by rw [g19 1 (by omega)]; exact h1.2.2.1) hk6 (fun p hp => ?_) (fun p hp => ?_) (fun p => ?_) (cmt_mv (M := M) (s := 4) (g19 11 (by omega)) (g19 12 (by omega)) (g19 13 (by omega)) (fun q hq => g31 q (by omega)) (ctr_cmt h1))
                  · rw [show 19 + 6 = 25 from rfl, show 19 + 8 = 27 from rfl, g25 p (by omega), g27 p (by omega)]
                    by_cases ep : p = n
                    · rw [if_pos ep, if_pos ep]
                      exact ⟨Or.inr ⟨a, by omega, rfl⟩, Or.inr ⟨c, by omega, rfl⟩⟩
                    · rw [if_neg ep, if_neg ep]
                      have up : ∀ x, okn n x → okn (n + 1) x := fun x hx => by
                        rcases hx with hx | ⟨i, hi, hx⟩
                        · exact Or.inl hx
                        · exact Or.inr ⟨i, by omega, hx⟩
                      have q := h1.2.2.2.2.1 p (by omega)
                      exact ⟨up _ q.1, up _ q.2⟩
                  · rw [show 19 + 4 = 23 from rfl, g23 p (by omega)]
                    by_cases ep : p = n
                    · rw [if_pos ep]; exact N_neg (by omega)
                    · rw [if_neg ep]; exact h1.2.2.2.2.2.1 p (by omega)
                  · rw [g19 10 (by omega), h1.2.2.2.2.2.2.1 p, show 19 + 2 = 21 from rfl]
                    by_cases hp : p < n + 1
                    · rw [g21 p (by omega)]
                      by_cases ep : p = n
                      · rw [if_pos ep, decide_eq_false (show ¬ p < n by omega), decide_eq_true hp]; rfl
                      · rw [if_neg ep, decide_eq_true (show p < n by omega), decide_eq_true hp]
                    · rw [decide_eq_false hp, decide_eq_false (show ¬ p < n by omega), Bool.false_and, Bool.false_and]
                obtain ⟨X, Y, b1, b2', b3, b4, b5, b6, b7, b8, b9, b10⟩ := ref G gM
                rw [if_neg hyb, if_neg hz] at b10
                obtain ⟨E, hE⟩ : ∃ E, E = jup X 204 n (N b) := ⟨_, rfl⟩
                have eX : ∀ o, o ≠ 204 → E o = X o := fun o ho => by rw [hE, jup_o ho]
                have eG : ∀ o, o ≠ 198 → ¬ (203 ≤ o ∧ o ≤ 207) → E o = G o := fun o q1 q2 => by rw [eX o (by omega), b8 o q1 q2]
                have hCE : Ctr E 19 (n + 1) k := ctr_fr19 (fun o ho => eG o (by omega) (by omega)) hCG
                have hAE : Agr E 19 (n + 1) k := by
                  obtain ⟨q1, q2, q3, q4, q5, q6, q7, q8, q9, q10⟩ := h2
                  refine ⟨by rw [eX 198 (by omega)]; exact b1.1, by rw [eX 198 (by omega), b7 13 (by omega), gM 198 (by omega)]; exact q2, by rw [eX 198 (by omega), b7 16 (by omega), gM 198 (by omega), eG 19 (by omega) (by omega), g19 2 (by omega)]; exact q3, fun p hp => ?_, fun p hp => ?_, fun p hp => ?_, fun p hp => ?_, fun p hp => ?_, fun q hq => ?_, fun q hq => ?_⟩
                  · rw [show 19 + 2 = 21 from rfl, eG 21 (by omega) (by omega), g21 p (by omega), eX 203 (by omega), b2', gM 203 (by omega)]
                    by_cases ep : p = n
                    · rw [if_pos ep, if_pos ep]
                    · rw [if_neg ep, if_neg ep]; exact q4 p (by omega)
                  · rw [show 19 + 4 = 23 from rfl, eG 23 (by omega) (by omega), g23 p (by omega), hE, jup_at, b3, gM 204 (by omega)]
                    by_cases ep : p = n
                    · rw [if_pos ep, if_pos ⟨rfl, ep⟩]
                    · rw [if_neg ep, if_neg (fun q => ep q.2), if_neg ep]; exact q5 p (by omega)
                  · rw [show 19 + 6 = 25 from rfl, eG 25 (by omega) (by omega), g25 p (by omega), eX 205 (by omega), b4, gM 205 (by omega)]
                    by_cases ep : p = n
                    · rw [if_pos ep, if_pos ep]
                    · rw [if_neg ep, if_neg ep]; exact q6 p (by omega)
                  · rw [show 19 + 8 = 27 from rfl, eG 27 (by omega) (by omega), g27 p (by omega), eX 206 (by omega), b5, gM 206 (by omega)]
                    by_cases ep : p = n
                    · rw [if_pos ep, if_pos ep]
                    · rw [if_neg ep, if_neg ep]; exact q7 p (by omega)
                  · rw [show 19 + 10 = 29 from rfl, eG 29 (by omega) (by omega), g29 p (by omega), eX 207 (by omega), b6, gM 207 (by omega)]
                    by_cases ep : p = n
                    · rw [if_pos ep, if_pos ep]
                    · rw [if_neg ep, if_neg ep]; exact q8 p (by omega)
                  · rw [show 19 + 12 = 31 from rfl, eG 31 (by omega) (by omega), (g31 q (by omega)).1, eG 208 (by omega) (by omega), gM 208 (by omega)]; exact q9 q hq
                  · rw [show 19 + 14 = 33 from rfl, eG 33 (by omega) (by omega), (g31 q (by omega)).2, eG 209 (by omega) (by omega), gM 209 (by omega)]; exact q10 q hq
                have e22 : E 198 22 = -1 := by rw [eX 198 (by omega), b7 22 (by omega), gM 198 (by omega)]; exact h4
                have ek : bcnt X n k (N y) (N b) = crd (kinS (n + 1) n (fun i => (dg G 19 (n + 1) k n i (N y)).isSome) &&& M 34 1) 9 := by
                  unfold bcnt
                  rw [← hE, b8 199 (by omega) (by omega), gM 199 (by omega), show M 199 10 = M 34 1 from h5.2.1.1.symm]
                  rw [kinS_congr (D := fun i => (md E (n + 1) k n i (N y)).isSome) (E := fun i => (dg G 19 (n + 1) k n i (N y)).isSome) (fun i hi => by rw [md_dgo hCE hAE e22 (by omega) hi, dg_eq19 (fun o ho => eG o (by omega) (by omega))])]
                have hbd : bnd (n + 1) (kinS (n + 1) n (fun i => (dg G 19 (n + 1) k n i (N y)).isSome) &&& M 34 1) := fun i hi => by
                  rw [bt_and, Bool.and_eq_true] at hi
                  exact kinS_bnd (by omega) i hi.1
                refine ⟨N (bcnt X n k (N y) (N b)), G, Y, ?_, b10, b9⟩
                unfold f115
                rw [xp_2, xp_1, xp_3, d1, Option.bind_some, f1, Option.bind_some]
                dsimp only
                rw [c_setpar hn, Option.bind_some, ← hG, c_kin cok_19 hCG (show n < n + 1 by omega), Option.bind_some, gM 34 (by omega), bc_c (by omega) hbd, ek]
                rfl
          · subst hn
            rw [e8a]
            refine ⟨-5, M, M, rfl, ?_, hI⟩
            unfold f190
            rw [hm2 M h2.1, hv, m_year, hy, in_k, decide_eq_false z0, decide_eq_false z1, h2.1]; rfl
          · exact absurd rfl e8a
theorem blk_788 : Blk f217_788 := fun xs h18 i M hx hi hI => by
  obtain ⟨a, M1, M2, e1, e2, h2⟩ := t_best (v := xs.getD (i + 1) 0) (w := xs.getD (i + 2) 0) (y := xs.getD (i + 3) 0) (z := xs.getD (i + 4) 0) hI
  refine ⟨M2, h2, ?_⟩
  unfold f217_788 f217_1076
  rw [show (1 : Int32) = N 1 from rfl, show (2 : Int32) = N 2 from rfl, show (3 : Int32) = N 3 from rfl, show (4 : Int32) = N 4 from rfl, show (5 : Int32) = N 5 from rfl]
  simp only [N_add, sc_at (show i + 1 < xs.length by omega) hx, sc_at (show i + 2 < xs.length by omega) hx, sc_at (show i + 3 < xs.length by omega) hx, sc_at (show i + 4 < xs.length by omega) hx, Option.bind_some, e1, e2, if_true]
