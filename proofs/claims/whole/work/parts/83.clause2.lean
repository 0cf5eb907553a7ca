/-! PURE: a clause of the class, whole -/
section C2
variable {L : Nat → Int32} {t : Nat} {xs : Option (List Int32)}
theorem rnT_all {c : Int32 → Bool} {L : Nat → Int32} : ∀ d p i, p ≤ i → i < rnT c L d p → c (L i) = true
  | 0, p, i, h1, h2 => absurd h2 (by show ¬ i < p; omega)
  | d + 1, p, i, h1, h2 => by
    unfold rnT at h2
    by_cases hc : c (L p) = true
    · rw [if_pos hc] at h2
      by_cases e : i = p
      · rw [e]; exact hc
      · exact rnT_all d (p + 1) i (by omega) h2
    · rw [if_neg hc] at h2
      omega
theorem isG_num {x : Int32} (h : isG x = true) : ∃ d, d < 10 ∧ x = N (48 + d) := by
  unfold isG at h
  rw [Bool.and_eq_true, Bool.not_eq_true', Bool.not_eq_true', decide_eq_false_iff_not, decide_eq_false_iff_not] at h
  have h0 : ¬ x < 0 := fun q => h.1 (lt_tr q (by decide))
  obtain ⟨j, hj, rfl⟩ := N_of h0
  have h1 : 48 ≤ j := by
    apply Classical.byContradiction
    intro q
    exact h.1 ((N_lt (b := 48) hj (by omega)).mpr (by omega))
  have h2 : j ≤ 57 := by
    apply Classical.byContradiction
    intro q
    exact h.2 ((N_lt (a := 57) (by omega) hj).mpr (by omega))
  exact ⟨j - 48, by omega, by rw [show 48 + (j - 48) = j by omega]⟩
theorem dig_ok {v d : Nat} : N v * 10 + N (48 + d) - 48 = N (10 * v + d) := by
  rw [show (10 : Int32) = N 10 from rfl, N_mul, N_add, show (48 : Int32) = N 48 from rfl, show v * 10 + (48 + d) = (10 * v + d) + 48 by omega]
  exact (Int32.ofNat_sub (10 * v + d + 48) 48 (by omega)).symm
theorem rd_num {p q : Nat} {most unl v : Int32} (hp : p ≤ t) (h : rdT L t p most unl = some (v, q)) : ∃ x, x < 100 ∧ v = N x := by
  have hs := (skT_r (L := L) hp).2
  have hr := geT_r (L := L) hs
  unfold rdT badN at h
  split at h
  · cases h
  · rename_i hb
    have hb2 := hb
    simp only [Bool.or_eq_true, decide_eq_true_iff, not_or] at hb2
    obtain ⟨b1, b2', _, _⟩ := hb2
    cases h
    have all : ∀ i, skT L t p ≤ i → i < geT L t (skT L t p) → isG (L i) = true := fun i a b => rnT_all (t - skT L t p) (skT L t p) i a b
    unfold vlT
    rcases (show geT L t (skT L t p) - skT L t p = 1 ∨ geT L t (skT L t p) - skT L t p = 2 by omega) with e | e
    · obtain ⟨d, hd, ed⟩ := isG_num (all (skT L t p) (Nat.le_refl _) (by omega))
      rw [e]
      show ∃ x, x < 100 ∧ (0 : Int32) * 10 + L (skT L t p) - 48 = N x
      rw [ed, show (0 : Int32) = N 0 from rfl, dig_ok]
      exact ⟨_, by omega, rfl⟩
    · obtain ⟨d, hd, ed⟩ := isG_num (all (skT L t p) (Nat.le_refl _) (by omega))
      obtain ⟨d2, hd2, ed2⟩ := isG_num (all (skT L t p + 1) (by omega) (by omega))
      rw [e]
      show ∃ x, x < 100 ∧ ((0 : Int32) * 10 + L (skT L t p) - 48) * 10 + L (skT L t p + 1) - 48 = N x
      rw [ed, ed2, show (0 : Int32) = N 0 from rfl, dig_ok, dig_ok]
      exact ⟨_, by omega, rfl⟩
theorem rd_lim {p q m : Nat} {unl v : Int32} (hp : p ≤ t) (hm : m ≤ 1000) (h : rdT L t p (N m - 1) unl = some (v, q)) : ∃ x, x < m ∧ v = N x := by
  obtain ⟨x, hx, rfl⟩ := rd_num hp h
  have h1 := (vl_num (s := 0) (e := 0) h).1
  have := isN_sub (n := m) (x := N x) hm
  rw [decide_eq_false (N_neg (by omega)), decide_eq_false h1] at this
  obtain ⟨y, hy, e⟩ := isN_t hm this.symm
  exact ⟨y, hy, e⟩
theorem wd_some {s e n k w : Nat} (h : wdT L s e n k = some w) : w < 13 ∧ wmT L s e w = true ∧ csT n k w = true := by
  unfold wdT at h
  have key : ∀ d b, fbn (fun w => wmT L s e w && csT n k w) d b = some w → w < b + d ∧ (wmT L s e w && csT n k w) = true := by
    intro d
    induction d with
    | zero => intro b q; cases q
    | succ d ih =>
      intro b q
      have q2 : (if (wmT L s e b && csT n k b) = true then some b else fbn (fun w => wmT L s e w && csT n k w) d (b + 1)) = some w := q
      by_cases hb : (wmT L s e b && csT n k b) = true
      · rw [if_pos hb] at q2; cases q2; exact ⟨by omega, hb⟩
      · rw [if_neg hb] at q2
        have := ih (b + 1) q2
        exact ⟨by omega, this.2⟩
  have q := key 13 0 h
  rw [Bool.and_eq_true] at q
  exact ⟨by omega, q.2⟩
theorem c_56e {X X1 : JM} {w : Nat} (hw : w < 13) (e60 : f60 xs 1 19 X = some (N w, X1)) : f56 xs 1 19 X = if w < 4 then f56_72 xs 1 19 (N w) X1 else if w < 7 then f56_90 xs 1 19 (N w) X1 else if w < 9 then f56_122 xs (if w = 7 then 1 else 0) 19 1 X1 else if w = 9 then ((f64 1 ((X1 19 0) - (1 : Int32)) (-1 : Int32) X1).bind fun z33 => ((f64 1 (99 : Int32) (-1 : Int32) z33.2).bind fun z32 => ((f43 (jpt 19 7) z33.1 z32.1 z32.2).bind fun M31 => (some M31)))) else if w = 10 then ((f64 1 (6 : Int32) (-1 : Int32) X1).bind fun z38 => ((some (jup z38.2 19 2 z38.1)).bind fun M37 => (some M37))) else if w = 11 then ((f2 19 X1).bind fun M40 => (some M40)) else some (jup X1 19 1 (0 : Int32)) := by
  unfold f56
  rw [e60, Option.bind_some]
  unfold f56_109
  dsimp only
  rcases (show w = 0 ∨ w = 1 ∨ w = 2 ∨ w = 3 ∨ w = 4 ∨ w = 5 ∨ w = 6 ∨ w = 7 ∨ w = 8 ∨ w = 9 ∨ w = 10 ∨ w = 11 ∨ w = 12 by omega) with rfl | rfl | rfl | rfl | rfl | rfl | rfl | rfl | rfl | rfl | rfl | rfl | rfl
  · rw [if_pos (by decide), if_pos (by decide)]
  · rw [if_neg (by decide), if_pos (by decide), if_pos (by decide)]
  · rw [if_neg (by decide), if_neg (by decide), if_pos (by decide), if_pos (by decide)]
  · rw [if_neg (by decide), if_neg (by decide), if_neg (by decide), if_pos (by decide), if_pos (by decide)]
  · rw [if_neg (by decide), if_neg (by decide), if_neg (by decide), if_neg (by decide), if_pos (by decide), if_neg (by decide), if_pos (by decide)]
  · rw [if_neg (by decide), if_neg (by decide), if_neg (by decide), if_neg (by decide), if_neg (by decide), if_pos (by decide), if_neg (by decide), if_pos (by decide)]
  · rw [if_neg (by decide), if_neg (by decide), if_neg (by decide), if_neg (by decide), if_neg (by decide), if_neg (by decide), if_pos (by decide), if_neg (by decide), if_pos (by decide)]
  · rw [if_neg (by decide), if_neg (by decide), if_neg (by decide), if_neg (by decide), if_neg (by decide), if_neg (by decide), if_neg (by decide), if_pos (by decide), if_pos (by decide), if_neg (by decide), if_neg (by decide), if_pos (by decide), if_pos (by decide)]
  · rw [if_neg (by decide), if_neg (by decide), if_neg (by decide), if_neg (by decide), if_neg (by decide), if_neg (by decide), if_neg (by decide), if_neg (by decide), if_pos (by decide), if_neg (by decide), if_neg (by decide), if_neg (by decide), if_pos (by decide), if_neg (by decide)]
  · rw [if_neg (by decide), if_neg (by decide), if_neg (by decide), if_neg (by decide), if_neg (by decide), if_neg (by decide), if_neg (by decide), if_neg (by decide), if_neg (by decide), if_pos (by decide), if_neg (by decide), if_neg (by decide), if_neg (by decide), if_pos (by decide)]
  · rw [if_neg (by decide), if_neg (by decide), if_neg (by decide), if_neg (by decide), if_neg (by decide), if_neg (by decide), if_neg (by decide), if_neg (by decide), if_neg (by decide), if_neg (by decide), if_pos (by decide), if_neg (by decide), if_neg (by decide), if_neg (by decide), if_neg (by decide), if_pos (by decide)]
  · rw [if_neg (by decide), if_neg (by decide), if_neg (by decide), if_neg (by decide), if_neg (by decide), if_neg (by decide), if_neg (by decide), if_neg (by decide), if_neg (by decide), if_neg (by decide), if_neg (by decide), if_pos (by decide), if_neg (by decide), if_neg (by decide), if_neg (by decide), if_neg (by decide), if_neg (by decide), if_pos (by decide)]
  · rw [if_neg (by decide), if_neg (by decide), if_neg (by decide), if_neg (by decide), if_neg (by decide), if_neg (by decide), if_neg (by decide), if_neg (by decide), if_neg (by decide), if_neg (by decide), if_neg (by decide), if_neg (by decide), if_pos (by decide), if_neg (by decide), if_neg (by decide), if_neg (by decide), if_neg (by decide), if_neg (by decide), if_neg (by decide)]
    rfl
def Good (X Y D : JM) (q : Nat) : Prop := Oth X Y ∧ Y 1 3 = -1 ∧ Y 1 2 = N q ∧ DrE Y D
def Res (t : Nat) (X Y D : JM) (n k : Nat) (r : Sum Nat (Nat × Int32 × Int32 × Int32 × Nat)) : Prop := match r with
  | .inl fp => fp ≤ 160 ∧ Bad t X Y fp
  | .inr (w, a, b, c, q) => q ≤ 160 ∧ Good X Y (stc w a b c n k D) q
theorem c_clause {X D : JM} {p n k : Nat} (h : TxC X L t) (h2 : X 1 2 = N p) (h3 : X 1 3 = -1) (hp : p ≤ t) (hD : DrE X D) (d0 : D 19 0 = N n) (d1 : D 19 1 = N k) (hn : n ≤ 9) (hk : k ≤ 6) : ∃ Y, f56 xs 1 19 X = some Y ∧ Res t X Y D n k (clT L t p n k) := by
  have h160 := h.2.1
  have hs := (skT_r (L := L) hp).2
  have hwe := weT_r (L := L) hs
  have x0 : X 19 0 = N n := by rw [hD 19 (by omega)]; exact d0
  have x1 : X 19 1 = N k := by rw [hD 19 (by omega)]; exact d1
  have hw := c_word (xs := xs) h h2 hp x0 x1 hn hk
  unfold clT
  cases hwd : wdT L (skT L t p) (weT L t (skT L t p)) n k with
  | none =>
    rw [hwd] at hw
    refine ⟨jup (jup X 1 2 (N (weT L t (skT L t p)))) 1 3 (N (skT L t p)), ?_, ⟨by omega, oth_f (oth_p oth_refl), jup_same, ⟨_, hwe.2, by rw [jup_nk (by omega), jup_same]⟩, k, hk, by rw [jup_o (by decide), jup_o (by decide)]; exact x1⟩⟩
    unfold f56
    rw [hw, Option.bind_some]
    dsimp only
    rw [if_neg (by decide), if_neg (by decide), if_neg (by decide), if_neg (by decide), if_neg (by decide), if_neg (by decide), if_neg (by decide), if_neg (by decide), if_neg (by decide), if_neg (by decide), if_neg (by decide), if_neg (by decide), if_neg (by decide)]
  | some w =>
    rw [hwd] at hw
    obtain ⟨w13, _, hcs⟩ := wd_some hwd
    rw [c_56e w13 hw]
    dsimp only
    generalize weT L t (skT L t p) = e at *
    obtain ⟨X1, hX1⟩ : ∃ X1, X1 = jup X 1 2 (N e) := ⟨_, rfl⟩
    have g1 : TxC X1 L t := by rw [hX1]; exact txc_up h (by decide)
    have g2 : X1 1 2 = N e := by rw [hX1, jup_same]
    have g3 : X1 1 3 = -1 := by rw [hX1, jup_nk (by omega)]; exact h3
    have g4 : Oth X X1 := by rw [hX1]; exact oth_p oth_refl
    have g5 : DrE X1 D := by rw [hX1]; exact dre_txt hD
    have g0 : X1 19 0 = N n := by rw [g5 19 (by omega)]; exact d0
    have g1' : X1 19 1 = N k := by rw [g5 19 (by omega)]; exact d1
    rw [← hX1]
    have he : e ≤ t := hwe.2
    have hse := (skT_r (L := L) he).2
    -- a first number
    have num := fun (most unl : Int32) => c_num (most := most) (unl := unl) g1 g2 g3 he
    have badY : ∀ Y : JM, Y = jup (jup X1 1 2 (N (geT L t (skT L t e)))) 1 3 (N (skT L t e)) → Oth X Y ∧ Y 1 3 = N (skT L t e) ∧ Y 19 0 = N n ∧ Y 19 1 = N k ∧ DrE Y D ∧ Y 1 2 = N (geT L t (skT L t e)) := fun Y hY => by
      rw [hY]
      exact ⟨oth_f (oth_p g4), jup_same, by rw [jup_o (by decide), jup_o (by decide)]; exact g0, by rw [jup_o (by decide), jup_o (by decide)]; exact g1', dre_txt (dre_txt g5), by rw [jup_nk (by omega), jup_same]⟩
    have hge := (geT_r (L := L) hse).2
    by_cases w4 : w < 4
    · have hk6 : k < 6 := by
        unfold csT at hcs
        rw [if_pos w4] at hcs
        exact of_decide_eq_true hcs
      rw [if_pos w4, if_pos (show w < 7 by omega)]
      unfold f56_72
      rw [c_kind w w4, Option.bind_some, num 99 (-1)]
      cases hr : rdT L t e 99 (-1) with
      | none =>
        dsimp only
        rw [Option.bind_some]
        obtain ⟨Y, hY⟩ : ∃ Y, Y = jup (jup X1 1 2 (N (geT L t (skT L t e)))) 1 3 (N (skT L t e)) := ⟨_, rfl⟩
        rw [← hY]
        obtain ⟨b1, b2', b3, b4, b5, b6⟩ := badY Y hY
        dsimp only
        rw [c_addcomet b4 hk6, Option.bind_some]
        refine ⟨_, rfl, by omega, oth_d (oth_d (oth_d b1 (by omega)) (by omega)) (by omega), by rw [jup_o (by decide), jup_o (by decide), jup_o (by decide)]; exact b2', ⟨_, hge, by rw [jup_o (by decide), jup_o (by decide), jup_o (by decide)]; exact b6⟩, k + 1, by omega, jup_same⟩
      | some vq =>
        obtain ⟨v, q⟩ := vq
        have hq := rdT_le he hr
        dsimp only
        rw [Option.bind_some]
        dsimp only
        rw [c_addcomet (by rw [jup_o (by decide)]; exact g1') hk6, Option.bind_some]
        refine ⟨_, rfl, by omega, oth_d (oth_d (oth_d (oth_p g4) (by omega)) (by omega)) (by omega), by rw [jup_o (by decide), jup_o (by decide), jup_o (by decide), jup_nk (by omega)]; exact g3, by rw [jup_o (by decide), jup_o (by decide), jup_o (by decide), jup_same], ?_⟩
        unfold stc
        rw [if_pos w4]
        exact dre_jup (dre_jup (dre_jup (dre_txt g5)))
    · rw [if_neg w4]
      by_cases w7 : w < 7
      · have hn8 : n < 9 := by
          unfold csT at hcs
          rw [if_neg w4, if_pos w7] at hcs
          exact of_decide_eq_true hcs
        rw [if_pos w7, if_pos w7]
        unfold f56_90
        rw [c_kind2 w (by omega) w7, Option.bind_some, num 99 (-1)]
        cases hr : rdT L t e 99 (-1) with
        | none =>
          dsimp only
          rw [Option.bind_some]
          obtain ⟨Y, hY⟩ : ∃ Y, Y = jup (jup X1 1 2 (N (geT L t (skT L t e)))) 1 3 (N (skT L t e)) := ⟨_, rfl⟩
          rw [← hY]
          obtain ⟨b1, b2', b3, b4, b5, b6⟩ := badY Y hY
          obtain ⟨Z, z1, z2, z3, z4⟩ := c_addone2 (kd := N (w - 4)) (y := -1) b5 b3 hn8
          dsimp only
          rw [z1, Option.bind_some]
          refine ⟨Z, rfl, by omega, oth_tr b1 ⟨fun o _ b => z3 o b, fun j _ _ => by rw [z3 1 (by omega)]⟩, by rw [z3 1 (by omega)]; exact b2', ⟨_, hge, by rw [z3 1 (by omega)]; exact b6⟩, k, hk, by rw [z4]; exact b4⟩
        | some vq =>
          obtain ⟨v, q⟩ := vq
          have hq := rdT_le he hr
          dsimp only
          rw [Option.bind_some]
          obtain ⟨Z, z1, z2, z3, z4⟩ := c_addone2 (X := jup X1 1 2 (N q)) (D := D) (kd := N (w - 4)) (y := v) (dre_txt g5) (by rw [jup_o (by decide)]; exact g0) hn8
          dsimp only
          rw [z1, Option.bind_some]
          refine ⟨Z, rfl, by omega, oth_tr (oth_p g4) ⟨fun o _ b => z3 o b, fun j _ _ => by rw [z3 1 (by omega)]⟩, by rw [z3 1 (by omega), jup_nk (by omega)]; exact g3, by rw [z3 1 (by omega), jup_same], ?_⟩
          unfold stc
          rw [if_neg w4, if_pos w7]
          exact z2
      · rw [if_neg w7, if_neg w7]
        by_cases w9 : w < 9
        · obtain ⟨s0, hs0⟩ : ∃ s : Int32, s = if w = 7 then 1 else 0 := ⟨_, rfl⟩
          rw [if_pos w9, if_pos w9, ← hs0]
          unfold f56_122 f59
          rw [g0, num (N n - 1) (-1)]
          cases hr : rdT L t e (N n - 1) (-1) with
          | none =>
            dsimp only
            rw [Option.bind_some]
            obtain ⟨Y, hY⟩ : ∃ Y, Y = jup (jup X1 1 2 (N (geT L t (skT L t e)))) 1 3 (N (skT L t e)) := ⟨_, rfl⟩
            rw [← hY]
            obtain ⟨b1, b2', b3, b4, b5, b6⟩ := badY Y hY
            dsimp only
            rw [c_numf b2' (by omega), Option.bind_some]
            dsimp only
            rw [c_numf b2' (by omega), Option.bind_some]
            unfold f59_39
            dsimp only
            rw [par_neg, Option.bind_some, ite_self, Option.bind_some]
            exact ⟨Y, rfl, by omega, b1, b2', ⟨_, hge, b6⟩, k, hk, b4⟩
          | some vq =>
            obtain ⟨a, q⟩ := vq
            have hq := rdT_le he hr
            obtain ⟨A, hA, rfl⟩ := rd_lim he (by omega) hr
            have hsq := (skT_r (L := L) hq).2
            obtain ⟨X2, hX2⟩ : ∃ X2, X2 = jup X1 1 2 (N q) := ⟨_, rfl⟩
            have k1 : TxC X2 L t := by rw [hX2]; exact txc_up g1 (by decide)
            have k2 : X2 1 2 = N q := by rw [hX2, jup_same]
            have k3 : X2 1 3 = -1 := by rw [hX2, jup_nk (by omega)]; exact g3
            have k4 : Oth X X2 := by rw [hX2]; exact oth_p g4
            have k5 : DrE X2 D := by rw [hX2]; exact dre_txt g5
            have k6 : X2 19 1 = N k := by rw [k5 19 (by omega)]; exact d1
            dsimp only
            rw [Option.bind_some]
            dsimp only
            rw [← hX2, c_num (most := N A - 1) (unl := -1) k1 k2 k3 hq]
            unfold f59_39
            cases hr2 : rdT L t q (N A - 1) (-1) with
            | none =>
              dsimp only
              rw [Option.bind_some]
              obtain ⟨Y, hY⟩ : ∃ Y, Y = jup (jup X2 1 2 (N (geT L t (skT L t q)))) 1 3 (N (skT L t q)) := ⟨_, rfl⟩
              have b1 : Oth X Y := by rw [hY]; exact oth_f (oth_p k4)
              have b2' : Y 1 3 = N (skT L t q) := by rw [hY, jup_same]
              have b6 : Y 1 2 = N (geT L t (skT L t q)) := by rw [hY, jup_nk (by omega), jup_same]
              have hgb := (geT_r (L := L) hsq).2
              have b4 : Y 19 1 = N k := by rw [hY, jup_o (by decide), jup_o (by decide)]; exact k6
              rw [← hY]
              dsimp only
              rw [c_numf b2' (by omega), Option.bind_some]
              dsimp only
              rw [c_setpar (by omega), Option.bind_some, ite_self, Option.bind_some]
              refine ⟨_, rfl, by omega, oth_d (oth_d b1 (by omega)) (by omega), by rw [jup_o (by decide), jup_o (by decide)]; exact b2', ⟨_, hgb, by rw [jup_o (by decide), jup_o (by decide)]; exact b6⟩, k, hk, by rw [jup_o (by decide), jup_o (by decide)]; exact b4⟩
            | some vq =>
              obtain ⟨b, q2⟩ := vq
              have hq2 := rdT_le hq hr2
              obtain ⟨b0, hb, rfl⟩ := rd_lim hq (by omega) hr2
              have hsq2 := (skT_r (L := L) hq2).2
              obtain ⟨X3, hX3⟩ : ∃ X3, X3 = jup X2 1 2 (N q2) := ⟨_, rfl⟩
              have l1 : TxC X3 L t := by rw [hX3]; exact txc_up k1 (by decide)
              have l2 : X3 1 2 = N q2 := by rw [hX3, jup_same]
              have l3 : X3 1 3 = -1 := by rw [hX3, jup_nk (by omega)]; exact k3
              have l4 : Oth X X3 := by rw [hX3]; exact oth_p k4
              have l5 : DrE X3 D := by rw [hX3]; exact dre_txt k5
              have l6 : X3 19 1 = N k := by rw [l5 19 (by omega)]; exact d1
              dsimp only
              rw [Option.bind_some]
              dsimp only
              rw [← hX3]
              by_cases w8 : w = 8
              · have z0 : s0 = 0 := by rw [hs0, if_neg (by omega)]
                rw [if_pos z0, if_pos w8, c_setpar (by omega), Option.bind_some, Option.bind_some]
                refine ⟨_, rfl, by omega, oth_d (oth_d l4 (by omega)) (by omega), by rw [jup_o (by decide), jup_o (by decide)]; exact l3, by rw [jup_o (by decide), jup_o (by decide)]; exact l2, ?_⟩
                unfold stc
                rw [if_neg w4, if_neg w7, if_pos w9, N_nat (by omega)]
                exact dre_jup (dre_jup l5)
              · have z0 : s0 = 1 := by rw [hs0, if_pos (by omega)]
                rw [if_neg (by rw [z0]; decide), if_neg w8, c_num (most := N A - 1) (unl := N b0) l1 l2 l3 hq2]
                cases hr3 : rdT L t q2 (N A - 1) (N b0) with
                | none =>
                  dsimp only
                  rw [Option.bind_some]
                  obtain ⟨Y, hY⟩ : ∃ Y, Y = jup (jup X3 1 2 (N (geT L t (skT L t q2)))) 1 3 (N (skT L t q2)) := ⟨_, rfl⟩
                  have b1 : Oth X Y := by rw [hY]; exact oth_f (oth_p l4)
                  have b2' : Y 1 3 = N (skT L t q2) := by rw [hY, jup_same]
                  have b6 : Y 1 2 = N (geT L t (skT L t q2)) := by rw [hY, jup_nk (by omega), jup_same]
                  have hgb := (geT_r (L := L) hsq2).2
                  have b4 : Y 19 1 = N k := by rw [hY, jup_o (by decide), jup_o (by decide)]; exact l6
                  rw [← hY]
                  dsimp only
                  rw [c_setpar (by omega), Option.bind_some, Option.bind_some]
                  refine ⟨_, rfl, by omega, oth_d (oth_d b1 (by omega)) (by omega), by rw [jup_o (by decide), jup_o (by decide)]; exact b2', ⟨_, hgb, by rw [jup_o (by decide), jup_o (by decide)]; exact b6⟩, k, hk, by rw [jup_o (by decide), jup_o (by decide)]; exact b4⟩
                | some vq =>
                  obtain ⟨c, q3⟩ := vq
                  have hq3 := rdT_le hq2 hr3
                  dsimp only
                  rw [Option.bind_some]
                  dsimp only
                  rw [c_setpar (by omega), Option.bind_some, Option.bind_some]
                  refine ⟨_, rfl, by omega, oth_d (oth_d (oth_p l4) (by omega)) (by omega), by rw [jup_o (by decide), jup_o (by decide), jup_nk (by omega)]; exact l3, by rw [jup_o (by decide), jup_o (by decide), jup_same], ?_⟩
                  unfold stc
                  rw [if_neg w4, if_neg w7, if_pos w9, N_nat (by omega)]
                  exact dre_jup (dre_jup (dre_txt l5))
        · rw [if_neg w9, if_neg w9]
          by_cases w9' : w = 9
          · rw [if_pos w9', if_pos w9', g0, num (N n - 1) (-1)]
            cases hr : rdT L t e (N n - 1) (-1) with
            | none =>
              dsimp only
              rw [Option.bind_some]
              obtain ⟨Y, hY⟩ : ∃ Y, Y = jup (jup X1 1 2 (N (geT L t (skT L t e)))) 1 3 (N (skT L t e)) := ⟨_, rfl⟩
              rw [← hY]
              obtain ⟨b1, b2', b3, b4, b5, b6⟩ := badY Y hY
              dsimp only
              rw [c_numf b2' (by omega), Option.bind_some]
              dsimp only
              rw [set_neg1, Option.bind_some]
              exact ⟨Y, rfl, by omega, b1, b2', ⟨_, hge, b6⟩, k, hk, b4⟩
            | some vq =>
              obtain ⟨a, q⟩ := vq
              have hq := rdT_le he hr
              obtain ⟨A, hA, rfl⟩ := rd_lim he (by omega) hr
              have hsq := (skT_r (L := L) hq).2
              obtain ⟨X2, hX2⟩ : ∃ X2, X2 = jup X1 1 2 (N q) := ⟨_, rfl⟩
              have k1 : TxC X2 L t := by rw [hX2]; exact txc_up g1 (by decide)
              have k2 : X2 1 2 = N q := by rw [hX2, jup_same]
              have k3 : X2 1 3 = -1 := by rw [hX2, jup_nk (by omega)]; exact g3
              have k4 : Oth X X2 := by rw [hX2]; exact oth_p g4
              have k5 : DrE X2 D := by rw [hX2]; exact dre_txt g5
              have k6 : X2 19 1 = N k := by rw [k5 19 (by omega)]; exact d1
              dsimp only
              rw [Option.bind_some]
              dsimp only
              rw [← hX2, c_num (most := 99) (unl := -1) k1 k2 k3 hq]
              cases hr2 : rdT L t q 99 (-1) with
              | none =>
                dsimp only
                rw [Option.bind_some]
                obtain ⟨Y, hY⟩ : ∃ Y, Y = jup (jup X2 1 2 (N (geT L t (skT L t q)))) 1 3 (N (skT L t q)) := ⟨_, rfl⟩
                have b1 : Oth X Y := by rw [hY]; exact oth_f (oth_p k4)
                have b2' : Y 1 3 = N (skT L t q) := by rw [hY, jup_same]
                have b6 : Y 1 2 = N (geT L t (skT L t q)) := by rw [hY, jup_nk (by omega), jup_same]
                have hgb := (geT_r (L := L) hsq).2
                have b4 : Y 19 1 = N k := by rw [hY, jup_o (by decide), jup_o (by decide)]; exact k6
                rw [← hY]
                dsimp only
                rw [set_in cok_19.2.2.2.2.1 (by omega), Option.bind_some]
                refine ⟨_, rfl, by omega, oth_d b1 (by omega), by rw [jup_o (by decide)]; exact b2', ⟨_, hgb, by rw [jup_o (by decide)]; exact b6⟩, k, hk, by rw [jup_o (by decide)]; exact b4⟩
              | some vq =>
                obtain ⟨b, q2⟩ := vq
                have hq2 := rdT_le hq hr2
                dsimp only
                rw [Option.bind_some]
                dsimp only
                rw [set_in cok_19.2.2.2.2.1 (by omega), Option.bind_some]
                refine ⟨_, rfl, by omega, oth_d (oth_p k4) (by omega), by rw [jup_o (by decide), jup_nk (by omega)]; exact k3, by rw [jup_o (by decide), jup_same], ?_⟩
                unfold stc
                rw [if_neg w4, if_neg w7, if_neg w9, if_pos w9', N_nat (by omega)]
                exact dre_jup (dre_txt k5)
          · rw [if_neg w9', if_neg w9']
            by_cases w10 : w = 10
            · rw [if_pos w10, if_pos w10, num 6 (-1)]
              cases hr : rdT L t e 6 (-1) with
              | none =>
                dsimp only
                rw [Option.bind_some]
                obtain ⟨Y, hY⟩ : ∃ Y, Y = jup (jup X1 1 2 (N (geT L t (skT L t e)))) 1 3 (N (skT L t e)) := ⟨_, rfl⟩
                rw [← hY]
                obtain ⟨b1, b2', b3, b4, b5, b6⟩ := badY Y hY
                rw [Option.bind_some]
                refine ⟨_, rfl, by omega, oth_d b1 (by omega), by rw [jup_o (by decide)]; exact b2', ⟨_, hge, by rw [jup_o (by decide)]; exact b6⟩, k, hk, by rw [jup_nk (by omega)]; exact b4⟩
              | some vq =>
                obtain ⟨v, q⟩ := vq
                have hq := rdT_le he hr
                dsimp only
                rw [Option.bind_some, Option.bind_some]
                dsimp only
                refine ⟨_, rfl, by omega, oth_d (oth_p g4) (by omega), by rw [jup_o (by decide), jup_nk (by omega)]; exact g3, by rw [jup_o (by decide), jup_same], ?_⟩
                unfold stc
                rw [if_neg w4, if_neg w7, if_neg w9, if_neg w9', if_pos w10]
                exact dre_jup (dre_txt g5)
            · rw [if_neg w10, if_neg w10]
              by_cases w11 : w = 11
              · rw [if_pos w11]
                unfold f2
                rw [Option.bind_some, Option.bind_some, Option.bind_some, Option.bind_some, Option.bind_some]
                refine ⟨_, rfl, by omega, oth_d (oth_d (oth_d (oth_d g4 (by omega)) (by omega)) (by omega)) (by omega), by rw [jup_o (by decide), jup_o (by decide), jup_o (by decide), jup_o (by decide)]; exact g3, by rw [jup_o (by decide), jup_o (by decide), jup_o (by decide), jup_o (by decide)]; exact g2, ?_⟩
                unfold stc
                rw [if_neg w4, if_neg w7, if_neg w9, if_neg w9', if_neg w10, if_pos w11]
                exact dre_jup (dre_jup (dre_jup (dre_jup g5)))
              · rw [if_neg w11]
                refine ⟨_, rfl, by omega, oth_d g4 (by omega), by rw [jup_o (by decide)]; exact g3, by rw [jup_o (by decide)]; exact g2, ?_⟩
                unfold stc
                rw [if_neg w4, if_neg w7, if_neg w9, if_neg w9', if_neg w10, if_neg w11]
                exact dre_jup g5
end C2
