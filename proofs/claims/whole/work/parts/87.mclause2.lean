/-! PURE: a clause, read by the reference, whole -/
section MC2
variable {L : Nat → Int32} {t : Nat}
theorem a_pos {w : Nat} {M : JM} (hw : w < 7) : f139 198 (rcT w) M = f139_14 198 M := by
  unfold f139
  rw [r_137 (show w < 13 by omega), Option.bind_some]
  by_cases w4 : w < 4
  · rw [decide_eq_true w4, if_neg (show ¬ b2 true = 0 by decide)]
  · rw [decide_eq_false w4, if_pos (show b2 false = 0 from rfl), r_138 (show w < 13 by omega), Option.bind_some, decide_eq_true (show 4 ≤ w ∧ w < 7 by omega), if_neg (show ¬ b2 true = 0 by decide)]
theorem a_neg {w : Nat} {M : JM} (hw : w < 13) (h7 : ¬ w < 7) : f139 198 (rcT w) M = (if rcT w = (11 : Int32) then ((f136 198 (0 : Int32) (6 : Int32) (-1 : Int32) M).bind fun z8 => ((jbo 139 z8.1).bind fun u => some (u, z8.2))) else (if rcT w = (0 : Int32) then (some ((1 : Int32), M)) else (if rcT w = (12 : Int32) then (some ((1 : Int32), M)) else ((f136 198 (0 : Int32) ((M 198 20) - (1 : Int32)) (-1 : Int32) M).bind fun z30 => (if z30.1 = (0 : Int32) then (some ((0 : Int32), z30.2)) else (if rcT w = (10 : Int32) then ((f136 198 (1 : Int32) (99 : Int32) (-1 : Int32) z30.2).bind fun z17 => ((jbo 139 z17.1).bind fun u => some (u, z17.2))) else ((jla (jpt 198 5) (((4 : Int32) * (z30.2 198 6)) + (1 : Int32)) z30.2).bind fun v18 => ((f136 198 (1 : Int32) (v18 - (1 : Int32)) (-1 : Int32) z30.2).bind fun z29 => (if z29.1 = (0 : Int32) then (some ((0 : Int32), z29.2)) else (if rcT w = (9 : Int32) then (some ((1 : Int32), z29.2)) else ((jla (jpt 198 5) (((4 : Int32) * (z30.2 198 6)) + (1 : Int32)) z29.2).bind fun v23 => ((jla (jpt 198 5) ((((4 : Int32) * (z30.2 198 6)) + (1 : Int32)) + (1 : Int32)) z29.2).bind fun v24 => ((f136 198 (2 : Int32) (v23 - (1 : Int32)) v24 z29.2).bind fun z28 => (if z28.1 = (0 : Int32) then (some ((0 : Int32), z28.2)) else (some ((1 : Int32), z28.2)))))))))))))))) := by
  unfold f139
  rw [r_137 hw, Option.bind_some, decide_eq_false (show ¬ w < 4 by omega), if_pos (show b2 false = 0 from rfl), r_138 hw, Option.bind_some, decide_eq_false (show ¬ (4 ≤ w ∧ w < 7) by omega), if_pos (show b2 false = 0 from rfl)]
theorem jbo_139a {Z : JM} : ((jbo 139 ((0 : Int32), Z).1).bind fun u => some (u, ((0 : Int32), Z).2)) = some ((0 : Int32), Z) := by
  dsimp only
  rw [show jbo 139 (0 : Int32) = some 0 by decide +kernel, Option.bind_some]
theorem jbo_139b {Z : JM} : ((jbo 139 ((1 : Int32), Z).1).bind fun u => some (u, ((1 : Int32), Z).2)) = some ((1 : Int32), Z) := by
  dsimp only
  rw [show jbo 139 (1 : Int32) = some 1 by decide +kernel, Option.bind_some]
theorem fbn_none {c : Nat → Bool} : ∀ d b, fbn c d b = none → ∀ j, b ≤ j → j < b + d → c j = false
  | 0, _, _, j, h1, h2 => by omega
  | d + 1, b, h, j, h1, h2 => by
    have q : (if c b = true then some b else fbn c d (b + 1)) = none := h
    cases hb : c b with
    | true => rw [hb, if_pos rfl] at q; cases q
    | false =>
      rw [hb, if_neg (by decide)] at q
      by_cases e : j = b
      · rw [e]; exact hb
      · exact fbn_none d (b + 1) q j (by omega) (by omega)
theorem m_clause {X : JM} {p j n k : Nat} (h : AtT X L t p) (hp : p ≤ t) (h6 : X 198 6 = N j) (hj : j < 14) (h20 : X 198 20 = N n) (h21 : X 198 21 = N k) (hn : n ≤ 9) (hk : k ≤ 6) : ∃ g Y, f140 198 X = some (g, Y) ∧ ResM L t X Y j n k g (clT L t p n k) := by
  obtain ⟨hT, h7, h8, h9⟩ := h
  have h160 := hT.2.1
  have hs := (skT_r (L := L) hp).2
  have hwe := weT_r (L := L) hs
  have hte := te_r (L := L) hs
  have wm : ∀ w, w < 13 → wmT L (skT L t p) (teT L t (skT L t p)) w = wmT L (skT L t p) (weT L t (skT L t p)) w := fun w hw => wm_te hs hw
  have le : isL (L (skT L t p)) = true → skT L t p < t → teT L t (skT L t p) = weT L t (skT L t p) := fun q hq => by unfold teT; rw [if_pos hq, if_pos q]
  unfold clT
  cases hwd : wdT L (skT L t p) (weT L t (skT L t p)) n k with
  | none =>
    dsimp only
    refine ⟨0, X, ?_, ⟨fun o _ _ => rfl, fun m _ _ => rfl⟩, rfl, h8⟩
    have none13 : ∀ w, w < 13 → (wmT L (skT L t p) (weT L t (skT L t p)) w && csT n k w) = false := fun w hw => fbn_none (c := fun w => wmT L (skT L t p) (weT L t (skT L t p)) w && csT n k w) 13 0 hwd w (by omega) (by omega)
    by_cases hm : ∃ w, w < 13 ∧ wmT L (skT L t p) (weT L t (skT L t p)) w = true
    · obtain ⟨w, hw, hm⟩ := hm
      have hc := none13 w hw
      rw [hm, Bool.true_and] at hc
      obtain ⟨r1, _⟩ := r_ne hw
      unfold f140 f140_26
      rw [m_wordB hT h8 h9 hte.1 hte.2 hw (by rw [wm w hw]; exact hm), Option.bind_some, if_neg r1, r_138 hw, Option.bind_some, r_137 hw, Option.bind_some, h20, h21]
      unfold csT at hc
      by_cases w4 : w < 4
      · rw [if_pos w4] at hc
        have := of_decide_eq_false hc
        rw [decide_eq_false (show ¬ (4 ≤ w ∧ w < 7) by omega), if_pos (show b2 false = 0 from rfl), decide_eq_true w4, if_neg (show ¬ b2 true = 0 by decide), if_pos (show N k = 6 by rw [show k = 6 by omega]; rfl)]
      · rw [if_neg w4] at hc
        by_cases w7 : w < 7
        · rw [if_pos w7] at hc
          have := of_decide_eq_false hc
          rw [decide_eq_true (show 4 ≤ w ∧ w < 7 by omega), if_neg (show ¬ b2 true = 0 by decide), if_pos (show N n = 9 by rw [show n = 9 by omega]; rfl)]
        · rw [if_neg w7] at hc
          cases hc
    · have hno : ∀ w, w < 13 → wmT L (skT L t p) (teT L t (skT L t p)) w = false := fun w hw => by
        rw [wm w hw]
        cases hb : wmT L (skT L t p) (weT L t (skT L t p)) w with
        | false => rfl
        | true => exact absurd ⟨w, hw, hb⟩ hm
      unfold f140
      rw [m_wordA hT h8 h9 hte.1 hte.2 hno, Option.bind_some, if_pos rfl]
  | some w =>
    obtain ⟨hw, hm, hcs⟩ := wd_some hwd
    obtain ⟨r1, r2, r3, r4, r5, r6⟩ := r_ne hw
    have hl2 := wl_2 w hw
    have hst : isL (L (skT L t p)) = true ∧ skT L t p < t := by
      unfold wmT at hm
      rw [Bool.and_eq_true] at hm
      have q := of_decide_eq_true (fits_all (wlT w) 0 hm.2 0 (by omega) (by omega))
      have q2 := (cd_chr hw (show 0 < wlT w by omega)).1
      rw [q, Nat.add_zero] at q2
      have q3 := of_decide_eq_true hm.1
      exact ⟨q2, by omega⟩
    have ete := le hst.1 hst.2
    have to44 : f140 198 X = f140_44 198 (rcT w) X := by
      unfold f140 f140_26
      rw [m_wordB hT h8 h9 hte.1 hte.2 hw (by rw [wm w hw]; exact hm), Option.bind_some, if_neg r1, r_138 hw, Option.bind_some, r_137 hw, Option.bind_some, h20, h21]
      unfold csT at hcs
      by_cases w4 : w < 4
      · rw [if_pos w4] at hcs
        have := of_decide_eq_true hcs
        rw [decide_eq_false (show ¬ (4 ≤ w ∧ w < 7) by omega), if_pos (show b2 false = 0 from rfl), decide_eq_true w4, if_neg (show ¬ b2 true = 0 by decide), if_neg (show ¬ N k = (6 : Int32) from fun q => absurd ((N_eq (b := 6) (by omega) (by omega)).mp q) (by omega))]
      · rw [if_neg w4] at hcs
        rw [decide_eq_false w4, if_pos (show b2 false = 0 from rfl)]
        by_cases w7 : w < 7
        · rw [if_pos w7] at hcs
          have := of_decide_eq_true hcs
          rw [decide_eq_true (show 4 ≤ w ∧ w < 7 by omega), if_neg (show ¬ b2 true = 0 by decide), if_neg (show ¬ N n = (9 : Int32) from fun q => absurd ((N_eq (b := 9) (by omega) (by omega)).mp q) (by omega))]
        · rw [decide_eq_false (show ¬ (4 ≤ w ∧ w < 7) by omega), if_pos (show b2 false = 0 from rfl)]
    rw [to44]
    rw [ete] at h7 h9
    dsimp only
    generalize weT L t (skT L t p) = e at *
    have he : e ≤ t := hwe.2
    obtain ⟨M7, m1, m2⟩ := m_tok hT h7 he
    have q7 : M7 198 6 = N j := by rw [m2.2.2.2.1 6 (by omega) (by omega) (by omega)]; exact h6
    obtain ⟨A, hA⟩ : ∃ A, A = jup M7 202 (4 * j) (rcT w) := ⟨_, rfl⟩
    have fin := fun Z => m_fin (Z := Z) (n := n) (k := k) hw m1 q7 hj
    have out := fun Z => m_out0 (Z := Z) (w := w) m1 q7 hj
    rw [← hA] at fin out
    have aA : AtT A L t e := by
      have q := tok_at hT m2
      rw [hA]
      exact ⟨⟨by rw [jup_o (by decide)]; exact q.1.1, q.1.2.1, fun i hi => by rw [jup_o (by decide)]; exact q.1.2.2 i hi⟩, by rw [jup_o (by decide)]; exact q.2.1, by rw [jup_o (by decide)]; exact q.2.2.1, by rw [jup_o (by decide)]; exact q.2.2.2⟩
    have a6 : A 198 6 = N j := by rw [hA, jup_o (by decide)]; exact q7
    have a20 : A 198 20 = N n := by rw [hA, jup_o (by decide), m2.2.2.2.1 20 (by omega) (by omega) (by omega)]; exact h20
    have a21 : A 198 21 = N k := by rw [hA, jup_o (by decide), m2.2.2.2.1 21 (by omega) (by omega) (by omega)]; exact h21
    have a202 : A 202 (4 * j) = rcT w := by rw [hA, jup_same]
    have alow : ∀ m, m < 4 * j → A 202 m = X 202 m := fun m hm => by rw [hA, jup_nk (by omega), m2.2.2.2.2 202 (by decide)]
    have aX : FrM X A := ⟨fun o x y => by rw [hA, jup_o y, m2.2.2.2.2 o x], fun m x y => by rw [hA, jup_o (by decide), m2.2.2.2.1 m (by omega) (by omega) (by omega)]⟩
    have out0 : ∀ Z fp, f139 198 (rcT w) A = some (0, Z) → Z 198 18 = N fp → FrA j A Z → ∃ g Y, f140_44 198 (rcT w) X = some (g, Y) ∧ ResM L t X Y j n k g (.inl fp) := fun Z fp z1 z2 z3 =>
      ⟨0, Z, out Z z1, frm_tr aX ⟨z3.1, fun m x y => z3.2.1 m (by omega)⟩, rfl, z2⟩
    have out1 : ∀ Z a b c q, f139 198 (rcT w) A = some (1, Z) → AtT Z L t q → FrA j A Z → (w < 11 → Z 202 (4 * j + 1) = a) → (7 ≤ w → w < 10 → Z 202 (4 * j + 2) = b) → (w = 7 → Z 202 (4 * j + 3) = c) → ∃ g Y, f140_44 198 (rcT w) X = some (g, Y) ∧ ResM L t X Y j n k g (.inr (w, a, b, c, q)) := fun Z a b c q z1 z2 z3 z4 z5 z6 => by
      have z20 : Z 198 20 = N n := by rw [z3.2.1 20 (by omega)]; exact a20
      have z21 : Z 198 21 = N k := by rw [z3.2.1 21 (by omega)]; exact a21
      have z06 : Z 198 6 = N j := by rw [z3.2.1 6 (by omega)]; exact a6
      refine ⟨1, _, fin Z z1 z20 z21 z06, frm_tr aX ⟨fun o x y => by rw [jup_o x, jup_o x, jup_o x]; exact z3.1 o x y, fun m x y => by rw [jup_nk (by omega), jup_nk (by omega), jup_nk (by omega)]; exact z3.2.1 m (by omega)⟩, rfl, ?_, jup_same, ?_, ?_, ⟨?_, ?_, ?_, ?_⟩, fun m hm => ?_⟩
      · obtain ⟨⟨y1, y2, y3⟩, y4, y5, y6⟩ := z2
        refine ⟨⟨?_, y2, fun i hi => ?_⟩, ?_, ?_, ?_⟩
        · rw [jup_nk (by omega), jup_nk (by omega), jup_nk (by omega)]; exact y1
        · rw [jup_o (by decide), jup_o (by decide), jup_o (by decide)]; exact y3 i hi
        · rw [jup_nk (by omega), jup_nk (by omega), jup_nk (by omega)]; exact y4
        · rw [jup_nk (by omega), jup_nk (by omega), jup_nk (by omega)]; exact y5
        · rw [jup_nk (by omega), jup_nk (by omega), jup_nk (by omega)]; exact y6
      · rw [jup_nk (by omega), jup_nk (by omega), jup_same]
      · rw [jup_nk (by omega), jup_same]
      · rw [jup_o (by decide), jup_o (by decide), jup_o (by decide), z3.2.2 _ (by omega)]; exact a202
      · intro q; rw [jup_o (by decide), jup_o (by decide), jup_o (by decide)]; exact z4 q
      · intro q q'; rw [jup_o (by decide), jup_o (by decide), jup_o (by decide)]; exact z5 q q'
      · intro q; rw [jup_o (by decide), jup_o (by decide), jup_o (by decide)]; exact z6 q
      · rw [jup_o (by decide), jup_o (by decide), jup_o (by decide), z3.2.2 _ (by omega)]; exact alow m hm
    have refA : FrA j A A := ⟨fun _ _ _ => rfl, fun _ _ => rfl, fun _ _ => rfl⟩
    have stepA : ∀ {Y Z i v q}, FrA j A Y → RdY Y Z L t (4 * j + 1 + i) v q → FrA j A Z := fun y z => ⟨fun o x w => by rw [z.2.2.1 o x w]; exact y.1 o x w, fun m hm => by rw [z.2.2.2 m hm]; exact y.2.1 m hm, fun m hm => by rw [z.2.1 m, if_neg (by omega)]; exact y.2.2 m hm⟩
    by_cases w7 : w < 7
    · rw [if_pos w7]
      have r := m_read (sl := 0) (most := 99) (unl := -1) aA he a6 hj (by omega)
      have e139 := a_pos (M := A) w7
      unfold f139_14 at e139
      cases hr : rdT L t e 99 (-1) with
      | none =>
        rw [hr] at r
        exact out0 A _ (by rw [e139, show f136 198 0 99 (-1) A = _ from r, Option.bind_some]; exact jbo_139a) aA.2.2.1 refA
      | some vq =>
        obtain ⟨v, q⟩ := vq
        rw [hr] at r
        obtain ⟨Z, z1, z2⟩ := r
        exact out1 Z v 0 0 q (by rw [e139, show f136 198 0 99 (-1) A = _ from z1, Option.bind_some]; exact jbo_139b) z2.1 (stepA refA z2) (fun _ => by rw [z2.2.1, if_pos (by omega)]) (fun _ _ => by omega) (fun _ => by omega)
    · rw [if_neg w7]
      have e139 := a_neg (M := A) hw w7
      by_cases w10 : w = 10
      · rw [if_neg (show ¬ w < 9 by omega), if_neg (show ¬ w = 9 by omega), if_pos w10]
        rw [if_pos (r4.mpr w10)] at e139
        have r := m_read (sl := 0) (most := 6) (unl := -1) aA he a6 hj (by omega)
        cases hr : rdT L t e 6 (-1) with
        | none =>
          rw [hr] at r
          exact out0 A _ (by rw [e139, show f136 198 0 6 (-1) A = _ from r, Option.bind_some]; exact jbo_139a) aA.2.2.1 refA
        | some vq =>
          obtain ⟨v, q⟩ := vq
          rw [hr] at r
          obtain ⟨Z, z1, z2⟩ := r
          exact out1 Z v 0 0 q (by rw [e139, show f136 198 0 6 (-1) A = _ from z1, Option.bind_some]; exact jbo_139b) z2.1 (stepA refA z2) (fun _ => by rw [z2.2.1, if_pos (by omega)]) (fun _ _ => by omega) (fun _ => by omega)
      · rw [if_neg (fun q => w10 (r4.mp q))] at e139
        by_cases w11 : w = 11
        · rw [if_neg (show ¬ w < 9 by omega), if_neg (show ¬ w = 9 by omega), if_neg w10]
          rw [if_pos (r2.mpr w11)] at e139
          exact out1 A 0 0 0 e e139 aA refA (fun _ => by omega) (fun _ _ => by omega) (fun _ => by omega)
        · rw [if_neg (fun q => w11 (r2.mp q))] at e139
          by_cases w12 : w = 12
          · rw [if_neg (show ¬ w < 9 by omega), if_neg (show ¬ w = 9 by omega), if_neg w10]
            rw [if_pos (r3.mpr w12)] at e139
            exact out1 A 0 0 0 e e139 aA refA (fun _ => by omega) (fun _ _ => by omega) (fun _ => by omega)
          · rw [if_neg (fun q => w12 (r3.mp q)), a20] at e139
            have r := m_read (sl := 0) (most := N n - 1) (unl := -1) aA he a6 hj (by omega)
            by_cases w9 : w < 9
            · rw [if_pos w9]
              cases hr : rdT L t e (N n - 1) (-1) with
              | none =>
                rw [hr] at r
                exact out0 A _ (by rw [e139, show f136 198 0 (N n - 1) (-1) A = _ from r, Option.bind_some]; exact if_pos rfl) aA.2.2.1 refA
              | some vq =>
                obtain ⟨v, q⟩ := vq
                rw [hr] at r
                obtain ⟨Z, z1, z2⟩ := r
                have hq := rdT_le he hr
                have zA := stepA refA z2
                have z6 : Z 198 6 = N j := by rw [zA.2.1 6 (by omega)]; exact a6
                have zv : Z 202 (4 * j + 1) = v := by rw [z2.2.1, if_pos (by omega)]
                have e4 : (4 : Int32) * N j + 1 = N (4 * j + 1) := by rw [show (4 : Int32) = N 4 from rfl, N_mul, N_succ]
                rw [show f136 198 0 (N n - 1) (-1) A = _ from z1, Option.bind_some] at e139
                dsimp only at e139
                rw [if_neg (show ¬ (1 : Int32) = 0 by decide), if_neg (fun q => absurd (r5.mp q) (by omega)), z6, e4, mp_5, la_202 (by omega), Option.bind_some, zv] at e139
                have r2' := m_read (sl := 1) (most := v - 1) (unl := -1) z2.1 hq z6 hj (by omega)
                dsimp only
                cases hr2 : rdT L t q (v - 1) (-1) with
                | none =>
                  rw [hr2] at r2'
                  exact out0 Z _ (by rw [e139, show f136 198 1 (v - 1) (-1) Z = _ from r2', Option.bind_some]; exact if_pos rfl) z2.1.2.2.1 zA
                | some vq2 =>
                  obtain ⟨b, q2⟩ := vq2
                  rw [hr2] at r2'
                  obtain ⟨W, w1, w2⟩ := r2'
                  have hq2 := rdT_le hq hr2
                  have wA := stepA zA w2
                  have w6 : W 198 6 = N j := by rw [wA.2.1 6 (by omega)]; exact a6
                  have wv : W 202 (4 * j + 1) = v := by rw [w2.2.1, if_neg (by omega)]; exact zv
                  have wb : W 202 (4 * j + 2) = b := by rw [w2.2.1, if_pos (by omega)]
                  dsimp only
                  have e139' : f139 198 (rcT w) A = (if rcT w = (9 : Int32) then (some ((1 : Int32), W)) else ((f136 198 (2 : Int32) (v - (1 : Int32)) b W).bind fun z28 => (if z28.1 = (0 : Int32) then (some ((0 : Int32), z28.2)) else (some ((1 : Int32), z28.2))))) := by
                    rw [e139, show f136 198 1 (v - 1) (-1) Z = some (1, W) from w1, Option.bind_some]
                    dsimp only
                    rw [if_neg (show ¬ (1 : Int32) = 0 by decide), N_succ, la_202 (by omega), Option.bind_some, la_202 (by omega), Option.bind_some, wv, wb]
                  by_cases w8 : w = 8
                  · rw [if_pos w8]
                    rw [if_pos (r6.mpr w8)] at e139'
                    exact out1 W v b (-1) q2 e139' w2.1 wA (fun _ => wv) (fun _ _ => wb) (fun _ => by omega)
                  · rw [if_neg w8]
                    rw [if_neg (fun q => w8 (r6.mp q))] at e139'
                    have r3' := m_read (sl := 2) (most := v - 1) (unl := b) w2.1 hq2 w6 hj (by omega)
                    cases hr3 : rdT L t q2 (v - 1) b with
                    | none =>
                      rw [hr3] at r3'
                      exact out0 W _ (by rw [e139', show f136 198 2 (v - 1) b W = _ from r3', Option.bind_some]; exact if_pos rfl) w2.1.2.2.1 wA
                    | some vq3 =>
                      obtain ⟨c, q3⟩ := vq3
                      rw [hr3] at r3'
                      obtain ⟨V, v1, v2⟩ := r3'
                      exact out1 V v b c q3 (by rw [e139', show f136 198 2 (v - 1) b W = _ from v1, Option.bind_some]; exact if_neg (show ¬ (1 : Int32) = 0 by decide)) v2.1 (stepA wA v2) (fun _ => by rw [v2.2.1, if_neg (by omega)]; exact wv) (fun _ _ => by rw [v2.2.1, if_neg (by omega)]; exact wb) (fun _ => by rw [v2.2.1, if_pos (by omega)])
            · have w9' : w = 9 := by omega
              rw [if_neg w9, if_pos w9']
              cases hr : rdT L t e (N n - 1) (-1) with
              | none =>
                rw [hr] at r
                exact out0 A _ (by rw [e139, show f136 198 0 (N n - 1) (-1) A = _ from r, Option.bind_some]; exact if_pos rfl) aA.2.2.1 refA
              | some vq =>
                obtain ⟨v, q⟩ := vq
                rw [hr] at r
                obtain ⟨Z, z1, z2⟩ := r
                have hq := rdT_le he hr
                have zA := stepA refA z2
                have z6 : Z 198 6 = N j := by rw [zA.2.1 6 (by omega)]; exact a6
                have zv : Z 202 (4 * j + 1) = v := by rw [z2.2.1, if_pos (by omega)]
                rw [show f136 198 0 (N n - 1) (-1) A = _ from z1, Option.bind_some] at e139
                dsimp only at e139
                rw [if_neg (show ¬ (1 : Int32) = 0 by decide), if_pos (r5.mpr w9')] at e139
                have r2' := m_read (sl := 1) (most := 99) (unl := -1) z2.1 hq z6 hj (by omega)
                dsimp only
                cases hr2 : rdT L t q 99 (-1) with
                | none =>
                  rw [hr2] at r2'
                  exact out0 Z _ (by rw [e139, show f136 198 1 99 (-1) Z = _ from r2', Option.bind_some]; exact jbo_139a) z2.1.2.2.1 zA
                | some vq2 =>
                  obtain ⟨b, q2⟩ := vq2
                  rw [hr2] at r2'
                  obtain ⟨W, w1, w2⟩ := r2'
                  exact out1 W v b 0 q2 (by rw [e139, show f136 198 1 99 (-1) Z = _ from w1, Option.bind_some]; exact jbo_139b) w2.1 (stepA zA w2) (fun _ => by rw [w2.2.1, if_neg (by omega)]; exact zv) (fun _ _ => by rw [w2.2.1, if_pos (by omega)]) (fun _ => by omega)
end MC2
