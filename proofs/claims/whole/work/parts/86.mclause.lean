/-! PURE: a clause, read by the reference -/
section MC
variable {L : Nat → Int32} {t : Nat}
def AtT (X : JM) (L : Nat → Int32) (t p : Nat) : Prop := TxM X L t ∧ X 198 17 = N (teT L t (skT L t p)) ∧ X 198 18 = N (skT L t p) ∧ X 198 19 = N (teT L t (skT L t p))
def FrM (X Y : JM) : Prop := (∀ o, o ≠ 198 → o ≠ 202 → Y o = X o) ∧ ∀ m, m ≠ 6 → ¬ (17 ≤ m ∧ m ≤ 21) → Y 198 m = X 198 m
theorem frm_tr {X Y Z : JM} (h : FrM X Y) (g : FrM Y Z) : FrM X Z := ⟨fun o a b => (g.1 o a b).trans (h.1 o a b), fun m a b => (g.2 m a b).trans (h.2 m a b)⟩
theorem tok_at {X Y : JM} {p : Nat} (h : TxM X L t) (g : Tok X Y (skT L t p) (teT L t (skT L t p))) : AtT Y L t p := ⟨⟨by rw [g.2.2.2.1 4 (by omega) (by omega) (by omega)]; exact h.1, h.2.1, fun i hi => by rw [g.2.2.2.2 201 (by decide)]; exact h.2.2 i hi⟩, g.1, g.2.1, g.2.2.1⟩
def RdY (X Y : JM) (L : Nat → Int32) (t i : Nat) (v : Int32) (q : Nat) : Prop := AtT Y L t q ∧ (∀ m, Y 202 m = if m = i then v else X 202 m) ∧ (∀ o, o ≠ 198 → o ≠ 202 → Y o = X o) ∧ ∀ m, ¬ (17 ≤ m ∧ m ≤ 19) → Y 198 m = X 198 m
theorem m_read {X : JM} {p j sl : Nat} {most unl : Int32} (h : AtT X L t p) (hp : p ≤ t) (h6 : X 198 6 = N j) (hj : j < 14) (hsl : sl < 3) : match rdT L t p most unl with
    | none => f136 198 (N sl) most unl X = some (0, X)
    | some (v, q) => ∃ Y, f136 198 (N sl) most unl X = some (1, Y) ∧ RdY X Y L t (4 * j + 1 + sl) v q := by
  obtain ⟨hT, h7, h8, h9⟩ := h
  have hs := (skT_r (L := L) hp).2
  have h160 := hT.2.1
  have hr := geT_r (L := L) hs
  unfold rdT badN vlT
  generalize skT L t p = s at *
  by_cases hst : s < t
  · cases hg : isG (L s) with
    | false =>
      have e1 : geT L t s = s := by
        unfold geT
        obtain ⟨d, hd⟩ : ∃ d, t - s = d + 1 := ⟨t - s - 1, by omega⟩
        rw [hd, rnT, if_neg (by rw [hg]; decide)]
      rw [e1, Nat.sub_self, decide_eq_true (show 0 < 1 by omega), Bool.true_or, if_pos rfl]
      show f136 198 (N sl) most unl X = some (0, X)
      have hk : ¬ kdF (L s) = 2 := of_decide_eq_false (by rw [kd_2]; exact hg)
      unfold f136
      rw [h8, hT.1, if_neg (fun q => absurd ((N_eq (by omega) (by omega)).mp q) (by omega)), mp_3, txm_let hT hst, Option.bind_some, kd_ok, Option.bind_some, if_neg hk]
    | true =>
      have hk : kdF (L s) = 2 := of_decide_eq_true (by rw [kd_2]; exact hg)
      have e1 : teT L t s = geT L t s := by
        unfold teT
        rw [if_pos hst, if_neg (by rw [lg_no hg]; decide), if_pos hg]
      have e2 : s + 1 ≤ geT L t s := by
        unfold geT
        obtain ⟨d, hd⟩ : ∃ d, t - s = d + 1 := ⟨t - s - 1, by omega⟩
        rw [hd, rnT, if_pos hg]
        exact (rnT_ge d (s + 1)).1
      rw [e1] at h7 h9
      generalize geT L t s = e at *
      have start : f136 198 (N sl) most unl X = if (2 : Int32) < N (e - s) then some (0, X) else f136_51 1000 198 (N sl) most unl 0 (N s) X := by
        unfold f136
        rw [h8, hT.1, if_neg (fun q => absurd ((N_eq (by omega) (by omega)).mp q) (by omega)), mp_3, txm_let hT hst, Option.bind_some, kd_ok, Option.bind_some, if_pos hk, h9, show N e - N s = N (e - s) from (Int32.ofNat_sub e s hr.1).symm]
      rw [start, decide_eq_false (show ¬ e - s < 1 by omega), Bool.false_or]
      by_cases hb : 2 < e - s
      · rw [if_pos (show (2 : Int32) < N (e - s) from (N_lt (a := 2) (by omega) (by omega)).mpr hb), decide_eq_true hb, Bool.true_or, if_pos rfl]
      · rw [if_neg (show ¬ (2 : Int32) < N (e - s) from fun q => hb ((N_lt (a := 2) (by omega) (by omega)).mp q)), decide_eq_false hb, Bool.false_or]
        have key : ∀ (d i f : Nat) (v : Int32), i + d = e → d < f → f136_51 f 198 (N sl) most unl v (N i) X = f136_51 1 198 (N sl) most unl (itr (fun i v => v * 10 + L i - 48) i d v) (N e) X := by
          intro d
          induction d with
          | zero =>
            intro i f v hi hf
            obtain ⟨f, rfl⟩ : ∃ g, f = g + 1 := ⟨f - 1, by omega⟩
            have ei : i = e := hi
            rw [ei, f136_51, f136_51, h9, if_neg (fun q => Nat.lt_irrefl _ ((N_lt (by omega) (by omega)).mp q)), if_neg (fun q => Nat.lt_irrefl _ ((N_lt (by omega) (by omega)).mp q))]
            rfl
          | succ d ih =>
            intro i f v hi hf
            obtain ⟨f, rfl⟩ : ∃ g, f = g + 1 := ⟨f - 1, by omega⟩
            rw [f136_51, h9, if_pos ((N_lt (by omega) (by omega)).mpr (by omega)), mp_3, txm_let hT (by omega), Option.bind_some, N_succ, ih (i + 1) f _ (by omega) (by omega), Int32.mul_comm 10 v]
            rfl
        rw [key (e - s) s 1000 0 (by omega) (by omega)]
        generalize itr (fun i v => v * 10 + L i - 48) s (e - s) 0 = v
        rw [f136_51, h9, if_neg (fun q => Nat.lt_irrefl _ ((N_lt (by omega) (by omega)).mp q)), h6]
        by_cases c1 : most < v
        · rw [if_pos c1, decide_eq_true c1, Bool.true_or, if_pos rfl]
        · rw [if_neg c1, decide_eq_false c1, Bool.false_or]
          by_cases c2 : v = unl
          · rw [if_pos c2, decide_eq_true c2, if_pos rfl]
          · rw [if_neg c2, decide_eq_false c2, if_neg (by decide), show (4 : Int32) = N 4 from rfl, N_mul, N_succ, N_add, mp_5, sa_202 (by omega), Option.bind_some]
            obtain ⟨X1, hX1⟩ : ∃ X1, X1 = jup X 202 (4 * j + 1 + sl) v := ⟨_, rfl⟩
            have t1 : TxM X1 L t := by
              rw [hX1]
              exact ⟨by rw [jup_o (by decide)]; exact hT.1, h160, fun i hi => by rw [jup_o (by decide)]; exact hT.2.2 i hi⟩
            have t7 : X1 198 17 = N e := by rw [hX1, jup_o (by decide)]; exact h7
            obtain ⟨Y, y1, y2⟩ := m_tok t1 t7 hr.2
            rw [← hX1, y1, Option.bind_some]
            refine ⟨Y, rfl, tok_at t1 y2, fun m => ?_, fun o a b => by rw [y2.2.2.2.2 o a, hX1, jup_o b], fun m hm => by rw [y2.2.2.2.1 m (by omega) (by omega) (by omega), hX1, jup_o (by decide)]⟩
            rw [y2.2.2.2.2 202 (by decide), hX1, jup_at]
            simp only [true_and]
  · have e : s = t := by omega
    have e1 : geT L t s = s := by
      unfold geT
      rw [e, Nat.sub_self]; rfl
    rw [e1, Nat.sub_self, decide_eq_true (show 0 < 1 by omega), Bool.true_or, if_pos rfl]
    show f136 198 (N sl) most unl X = some (0, X)
    unfold f136
    rw [h8, hT.1, if_pos (by rw [e])]
theorem r_137 {w : Nat} (hw : w < 13) : f137 (rcT w) = some (b2 (decide (w < 4))) := by
  have q : (List.range 13).all (fun w => f137 (rcT w) == some (b2 (decide (w < 4)))) = true := by decide +kernel
  exact eq_of_beq (List.all_eq_true.mp q w (List.mem_range.mpr hw))
theorem r_138 {w : Nat} (hw : w < 13) : f138 (rcT w) = some (b2 (decide (4 ≤ w ∧ w < 7))) := by
  have q : (List.range 13).all (fun w => f138 (rcT w) == some (b2 (decide (4 ≤ w ∧ w < 7)))) = true := by decide +kernel
  exact eq_of_beq (List.all_eq_true.mp q w (List.mem_range.mpr hw))
theorem r_ne {w : Nat} (hw : w < 13) : rcT w ≠ -1 ∧ (rcT w = 0 ↔ w = 11) ∧ (rcT w = 12 ↔ w = 12) ∧ (rcT w = 11 ↔ w = 10) ∧ (rcT w = 10 ↔ w = 9) ∧ (rcT w = 9 ↔ w = 8) := by
  have q : (List.range 13).all (fun w => decide (rcT w ≠ -1) && (decide (rcT w = 0) == decide (w = 11)) && (decide (rcT w = 12) == decide (w = 12)) && (decide (rcT w = 11) == decide (w = 10)) && (decide (rcT w = 10) == decide (w = 9)) && (decide (rcT w = 9) == decide (w = 8))) = true := by decide +kernel
  have q2 := List.all_eq_true.mp q w (List.mem_range.mpr hw)
  simp only [Bool.and_eq_true, beq_iff_eq, decide_eq_decide, decide_eq_true_iff] at q2
  obtain ⟨⟨⟨⟨⟨a, b⟩, c⟩, d⟩, e⟩, f⟩ := q2
  exact ⟨a, b, c, d, e, f⟩
def EntM (Y : JM) (j w : Nat) (a b c : Int32) : Prop := Y 202 (4 * j) = rcT w ∧ (w < 11 → Y 202 (4 * j + 1) = a) ∧ (7 ≤ w → w < 10 → Y 202 (4 * j + 2) = b) ∧ (w = 7 → Y 202 (4 * j + 3) = c)
def ResM (L : Nat → Int32) (t : Nat) (X Y : JM) (j n k : Nat) (g : Int32) (r : Sum Nat (Nat × Int32 × Int32 × Int32 × Nat)) : Prop := FrM X Y ∧ match r with
  | .inl fp => g = 0 ∧ Y 198 18 = N fp
  | .inr (w, a, b, c, q) => g = 1 ∧ AtT Y L t q ∧ Y 198 6 = N (j + 1) ∧ Y 198 20 = N (nxn w n) ∧ Y 198 21 = N (nxk w k) ∧ EntM Y j w a b c ∧ ∀ m, m < 4 * j → Y 202 m = X 202 m
/-- what the numbers of a clause change -/
def FrA (j : Nat) (X Z : JM) : Prop := (∀ o, o ≠ 198 → o ≠ 202 → Z o = X o) ∧ (∀ m, ¬ (17 ≤ m ∧ m ≤ 19) → Z 198 m = X 198 m) ∧ ∀ m, m ≤ 4 * j → Z 202 m = X 202 m
theorem m_fin {X Z M7 : JM} {j n k w : Nat} (hw : w < 13) (e1 : f131 198 X = some M7) (h6 : M7 198 6 = N j) (hj : j < 14) (e2 : f139 198 (rcT w) (jup M7 202 (4 * j) (rcT w)) = some (1, Z)) (z20 : Z 198 20 = N n) (z21 : Z 198 21 = N k) (z6 : Z 198 6 = N j) : f140_44 198 (rcT w) X = some (1, jup (jup (jup Z 198 20 (N (nxn w n))) 198 21 (N (nxk w k))) 198 6 (N (j + 1))) := by
  have e4 : (4 : Int32) * N j = N (4 * j) := by rw [show (4 : Int32) = N 4 from rfl, N_mul]
  obtain ⟨r1, r2, r3, r4, r5, r6⟩ := r_ne hw
  have c137 : ∀ v Y, Y 198 6 = N j → f140_137 198 v 198 Y = some (1, jup (jup Y 198 21 v) 198 6 (N (j + 1))) := fun v Y hY => by
    unfold f140_137
    rw [Option.bind_some, jup_nk (by omega), hY, N_succ]
    rfl
  have c99 : ∀ v, v = N (nxn w n) → f140_99 198 (rcT w) v 198 Z = some (1, jup (jup (jup Z 198 20 (N (nxn w n))) 198 21 (N (nxk w k))) 198 6 (N (j + 1))) := fun v hv => by
    obtain ⟨Y, hY⟩ : ∃ Y, Y = jup Z 198 20 v := ⟨_, rfl⟩
    have y6 : Y 198 6 = N j := by rw [hY, jup_nk (by omega)]; exact z6
    have y21 : Y 198 21 = N k := by rw [hY, jup_nk (by omega)]; exact z21
    unfold f140_99 f140_113
    rw [Option.bind_some, ← hY, c137 0 Y y6, c137 _ Y y6, c137 _ Y y6, y21, r_137 hw, ← hv, ← hY]
    by_cases w11 : w = 11
    · rw [if_pos (r2.mpr w11), show nxk w k = 0 by rw [w11]; rfl]; rfl
    · rw [if_neg (fun q => w11 (r2.mp q))]
      by_cases w12 : w = 12
      · rw [if_pos (r3.mpr w12), show nxk w k = 0 by rw [w12]; rfl]; rfl
      · rw [if_neg (fun q => w12 (r3.mp q)), Option.bind_some]
        by_cases w4 : w < 4
        · rw [decide_eq_true w4, if_neg (show ¬ b2 true = 0 by decide), N_succ, show nxk w k = k + 1 by unfold nxk; rw [if_pos w4]]
        · rw [decide_eq_false w4, if_pos (show b2 false = 0 from rfl), show nxk w k = k by unfold nxk; rw [if_neg w4, if_pos (by omega)]]
  unfold f140_44
  rw [e1, Option.bind_some, h6, e4, mp_5, sa_202 (by omega), Option.bind_some, e2, Option.bind_some]
  dsimp only
  rw [if_neg (show ¬ (1 : Int32) = 0 by decide), z20, r_138 hw]
  by_cases w11 : w = 11
  · rw [if_pos (r2.mpr w11)]
    exact c99 0 (by rw [w11]; rfl)
  · rw [if_neg (fun q => w11 (r2.mp q)), Option.bind_some]
    by_cases w7 : 4 ≤ w ∧ w < 7
    · rw [decide_eq_true w7, if_neg (show ¬ b2 true = 0 by decide), N_succ]
      exact c99 _ (by unfold nxn; rw [if_neg (by omega), if_pos w7.2])
    · rw [decide_eq_false w7, if_pos (show b2 false = 0 from rfl)]
      refine c99 _ ?_
      unfold nxn
      by_cases w4 : w < 4
      · rw [if_pos w4]
      · rw [if_neg w4, if_neg (by omega), if_neg w11]
theorem m_out0 {X Z M7 : JM} {j w : Nat} (e1 : f131 198 X = some M7) (h6 : M7 198 6 = N j) (hj : j < 14) (e2 : f139 198 (rcT w) (jup M7 202 (4 * j) (rcT w)) = some (0, Z)) : f140_44 198 (rcT w) X = some (0, Z) := by
  have e4 : (4 : Int32) * N j = N (4 * j) := by rw [show (4 : Int32) = N 4 from rfl, N_mul]
  unfold f140_44
  rw [e1, Option.bind_some, h6, e4, mp_5, sa_202 (by omega), Option.bind_some, e2, Option.bind_some]
  rfl
end MC
