/-! PURE: left -/
def jM0 : JM := fun _ _ => 0
theorem lf_C {M : JM} : ∀ (f : Nat) (a b c : Int32) (x : Int64) (d : Int32), f97_84 M f a b c x d = f97_84 jM0 f a b c x d
  | 0, _, _, _, _, _ => rfl
  | f + 1, a, b, c, x, d => by
    rw [f97_84, f97_84, show f97_84 M f = f97_84 jM0 f from funext (fun a => funext (fun b => funext (fun c => funext (fun x => funext (fun d => lf_C f a b c x d)))))]
    rfl
def lfz (M : JM) (o : Option (Int64 × JM)) : Option (Int64 × JM) := match o with
  | none => none
  | some z => some (z.1, M)
theorem lfz_b {M : JM} {o : Option Int64} {g : Int64 → Option (Int64 × JM)} : lfz M (o.bind g) = o.bind (fun v => lfz M (g v)) := by cases o <;> rfl
theorem lfz_i {M : JM} {c : Prop} {dec : Decidable c} {x y : Option (Int64 × JM)} : lfz M (if c then x else y) = if c then lfz M x else lfz M y := by
  by_cases h : c
  · rw [if_pos h, if_pos h]
  · rw [if_neg h, if_neg h]
theorem lf_M {M : JM} : ∀ (f : Nat) (a b c d : Int32) (x y : Int64) (e : Int32), f204_84 f a b c d x y e M = lfz M (f204_84 f a b c d x y e jM0)
  | 0, _, _, _, _, _, _, _ => rfl
  | f + 1, a, b, c, d, x, y, e => by
    rw [f204_84, f204_84]
    unfold f204_127
    simp only [lfz_b, lfz_i, ← lf_M f]
    rfl
def lfc (n p q kin : Nat) : Option Int64 := f97_84 jM0 1000 (N p) (N q) (N kin) (0 : Int64) (N n)
def lfm (n p q kin : Nat) : Option Int64 := (f204_84 1000 (N n) (N p) (N q) (N kin) (0 : Int64) (1 : Int64) (0 : Int32) jM0).map Prod.fst
def lft (kin : Nat) : Bool := (List.range 9).all (fun n => (List.range 11).all (fun p => (List.range 2).all (fun q => lfc n p q kin == lfm n p q kin && (lfc n p q kin).isSome)))
set_option maxRecDepth 100000 in
theorem lft_0 : lft 0 = true := by decide +kernel
set_option maxRecDepth 100000 in
theorem lft_1 : lft 1 = true := by decide +kernel
set_option maxRecDepth 100000 in
theorem lft_2 : lft 2 = true := by decide +kernel
set_option maxRecDepth 100000 in
theorem lft_3 : lft 3 = true := by decide +kernel
set_option maxRecDepth 100000 in
theorem lft_4 : lft 4 = true := by decide +kernel
set_option maxRecDepth 100000 in
theorem lft_5 : lft 5 = true := by decide +kernel
set_option maxRecDepth 100000 in
theorem lft_6 : lft 6 = true := by decide +kernel
set_option maxRecDepth 100000 in
theorem lft_7 : lft 7 = true := by decide +kernel
set_option maxRecDepth 100000 in
theorem lft_8 : lft 8 = true := by decide +kernel
theorem lf_all {n p q kin : Nat} (hn : n < 9) (hp : p < 11) (hq : q < 2) (hk : kin < 9) (M : JM) : ∃ x, f97_84 M 1000 (N p) (N q) (N kin) (0 : Int64) (N n) = some x ∧ f204_84 1000 (N n) (N p) (N q) (N kin) (0 : Int64) (1 : Int64) (0 : Int32) M = some (x, M) := by
  have h : lft kin = true := by
    rcases (show kin = 0 ∨ kin = 1 ∨ kin = 2 ∨ kin = 3 ∨ kin = 4 ∨ kin = 5 ∨ kin = 6 ∨ kin = 7 ∨ kin = 8 by omega) with rfl | rfl | rfl | rfl | rfl | rfl | rfl | rfl | rfl
    · exact lft_0
    · exact lft_1
    · exact lft_2
    · exact lft_3
    · exact lft_4
    · exact lft_5
    · exact lft_6
    · exact lft_7
    · exact lft_8
  have h2 := List.all_eq_true.mp (List.all_eq_true.mp (List.all_eq_true.mp h n (List.mem_range.mpr hn)) p (List.mem_range.mpr hp)) q (List.mem_range.mpr hq)
  rw [Bool.and_eq_true] at h2
  have e := eq_of_beq h2.1
  rw [lf_C, lf_M]
  have e3 : ∃ x, lfc n p q kin = some x := by
    cases hx : lfc n p q kin with
    | none => rw [hx] at h2; cases h2.2
    | some x => exact ⟨x, rfl⟩
  obtain ⟨x, hx⟩ := e3
  refine ⟨x, hx, ?_⟩
  rw [hx] at e
  unfold lfm at e
  generalize f204_84 1000 (N n) (N p) (N q) (N kin) (0 : Int64) (1 : Int64) (0 : Int32) jM0 = o at e
  cases o with
  | none => cases e
  | some z =>
    have : x = z.1 := Option.some.inj e
    rw [this]; rfl
theorem lf_fin {n p q kin : Nat} (hn : n < 9) (hp : p < 11) (hq : q < 2) (hk : kin < 9) (M X2 : JM) : ∃ x, f97_84 M 1000 (N p) (N q) (N kin) (0 : Int64) (N n) = some x ∧ f204_84 1000 (N n) (N p) (N q) (N kin) (0 : Int64) (1 : Int64) (0 : Int32) X2 = some (x, X2) := by
  obtain ⟨x, c1, c2⟩ := lf_all hn hp hq hk M
  obtain ⟨x2, c3, c4⟩ := lf_all hn hp hq hk X2
  have ex : x = x2 := by
    rw [lf_C] at c1 c3
    exact Option.some.inj (c1.symm.trans c3)
  exact ⟨x, c1, by rw [ex]; exact c4⟩
theorem crd_8 {s : Int32} {a : Nat} (ha : a < 9) (h : bt s a = false) : crd s 9 < 9 := by
  have h0 : sb s (-1) := fun j hj => by
    by_cases hj2 : j < 32
    · exact bt_m1 hj2
    · rw [bt_ge (by omega)] at hj; cases hj
  have := crd_lt h0 h (bt_m1 (by omega)) 9 ha
  have := crd_le (s := -1) 9
  omega
theorem t_left {M : JM} {v w y z : Int32} (h : Inv M) : ∃ x M2, f97 M 0 v w y z = some x ∧ f204 198 v w y z M = some (x, M2) ∧ Inv M2 := by
  have hI := h
  obtain ⟨n, k, h1, h2, h3, h4, h5, h6, h7, h8, h9⟩ := h
  have hn9 : n ≤ 9 := h1.2.1
  unfold f97 f204
  rw [xp_1, xp_3, c_one h1.1, m_one h2.1 (by omega), show (0 : Int64) = (0 : Int32).toInt64 from rfl, show (8 : Int64) = (8 : Int32).toInt64 from rfl, show (10 : Int64) = (10 : Int32).toInt64 from rfl, show (1 : Int64) = (1 : Int32).toInt64 from rfl, in_ok, in_ok, in_ok, mp_0, la_0, show M 199 0 = M 34 0 from h5.1.1.symm]
  rw [show (0 : Int32).toInt64 = (0 : Int64) from rfl, show (1 : Int32).toInt64 = (1 : Int64) from rfl]
  simp only [Option.bind_some, b2_0]
  cases hv : isN n v with
  | false => exact ⟨-2, M, rfl, rfl, hI⟩
  | true =>
    obtain ⟨a, ha, rfl⟩ := isN_t (by omega) hv
    simp only [Bool.true_eq_false, if_false]
    by_cases w0 : w < 0
    · rw [if_pos w0, decide_eq_true w0]; exact ⟨-3, M, rfl, rfl, hI⟩
    · obtain ⟨i, hi, rfl⟩ := N_of w0
      rw [if_neg w0, decide_eq_false w0]
      by_cases i9 : i < 9
      · rw [if_pos (show N i < (9 : Int32) from (N_lt (b := 9) hi (by omega)).mpr i9), decide_eq_false (show ¬ (8 : Int32) < N i from fun q => absurd ((N_lt (a := 8) (by omega) hi).mp q) (by omega))]
        simp only [Bool.not_false, Bool.and_self, Bool.true_eq_false, if_false]
        by_cases y0 : y < 0
        · rw [if_pos y0, decide_eq_true y0]; exact ⟨-3, M, rfl, rfl, hI⟩
        · obtain ⟨p, hp, rfl⟩ := N_of y0
          rw [if_neg y0, decide_eq_false y0]
          by_cases p10 : (10 : Int32) < N p
          · rw [if_pos p10, decide_eq_true p10]; exact ⟨-3, M, rfl, rfl, hI⟩
          · have p11 : p < 11 := by
              apply Classical.byContradiction
              intro q
              exact p10 ((N_lt (a := 10) (by omega) hp).mpr (by omega))
            rw [if_neg p10, decide_eq_false p10]
            simp only [Bool.not_false, Bool.and_self, Bool.true_eq_false, if_false]
            by_cases z0 : z < 0
            · rw [if_pos z0, decide_eq_true z0]; exact ⟨-3, M, rfl, rfl, hI⟩
            · obtain ⟨r, hr, rfl⟩ := N_of z0
              rw [if_neg z0, decide_eq_false z0]
              by_cases z1 : (1 : Int32) < N r
              · rw [if_pos z1, decide_eq_true z1]; exact ⟨-3, M, rfl, rfl, hI⟩
              · have r2 : r < 2 := by
                  apply Classical.byContradiction
                  intro q
                  exact z1 ((N_lt (a := 1) (by omega) hr).mpr (by omega))
                rw [if_neg z1, decide_eq_false z1]
                simp only [Bool.not_false, Bool.and_self, Bool.true_eq_false, if_false]
                obtain ⟨X2, e, s⟩ := m_kin (y := M 34 0) (rfk_of h1 h2) (Sm.refl (M := M)) ha
                rw [c_kin cok_4 h1 ha, e, kinS_congr (D := fun j => (md M n k a j (M 34 0)).isSome) (E := fun j => (dg M 4 n k a j (M 34 0)).isSome) (fun j hj => by rw [md_dg h1 h2 h4 ha hj])]
                rw [Option.bind_some, Option.bind_some, la_10, Option.bind_some]
                dsimp only
                rw [s 199 (by decide), show M 199 10 = M 34 1 from h5.2.1.1.symm]
                have hb : bnd n (kinS n a (fun j => (dg M 4 n k a j (M 34 0)).isSome) &&& M 34 1) := fun j hj => by
                  rw [bt_and, Bool.and_eq_true] at hj
                  exact h5.2.1.2 j hj.2
                have hz : bt (kinS n a (fun j => (dg M 4 n k a j (M 34 0)).isSome) &&& M 34 1) a = false := by
                  rw [bt_and, bt_kinS hn9, decide_eq_true rfl]; simp
                have hc := crd_8 (show a < 9 by omega) hz
                rw [bc_c hn9 hb, bc_m hn9 hb, Option.bind_some, Option.bind_some]
                obtain ⟨x, c1, c4⟩ := lf_fin i9 p11 r2 hc M X2
                exact ⟨x, X2, c1, c4, Inv_same hI s.same⟩
      · rw [if_neg (show ¬ N i < (9 : Int32) from fun q => i9 ((N_lt (b := 9) hi (by omega)).mp q)), decide_eq_true (show (8 : Int32) < N i from (N_lt (a := 8) (by omega) hi).mpr (by omega))]
        exact ⟨-3, M, rfl, rfl, hI⟩
theorem lg_self {x : Int64} : lg_cmp x x = 0 := by
  unfold lg_cmp
  rw [if_neg (fun q => Int.lt_irrefl _ (Int64.lt_iff_toInt_lt.mp q)), if_pos rfl]
theorem blk_999 : Blk f217_999 := fun xs h18 i M hx hi hI => by
  obtain ⟨a, M2, e1, e2, h2⟩ := t_left (v := xs.getD (i + 1) 0) (w := xs.getD (i + 2) 0) (y := xs.getD (i + 3) 0) (z := xs.getD (i + 4) 0) hI
  refine ⟨M2, h2, ?_⟩
  unfold f217_999 f217_1076
  rw [show (1 : Int32) = N 1 from rfl, show (2 : Int32) = N 2 from rfl, show (3 : Int32) = N 3 from rfl, show (4 : Int32) = N 4 from rfl, show (5 : Int32) = N 5 from rfl]
  simp only [N_add, sc_at (show i + 1 < xs.length by omega) hx, sc_at (show i + 2 < xs.length by omega) hx, sc_at (show i + 3 < xs.length by omega) hx, sc_at (show i + 4 < xs.length by omega) hx, Option.bind_some, e1, e2, lg_self, if_true]
