/-! PURE: truths, by the class -/
theorem row_mk : Row (jpt 181 5) 191 8 := rowb_ok (by decide +kernel)
theorem row_ft : Row (jpt 181 7) 193 6 := rowb_ok (by decide +kernel)
theorem row_ev : Row (jpt 181 8) 195 4 := rowb_ok (by decide +kernel)
def mks (n : Nat) (bo mo fa cy : Nat → Int32) (k : Nat) (y : Int32) (a b : Nat) : Int32 := itr (fun c s => s ||| (if mkQ n bo mo fa cy y a b c = true then B c else 0)) 0 k 0
theorem bt_mks {n k a b c : Nat} {bo mo fa cy : Nat → Int32} {y : Int32} (hk : k ≤ 6) : bt (mks n bo mo fa cy k y a b) c = (decide (c < k) && mkQ n bo mo fa cy y a b c) := by
  have e := bt_orI (q := fun c => mkQ n bo mo fa cy y a b c) (s0 := 0) k c (by omega)
  rw [bt_zero, Bool.false_or] at e
  exact e
theorem c_mks {X : JM} {n k a b : Nat} {y : Int32} (h0 : X 19 0 = N n) (hn9 : n ≤ 9) (hk : X 19 1 = N k) (hk6 : k ≤ 6) (hp : ∀ p, p < n → okn n (X 25 p) ∧ okn n (X 27 p)) (ha : a < 31) (hb : b < 31) : f23 X 19 (N a) (N b) y = some (mks n (X 23) (X 25) (X 27) (X 33) k y a b) := by
  unfold f23
  refine (loop_run (F := fun f c s => f23_6 X f 19 (N a) (N b) y s (N c)) (K := k) (f := fun c s => s ||| (if mkQ n (X 23) (X 25) (X 27) (X 33) y a b c = true then B c else 0)) (out := fun s => some s) (P := fun _ _ => True) (fun f c s hc _ => ⟨?_, trivial⟩) (fun f s _ => ?_) k 0 0 1000 (by omega) (by omega) trivial).1
  · show f23_6 X (f + 1) 19 (N a) (N b) y s (N c) = f23_6 X f 19 (N a) (N b) y (s ||| (if mkQ n (X 23) (X 25) (X 27) (X 33) y a b c = true then B c else 0)) (N (c + 1))
    rw [f23_6, hk, if_pos ((N_lt (by omega) (by omega)).mpr hc), get_in cok_19.2.2.2.2.2.2 (show c < 6 by omega), Option.bind_some, c_all (a := a) cok_19 h0 hn9 hp ha, Option.bind_some, has_N hb, Option.bind_some, bit_N (show c < 31 by omega), Option.bind_some]
    unfold f23_56 mkQ
    rw [N_succ]
    show (if y < X 33 c then _ else if b2 (bt (rch n (X 23) (X 25) (X 27) (X 33 c) a n) b) = 0 then _ else _) = _
    by_cases hy : y < X 33 c
    · rw [if_pos hy, decide_eq_true hy, Bool.not_true, Bool.false_and, if_neg (by decide), Int32.or_zero]
    · rw [if_neg hy, decide_eq_false hy, Bool.not_false, Bool.true_and]
      cases bt (rch n (X 23) (X 25) (X 27) (X 33 c) a n) b with
      | false => rw [if_pos (show b2 false = 0 from rfl), if_neg (by decide), Int32.or_zero]
      | true => rw [if_neg (show ¬ b2 true = 0 by decide), if_pos rfl]
  · show f23_6 X (f + 1) 19 (N a) (N b) y s (N k) = some s
    rw [f23_6, hk, if_neg (fun q => Nat.lt_irrefl _ ((N_lt (by omega) (by omega)).mp q))]
theorem c_wys {X : JM} {k : Nat} {e : Nat → Bool} (hk : X 19 1 = N k) (hk6 : k ≤ 6) (he : ∀ c, c < k → decide (X 31 c = 3) = e c) : f28 X 19 = some (N (wys e k)) := by
  unfold f28
  have key : ∀ (d c f : Nat), c + d = k → d < f → f28_4 X f 19 (N (wys e c)) (N c) = some (N (wys e k)) := by
    intro d
    induction d with
    | zero =>
      intro c f hc hf
      obtain ⟨f, rfl⟩ : ∃ g, f = g + 1 := ⟨f - 1, by omega⟩
      have e1 : c = k := hc
      subst e1
      rw [f28_4, hk, if_neg (fun q => Nat.lt_irrefl _ ((N_lt (by omega) (by omega)).mp q))]
    | succ d ih =>
      intro c f hc hf
      obtain ⟨f, rfl⟩ : ∃ g, f = g + 1 := ⟨f - 1, by omega⟩
      have e1 := ih (c + 1) f (by omega) (by omega)
      rw [f28_4, hk, if_pos ((N_lt (by omega) (by omega)).mpr (by omega)), get_in cok_19.2.2.2.2.2.1 (show c < 6 by omega), Option.bind_some]
      unfold f28_30
      rw [N_succ, show X (19 + 12) c = X 31 c from rfl, ← e1]
      have ew : wys e (c + 1) = wys e c * (if e c = true then 1 else 3) := rfl
      rw [ew, ← he c (by omega)]
      by_cases h3 : X 31 c = 3
      · rw [if_pos h3, if_pos (decide_eq_true h3), show (1 : Int32) = N 1 from rfl, N_mul]
      · rw [if_neg h3, if_neg (fun z => h3 (of_decide_eq_true z)), show (3 : Int32) = N 3 from rfl, N_mul]
  exact key k 0 1000 (by omega) (by omega)
theorem kwM_rng {M : JM} {k w c : Nat} : rng 4 (kwM M k w c) := by
  unfold kwM
  by_cases h : M 208 c = 3
  · rw [if_pos h]; exact ⟨3, by omega, rfl⟩
  · rw [if_neg h]
    have := kvl_lt (e := fun c => decide (M 208 c = 3)) k w c
    exact ⟨_, by omega, rfl⟩
theorem kwM_3 {M : JM} {k w c : Nat} : decide (kwM M k w c = 3) = decide (M 208 c = 3) := by
  unfold kwM
  by_cases h : M 208 c = 3
  · rw [if_pos h, decide_eq_true h]; rfl
  · rw [if_neg h, decide_eq_false h]
    have := kvl_lt (e := fun c => decide (M 208 c = 3)) k w c
    exact decide_eq_false (fun z => absurd ((N_eq (b := 3) (by omega) (by omega)).mp z) (by omega))
/-- what stands while the ways go by -/
def Cbs (M E : JM) (n k h : Nat) : Prop := E 19 0 = N n ∧ E 19 1 = N k ∧ E 19 10 = M 4 10 ∧ E 19 11 = M 4 11 ∧ E 181 0 = N h ∧ E 181 9 = N k ∧ (∀ o, (183 ≤ o ∧ o ≤ 189) → E o = M o) ∧ ∀ i, i < h → E 191 i = mks n (M 204) (M 205) (M 206) (M 209) k (M 187 i) (M 183 i).toNatClampNeg (M 185 i).toNatClampNeg
def CWt (M E : JM) (k : Nat) (ok : Nat → Bool) (kw : Nat → Nat → Int32) (v : Nat) (X : JM) : Prop := (∀ o, o ≠ 19 → o ≠ 31 → o ≠ 181 → o ≠ 193 → o ≠ 195 → X o = E o) ∧ (∀ j, j ≠ 12 → j ≠ 13 → X 19 j = E 19 j) ∧ (∀ j, j ≠ 6 → X 181 j = E 181 j) ∧ X 181 6 = N (tcn ok v).1 ∧ ((tcn ok v).1 ≠ 0 → ∀ c, c < k → X 193 c = kw (tcn ok v).2 c) ∧ (∀ j, j < 4 → ∀ c, bt (X 195 j) c = (decide (c < k) && tev ok kw (N j) c v)) ∧ ∀ c, c < k → decide (X 31 c = 3) = decide (M 208 c = 3) ∧ (M 208 c = 3 → X 31 c = 3)
section CW
variable {M E : JM} {n k h : Nat}
def fA (M : JM) (f : Nat) : Nat := (M 183 f).toNatClampNeg
def fB (M : JM) (f : Nat) : Nat := (M 185 f).toNatClampNeg
theorem c_fit {X : JM} {v : Nat} (h1 : Ctr M 4 n k) (h2 : Agr M 4 n k) (h6 : ∀ i, i < h → (∃ a b, a < n ∧ b < n ∧ a ≠ b ∧ M 183 i = N a ∧ M 185 i = N b) ∧ rng 2 (M 189 i)) (hh : h ≤ 8) (hE : Cbs M E n k h) (x10 : X 19 10 = M 4 10) (x181 : X 181 0 = N h) (xr : ∀ o, (183 ≤ o ∧ o ≤ 189) → X o = M o) (x191 : ∀ i, i < h → X 191 i = E 191 i) (xs : ∀ s c, bt (if s = true then X 19 13 else X 19 12) c = (decide (c < k) && sees k (kwM M k v) (M 209) tt s c)) : f30 X 181 19 = some (b2 (okV M n k h (fA M) (fB M) (M 187) (M 189) v)) := by
  have hn9 := h1.2.1
  have hk6 := h1.2.2.2.1
  obtain ⟨_, _, _, _, _, _, _, q8⟩ := hE
  have hb : ∀ p, p < n → ¬ M 204 p < 0 := fun p hp => by rw [← h2.2.2.2.2.1 p hp]; exact h1.2.2.2.2.2.1 p hp
  have hp : ∀ p, p < n → okn n (M 205 p) ∧ okn n (M 206 p) := fun p hp => by rw [← h2.2.2.2.2.2.1 p hp, ← h2.2.2.2.2.2.2.1 p hp]; exact h1.2.2.2.2.1 p hp
  unfold f30 okV
  have key : ∀ (d i f : Nat), i + d = h → d < f → f30_2 X f 181 19 (N i) = some (b2 (fits (fun f => kinV M n k (kwM M k v) (fA M f) (fB M f) (M 187 f) == decide (M 189 f = 1)) d i)) := by
    intro d
    induction d with
    | zero =>
      intro i f hi hf
      obtain ⟨f, rfl⟩ : ∃ g, f = g + 1 := ⟨f - 1, by omega⟩
      have e : i = h := hi
      subst e
      rw [f30_2, x181, if_neg (fun q => Nat.lt_irrefl _ ((N_lt (by omega) (by omega)).mp q))]
      rfl
    | succ d ih =>
      intro i f hi hf
      obtain ⟨f, rfl⟩ : ∃ g, f = g + 1 := ⟨f - 1, by omega⟩
      obtain ⟨⟨a, b, ha, hb2, hab, ea, eb⟩, j, hj, ej⟩ := h6 i (by omega)
      have i8 : i < 8 := by omega
      have eA : fA M i = a := by unfold fA; rw [ea, N_nat (by omega)]
      have eB : fB M i = b := by unfold fB; rw [eb, N_nat (by omega)]
      rw [f30_2, x181, if_pos ((N_lt (by omega) (by omega)).mpr (by omega)), get_in row_f1 i8, Option.bind_some, xr 183 (by omega), ea, c_seen (by omega), Option.bind_some, get_in row_f2 i8, Option.bind_some, xr 185 (by omega), eb, c_seen (by omega), Option.bind_some, get_in row_mk i8, Option.bind_some, x191 i (by omega), q8 i (by omega)]
      unfold f30_54
      rw [get_in row_f4 i8, Option.bind_some, xr 189 (by omega), N_succ, ih (i + 1) f (by omega) (by omega), x10, seer_ok h1 h2 ha, seer_ok h1 h2 hb2]
      have eA2 : (M 183 i).toNatClampNeg = a := eA
      have eB2 : (M 185 i).toNatClampNeg = b := eB
      rw [eA2, eB2]
      have hkin : (((if decide (M 203 a = 1) = true then X 19 13 else X 19 12) &&& (if decide (M 203 b = 1) = true then X 19 13 else X 19 12)) &&& mks n (M 204) (M 205) (M 206) (M 209) k (M 187 i) a b = 0) ↔ kinV M n k (kwM M k v) a b (M 187 i) = false := by
        have q1 := kin_mk (k := k) (cy := M 209) (y := M 187 i) (S := snB k (kwM M k v) (M 209) tt (decide (M 203 a = 1)) (decide (M 203 b = 1))) hn9 ha hab hp hb
        have q2 := and_nz (s := ((if decide (M 203 a = 1) = true then X 19 13 else X 19 12) &&& (if decide (M 203 b = 1) = true then X 19 13 else X 19 12))) (t := mks n (M 204) (M 205) (M 206) (M 209) k (M 187 i) a b)
        have q3 : (∃ c, bt ((if decide (M 203 a = 1) = true then X 19 13 else X 19 12) &&& (if decide (M 203 b = 1) = true then X 19 13 else X 19 12)) c = true ∧ bt (mks n (M 204) (M 205) (M 206) (M 209) k (M 187 i) a b) c = true) ↔ kinV M n k (kwM M k v) a b (M 187 i) = true := by
          unfold kinV
          rw [q1]
          constructor
          · rintro ⟨c, c1, c2⟩
            rw [bt_and, Bool.and_eq_true, xs, xs, Bool.and_eq_true, Bool.and_eq_true] at c1
            rw [bt_mks hk6, Bool.and_eq_true] at c2
            refine ⟨c, of_decide_eq_true c2.1, ?_, c2.2⟩
            unfold snB
            rw [c1.1.2, c1.2.2]; rfl
          · rintro ⟨c, c1, c2, c3⟩
            unfold snB at c2
            rw [Bool.and_eq_true] at c2
            refine ⟨c, ?_, by rw [bt_mks hk6, decide_eq_true c1, c3]; rfl⟩
            rw [bt_and, xs, xs, decide_eq_true c1, c2.1, c2.2]; rfl
        constructor
        · intro z
          cases hk2 : kinV M n k (kwM M k v) a b (M 187 i) with
          | false => rfl
          | true => exact absurd z (q2.mpr (q3.mpr hk2))
        · intro z
          apply Classical.byContradiction
          intro hne
          rw [q3.mp (q2.mp hne)] at z
          cases z
      show _ = some (b2 ((kinV M n k (kwM M k v) (fA M i) (fB M i) (M 187 i) == decide (M 189 i = 1)) && fits _ d (i + 1)))
      rw [eA, eB]
      have hI : (M 189 i = 0 ∧ decide (M 189 i = 1) = false) ∨ (M 189 i = 1 ∧ decide (M 189 i = 1) = true) := by
        rcases (show j = 0 ∨ j = 1 by omega) with rfl | rfl
        · exact Or.inl ⟨ej, by rw [ej]; decide⟩
        · exact Or.inr ⟨ej, by rw [ej]; decide⟩
      cases hk2 : kinV M n k (kwM M k v) a b (M 187 i) with
      | false =>
        rw [if_pos (hkin.mpr hk2)]
        rcases hI with ⟨i1, i2⟩ | ⟨i1, i2⟩
        · rw [i2, if_pos i1.symm]; rfl
        · rw [i2, if_neg (by rw [i1]; decide)]; rfl
      | true =>
        rw [if_neg (fun z => by rw [hkin.mp z] at hk2; cases hk2), Option.bind_some]
        rcases hI with ⟨i1, i2⟩ | ⟨i1, i2⟩
        · rw [i2, if_neg (by rw [i1]; decide)]; rfl
        · rw [i2, if_pos i1.symm]; rfl
  exact key h 0 1000 (by omega) (by omega)
theorem c_ever {ok : Nat → Bool} {X2 : JM} {v : Nat} (hok : ok v = true) (hk6 : k ≤ 6) (h9 : X2 181 9 = N k) (h31 : ∀ c, c < k → X2 31 c = kwM M k v c) : ∀ (d c f : Nat) (Y : JM), c + d = k → d < f → (∀ o, o ≠ 195 → Y o = X2 o) → (∀ j, j < 4 → ∀ i, bt (Y 195 j) i = (decide (i < k) && (if i < c then tev ok (kwM M k) (N j) i (v + 1) else tev ok (kwM M k) (N j) i v))) → ∃ Z, f31_30 f 181 19 (N c) Y = some Z ∧ (∀ o, o ≠ 195 → Z o = X2 o) ∧ ∀ j, j < 4 → ∀ i, bt (Z 195 j) i = (decide (i < k) && tev ok (kwM M k) (N j) i (v + 1))
  | _, _, 0, _, _, hf, _, _ => absurd hf (Nat.not_lt_zero _)
  | 0, c, f + 1, Y, hc, _, y1, y2 => by
    have e : c = k := hc
    subst e
    rw [f31_30, y1 181 (by decide), h9, if_neg (fun q => Nat.lt_irrefl _ ((N_lt (by omega) (by omega)).mp q))]
    refine ⟨Y, rfl, y1, fun j hj i => ?_⟩
    rw [y2 j hj i]
    by_cases hi : i < c
    · rw [if_pos hi]
    · rw [decide_eq_false hi]; rfl
  | d + 1, c, f + 1, Y, hc, hf, y1, y2 => by
    have hck : c < k := by omega
    obtain ⟨j0, hj0, ej0⟩ := kwM_rng (M := M) (k := k) (w := v) (c := c)
    have ev : ∀ j, tev ok (kwM M k) (N j) c (v + 1) = (tev ok (kwM M k) (N j) c v || decide (kwM M k v c = N j)) := fun j => by
      show (tev ok (kwM M k) (N j) c v || (ok v && decide (kwM M k v c = N j))) = _
      rw [hok, Bool.true_and]
    obtain ⟨Z, e, z1, z2⟩ := c_ever hok hk6 h9 h31 d (c + 1) f (jup Y 195 j0 (Y 195 j0 ||| B c)) (by omega) (by omega) (fun o ho => by rw [jup_o ho, y1 o ho]) (fun j hj i => by
      rw [jup_at]
      have base := y2 j hj i
      by_cases ej : j = j0
      · rw [if_pos ⟨rfl, ej⟩, bt_orB (by omega), ← ej, base]
        by_cases ei : i = c
        · rw [ei, decide_eq_true (rfl : c = c), Bool.or_true, decide_eq_true hck, if_pos (by omega), ev, ej0, ej, decide_eq_true (rfl : N j0 = N j0), Bool.or_true]; rfl
        · rw [decide_eq_false ei, Bool.or_false]
          by_cases hi : i < c
          · rw [if_pos hi, if_pos (by omega)]
          · rw [if_neg hi, if_neg (by omega)]
      · rw [if_neg (fun z => ej z.2), base]
        by_cases ei : i = c
        · rw [ei, if_neg (Nat.lt_irrefl _), if_pos (by omega), ev, ej0, decide_eq_false (fun z => ej ((N_eq (by omega) (by omega)).mp z).symm), Bool.or_false]
        · by_cases hi : i < c
          · rw [if_pos hi, if_pos (by omega)]
          · rw [if_neg hi, if_neg (by omega)])
    refine ⟨Z, ?_, z1, z2⟩
    rw [f31_30, y1 181 (by decide), h9, if_pos ((N_lt (by omega) (by omega)).mpr hck), get_in cok_19.2.2.2.2.2.1 (show c < 6 by omega), Option.bind_some, show Y (19 + 12) c = Y 31 c from rfl, y1 31 (by decide), h31 c hck, ej0, get_in row_ev hj0, Option.bind_some, bit_N (by omega), Option.bind_some, set_in row_ev hj0, Option.bind_some, N_succ]
    exact e
end CW
