/-! PURE: truths, the calls -/
section CT
variable {M E : JM} {n k h : Nat}
theorem c_way {h80 : Nat → Nat → Int32 → Int32 → JM → Option JM} {all : Int32} {v : Nat} {X : JM} (h1 : Ctr M 4 n k) (h2 : Agr M 4 n k) (h6 : ∀ i, i < h → (∃ a b, a < n ∧ b < n ∧ a ≠ b ∧ M 183 i = N a ∧ M 185 i = N b) ∧ rng 2 (M 189 i)) (hh : h ≤ 8) (hE : Cbs M E n k h) (hv : v < 730) (hX : CWt M E k (okV M n k h (fA M) (fB M) (M 187) (M 189)) (kwM M k) v X) : ∃ X2, ((f29 19 (N v) X).bind fun M12 => ((f30 M12 181 19).bind fun v13 => (if v13 = (0 : Int32) then (f27_103 h80 181 19 all (N v) M12) else ((f31 181 19 M12).bind fun M15 => (f27_103 h80 181 19 all (N v) M15))))) = h80 181 19 all (N v + 1) X2 ∧ CWt M E k (okV M n k h (fA M) (fB M) (M 187) (M 189)) (kwM M k) (v + 1) X2 := by
  have hk6 := h1.2.2.2.1
  obtain ⟨x1, x2, x3, x4, x5, x6, x7⟩ := hX
  have hE0 := hE
  obtain ⟨q1, q2, q3, q4, q5, q6, q7, q8⟩ := hE
  obtain ⟨X1, hX1⟩ : ∃ X1, X1 = jrset X 31 (lyr (fun c => decide (M 208 c = 3)) k v (X 31)) := ⟨_, rfl⟩
  have xo : ∀ o, o ≠ 31 → X1 o = X o := fun o ho => by rw [hX1, jrset_o ho]
  have x31 : ∀ c, c < k → X1 31 c = kwM M k v c := fun c hc => by
    rw [hX1, jrset_s]
    exact kw_at hc (x7 c hc).2
  have k1 : X1 19 1 = N k := by rw [xo 19 (by decide), x2 1 (by omega) (by omega)]; exact q2
  have hsi := c_sight (M := X1) cok_19 k1 hk6
  obtain ⟨X2, hX2⟩ : ∃ X2, X2 = jup (jup X1 19 12 (sightI k (X1 (19 + 12)) (X1 19 11) false)) 19 13 (sightI k (X1 (19 + 12)) (X1 19 11) true) := ⟨_, rfl⟩
  rw [← hX2] at hsi
  have y1 : ∀ o, o ≠ 19 → X2 o = X1 o := fun o ho => by rw [hX2, jup_o ho, jup_o ho]
  have y19 : ∀ j, j ≠ 12 → j ≠ 13 → X2 19 j = E 19 j := fun j a b => by rw [hX2, jup_nk (by omega), jup_nk (by omega), xo 19 (by decide), x2 j a b]
  have y31 : ∀ c, c < k → X2 31 c = kwM M k v c := fun c hc => by rw [y1 31 (by decide)]; exact x31 c hc
  have x11 : X1 19 11 = M 4 11 := by rw [xo 19 (by decide), x2 11 (by omega) (by omega)]; exact q4
  have yo : ∀ o, o ≠ 19 → o ≠ 31 → X2 o = X o := fun o a b => by rw [y1 o a, xo o b]
  have hcz : ∀ c, bt (M 4 11) c = canc k (kwM M k v) (M 209) tt c := fun c => by
    rw [h1.2.2.2.2.2.2.2.1 c, canc_congr (ck2 := M 208) (cy2 := M 209) (th2 := tt) (fun c hc => h2.2.2.2.2.2.2.2.2.1 c hc) (fun c hc => h2.2.2.2.2.2.2.2.2.2 c hc) (fun _ _ => rfl)]
    exact canc_kind (fun c _ => kwM_3.symm)
  have sI : ∀ s c, bt (sightI k (X1 (19 + 12)) (X1 19 11) s) c = (decide (c < k) && sees k (kwM M k v) (M 209) tt s c) := fun s c => by
    rw [bt_sightI hk6, x11, hcz]
    by_cases hc : c < k
    · rw [decide_eq_true hc, show X1 (19 + 12) c = kwM M k v c from x31 c hc]
      unfold sees
      show (true && (!(canc k (kwM M k v) (M 209) tt c) && see (kwM M k v c) s)) = (true && (true && see (kwM M k v c) s && !(canc k (kwM M k v) (M 209) tt c)))
      cases canc k (kwM M k v) (M 209) tt c <;> cases see (kwM M k v c) s <;> rfl
    · rw [decide_eq_false hc]; rfl
  have ys : ∀ s c, bt (if s = true then X2 19 13 else X2 19 12) c = (decide (c < k) && sees k (kwM M k v) (M 209) tt s c) := fun s c => by
    cases s with
    | true => rw [if_pos rfl, hX2, jup_same]; exact sI true c
    | false => rw [if_neg (by decide), hX2, jup_nk (by omega), jup_same]; exact sI false c
  have y181 : ∀ j, j ≠ 6 → X2 181 j = E 181 j := fun j hj => by rw [yo 181 (by decide) (by decide), x3 j hj]
  have hfit := c_fit (X := X2) (v := v) h1 h2 h6 hh hE0 (by rw [y19 10 (by omega) (by omega)]; exact q3) (by rw [y181 0 (by omega)]; exact q5) (fun o ho => by rw [yo o (by omega) (by omega), x1 o (by omega) (by omega) (by omega) (by omega) (by omega), q7 o ho]) (fun i hi => by rw [yo 191 (by decide) (by decide), x1 191 (by decide) (by decide) (by decide) (by decide) (by decide)]) ys
  have e29 : f29 19 (N v) X = some X2 := by
    unfold f29
    rw [x2 1 (by omega) (by omega), q2, c_lay (e := fun c => decide (M 208 c = 3)) k v 1000 _ X hk6 hv (by omega) rfl (fun i hi => (x7 i hi).1), ← hX1, hsi]
    rfl
  rw [e29, Option.bind_some, hfit, Option.bind_some]
  unfold f27_103
  cases hok : okV M n k h (fA M) (fB M) (M 187) (M 189) v with
  | false =>
    rw [if_pos (show b2 false = 0 from rfl)]
    have t1 : tcn (okV M n k h (fA M) (fB M) (M 187) (M 189)) (v + 1) = tcn (okV M n k h (fA M) (fB M) (M 187) (M 189)) v := by
      show (if okV M n k h (fA M) (fB M) (M 187) (M 189) v = true then _ else _) = _
      rw [if_neg (by rw [hok]; decide)]
    have t2 : ∀ j c, tev (okV M n k h (fA M) (fB M) (M 187) (M 189)) (kwM M k) (N j) c (v + 1) = tev (okV M n k h (fA M) (fB M) (M 187) (M 189)) (kwM M k) (N j) c v := fun j c => by
      show (_ || (okV M n k h (fA M) (fB M) (M 187) (M 189) v && _)) = _
      rw [hok, Bool.false_and, Bool.or_false]
    refine ⟨X2, rfl, fun o a b c d e => by rw [yo o a b, x1 o a b c d e], y19, y181, by rw [yo 181 (by decide) (by decide), t1]; exact x4, by rw [yo 193 (by decide) (by decide), t1]; exact x5, fun j hj c => by rw [yo 195 (by decide) (by decide), t2]; exact x6 j hj c, fun c hc => ⟨by rw [y31 c hc, kwM_3], fun z => by rw [y31 c hc]; unfold kwM; rw [if_pos z]⟩⟩
  | true =>
    rw [if_neg (show ¬ b2 true = 0 by decide)]
    have hle := tcn_le (ok := okV M n k h (fA M) (fB M) (M 187) (M 189)) v
    have t1 : tcn (okV M n k h (fA M) (fB M) (M 187) (M 189)) (v + 1) = ((tcn (okV M n k h (fA M) (fB M) (M 187) (M 189)) v).1 + 1, if (tcn (okV M n k h (fA M) (fB M) (M 187) (M 189)) v).1 = 0 then v else (tcn (okV M n k h (fA M) (fB M) (M 187) (M 189)) v).2) := by
      show (if okV M n k h (fA M) (fB M) (M 187) (M 189) v = true then _ else _) = _
      rw [if_pos hok]
    have y6 : X2 181 6 = N (tcn (okV M n k h (fA M) (fB M) (M 187) (M 189)) v).1 := by rw [yo 181 (by decide) (by decide)]; exact x4
    have take : ∀ G : JM, (∀ o, o ≠ 193 → G o = X2 o) → (∀ c, c < k → G 193 c = kwM M k (tcn (okV M n k h (fA M) (fB M) (M 187) (M 189)) (v + 1)).2 c) → ∃ Z, f31_18 181 19 G = some Z ∧ CWt M E k (okV M n k h (fA M) (fB M) (M 187) (M 189)) (kwM M k) (v + 1) Z := by
      intro G g1 g2
      obtain ⟨H, hH⟩ : ∃ H, H = jup G 181 6 (N ((tcn (okV M n k h (fA M) (fB M) (M 187) (M 189)) v).1 + 1)) := ⟨_, rfl⟩
      have ho : ∀ o, o ≠ 193 → o ≠ 181 → H o = X2 o := fun o a b => by rw [hH, jup_o b, g1 o a]
      have h181 : ∀ j, j ≠ 6 → H 181 j = E 181 j := fun j hj => by rw [hH, jup_nk (by omega), g1 181 (by decide), y181 j hj]
      obtain ⟨Z, e, z1, z2⟩ := c_ever (M := M) (k := k) (ok := okV M n k h (fA M) (fB M) (M 187) (M 189)) (X2 := H) (v := v) hok hk6 (by rw [h181 9 (by omega)]; exact q6) (fun c hc => by rw [ho 31 (by decide) (by decide)]; exact y31 c hc) k 0 1000 H (by omega) (by omega) (fun _ _ => rfl) (fun j hj i => by rw [ho 195 (by decide) (by decide), yo 195 (by decide) (by decide), x6 j hj i, if_neg (Nat.not_lt_zero _)])
      refine ⟨Z, ?_, fun o a b c d e => by rw [z1 o e, ho o d c, yo o a b, x1 o a b c d e], fun j a b => by rw [z1 19 (by decide), ho 19 (by decide) (by decide), y19 j a b], fun j hj => by rw [z1 181 (by decide), h181 j hj], by rw [z1 181 (by decide), hH, jup_same, t1], fun _ c hc => by rw [z1 193 (by decide), hH, jup_o (by decide)]; exact g2 c hc, z2, fun c hc => ⟨by rw [z1 31 (by decide), ho 31 (by decide) (by decide), y31 c hc, kwM_3], fun z => by rw [z1 31 (by decide), ho 31 (by decide) (by decide), y31 c hc]; unfold kwM; rw [if_pos z]⟩⟩
      unfold f31_18
      rw [g1 181 (by decide), y6, N_succ, Option.bind_some, ← hH]
      exact e
    unfold f31
    rw [y6]
    by_cases h0 : (tcn (okV M n k h (fA M) (fB M) (M 187) (M 189)) v).1 = 0
    · obtain ⟨Z, e, hZ⟩ := take (jcp X2 193 31 6) (fun o ho => jcp_o ho) (fun c hc => by rw [jcp_in (by omega), t1, if_pos h0]; exact y31 c hc)
      rw [if_pos (show N (tcn (okV M n k h (fA M) (fB M) (M 187) (M 189)) v).1 = 0 by rw [h0]; rfl), copy_ok row_ft cok_19.2.2.2.2.2.1 (by decide), Option.bind_some]
      rw [show f31_18 181 19 (jcp X2 193 (19 + 12) 6) = some Z from e, Option.bind_some]
      exact ⟨Z, rfl, hZ⟩
    · obtain ⟨Z, e, hZ⟩ := take X2 (fun _ _ => rfl) (fun c hc => by rw [t1, if_neg h0, yo 193 (by decide) (by decide)]; exact x5 h0 c hc)
      rw [if_neg (show ¬ N (tcn (okV M n k h (fA M) (fB M) (M 187) (M 189)) v).1 = (0 : Int32) from fun z => h0 ((N_eq (b := 0) (by omega) (by omega)).mp z)), e, Option.bind_some]
      exact ⟨Z, rfl, hZ⟩
theorem c_ways (h1 : Ctr M 4 n k) (h2 : Agr M 4 n k) (h6 : ∀ i, i < h → (∃ a b, a < n ∧ b < n ∧ a ≠ b ∧ M 183 i = N a ∧ M 185 i = N b) ∧ rng 2 (M 189 i)) (hh : h ≤ 8) (hE : Cbs M E n k h) {all : Nat} (hall : all < 730) : ∀ (d v f : Nat) (X : JM), v + d = all → d < f → CWt M E k (okV M n k h (fA M) (fB M) (M 187) (M 189)) (kwM M k) v X → ∃ X2, f27_80 f 181 19 (N all) (N v) X = some X2 ∧ CWt M E k (okV M n k h (fA M) (fB M) (M 187) (M 189)) (kwM M k) all X2
  | _, _, 0, _, _, hf, _ => absurd hf (Nat.not_lt_zero _)
  | 0, v, f + 1, X, hv, _, hX => by
    have e : v = all := hv
    subst e
    rw [f27_80, if_neg (fun q => Nat.lt_irrefl _ ((N_lt (by omega) (by omega)).mp q))]
    exact ⟨X, rfl, hX⟩
  | d + 1, v, f + 1, X, hv, hff, hX => by
    obtain ⟨X1, e1, g1⟩ := c_way (h80 := f27_80 f) (all := N all) h1 h2 h6 hh hE (show v < 730 by omega) hX
    obtain ⟨X2, e2, g2⟩ := c_ways h1 h2 h6 hh hE hall d (v + 1) f X1 (by omega) (by omega) g1
    rw [f27_80, if_pos ((N_lt (by omega) (by omega)).mpr (by omega)), e1, N_succ]
    exact ⟨X2, e2, g2⟩
theorem mks_congr {n k a b : Nat} {bo mo fa cy bo2 mo2 fa2 cy2 : Nat → Int32} {y : Int32} (g1 : ∀ p, p < n → bo p = bo2 p) (g2 : ∀ p, p < n → mo p = mo2 p) (g3 : ∀ p, p < n → fa p = fa2 p) (g4 : ∀ c, c < k → cy c = cy2 c) : mks n bo mo fa cy k y a b = mks n bo2 mo2 fa2 cy2 k y a b := by
  unfold mks
  refine itr_congr k 0 0 (fun c s _ hc => ?_)
  unfold mkQ
  rw [g4 c (by omega), rch_congr g1 g2 g3 n]
theorem c_weigh (h1 : Ctr M 4 n k) (h2 : Agr M 4 n k) (h6 : ∀ i, i < h → (∃ a b, a < n ∧ b < n ∧ a ≠ b ∧ M 183 i = N a ∧ M 185 i = N b) ∧ rng 2 (M 189 i)) (hh : h ≤ 8) (hh0 : M 181 0 = N h) : ∃ E X, f120 0 M = some X ∧ Same M X ∧ (∀ o, ¬ (19 ≤ o ∧ o ≤ 33) → o ≠ 181 → o ≠ 191 → o ≠ 193 → o ≠ 195 → X o = M o) ∧ Cbs M E n k h ∧ CWt M E k (okV M n k h (fA M) (fB M) (M 187) (M 189)) (kwM M k) (wys (fun c => decide (M 208 c = 3)) k) X := by
  have hn9 := h1.2.1
  have hk6 := h1.2.2.2.1
  obtain ⟨D, d1, d2, d3, d4, d5⟩ := c_ccpy (M := M) cok_19 cok_4 (Or.inl (by omega))
  obtain ⟨P, hP⟩ : ∃ P, P = jfl (jup (jup D 181 6 0) 181 9 (N k)) 195 4 0 := ⟨_, rfl⟩
  have pD : ∀ o, o ≠ 181 → o ≠ 195 → P o = D o := fun o a b => by
    rw [hP]
    funext j
    show (if o = 195 ∧ j < 4 then _ else _) = _
    rw [if_neg (fun q => b q.1), jup_o a, jup_o a]
  have p181 : ∀ j, j ≠ 6 → j ≠ 9 → P 181 j = M 181 j := fun j a b => by
    rw [hP]
    show (if 181 = 195 ∧ j < 4 then _ else _) = _
    rw [if_neg (by omega), jup_nk (by omega), jup_nk (by omega), d2 181 (by omega)]
  have p6 : P 181 6 = 0 := by
    rw [hP]
    show (if 181 = 195 ∧ 6 < 4 then _ else _) = _
    rw [if_neg (by omega), jup_nk (by omega), jup_same]
  have p9 : P 181 9 = N k := by
    rw [hP]
    show (if 181 = 195 ∧ 9 < 4 then _ else _) = _
    rw [if_neg (by omega), jup_same]
  have p195 : ∀ j, j < 4 → P 195 j = 0 := fun j hj => by
    rw [hP]
    exact if_pos ⟨rfl, hj⟩
  have p19 : ∀ j, j < 3 ∨ (10 ≤ j ∧ j < 14) → P 19 j = M 4 j := fun j hj => by rw [pD 19 (by decide) (by decide), d3 j hj]
  have pM : ∀ o, ¬ (19 ≤ o ∧ o ≤ 33) → o ≠ 181 → o ≠ 195 → P o = M o := fun o a b c => by rw [pD o b c, d2 o a]
  have pr : ∀ p, p < 9 → P 23 p = M 8 p ∧ P 25 p = M 10 p ∧ P 27 p = M 12 p := fun p hp => by
    rw [pD 23 (by decide) (by decide), pD 25 (by decide) (by decide), pD 27 (by decide) (by decide)]
    have q := d4 p hp
    exact ⟨q.2.1, q.2.2.1, q.2.2.2.1⟩
  have pc : ∀ c, c < 6 → P 31 c = M 16 c ∧ P 33 c = M 18 c := fun c hc => by
    rw [pD 31 (by decide) (by decide), pD 33 (by decide) (by decide)]
    exact d5 c hc
  have key : ∀ (d i f : Nat) (X : JM), i + d = h → d < f → (∀ o, o ≠ 191 → X o = P o) → (∀ j, j < i → X 191 j = mks n (M 204) (M 205) (M 206) (M 209) k (M 187 j) (M 183 j).toNatClampNeg (M 185 j).toNatClampNeg) → ∃ E, f27_23 f 181 19 (N i) X = (f28 E 19).bind (fun v10 => f27_80 1000 181 19 v10 (0 : Int32) E) ∧ (∀ o, o ≠ 191 → E o = P o) ∧ (∀ j, j < h → E 191 j = mks n (M 204) (M 205) (M 206) (M 209) k (M 187 j) (M 183 j).toNatClampNeg (M 185 j).toNatClampNeg) := by
    intro d
    induction d with
    | zero =>
      intro i f X hi hf x1 x2
      obtain ⟨f, rfl⟩ : ∃ g, f = g + 1 := ⟨f - 1, by omega⟩
      have e : i = h := hi
      subst e
      rw [f27_23, x1 181 (by decide), p181 0 (by omega) (by omega), hh0, if_neg (fun q => Nat.lt_irrefl _ ((N_lt (by omega) (by omega)).mp q))]
      exact ⟨X, rfl, x1, x2⟩
    | succ d ih =>
      intro i f X hi hf x1 x2
      obtain ⟨f, rfl⟩ : ∃ g, f = g + 1 := ⟨f - 1, by omega⟩
      obtain ⟨⟨a, b, ha, hb, hab, ea, eb⟩, _⟩ := h6 i (by omega)
      have i8 : i < 8 := by omega
      have em := c_mks (X := X) (n := n) (k := k) (a := a) (b := b) (y := M 187 i) (by rw [x1 19 (by decide), p19 0 (by omega)]; exact h1.1) hn9 (by rw [x1 19 (by decide), p19 1 (by omega)]; exact h1.2.2.1) hk6 (fun p hp => by rw [x1 25 (by decide), x1 27 (by decide), (pr p (by omega)).2.1, (pr p (by omega)).2.2]; exact h1.2.2.2.2.1 p hp) (by omega) (by omega)
      rw [mks_congr (bo2 := M 204) (mo2 := M 205) (fa2 := M 206) (cy2 := M 209) (fun p hp => by rw [x1 23 (by decide), (pr p (by omega)).1]; exact h2.2.2.2.2.1 p hp) (fun p hp => by rw [x1 25 (by decide), (pr p (by omega)).2.1]; exact h2.2.2.2.2.2.1 p hp) (fun p hp => by rw [x1 27 (by decide), (pr p (by omega)).2.2]; exact h2.2.2.2.2.2.2.1 p hp) (fun c hc => by rw [x1 33 (by decide), (pc c (by omega)).2]; exact h2.2.2.2.2.2.2.2.2.2 c hc)] at em
      have eA : (M 183 i).toNatClampNeg = a := by rw [ea, N_nat (by omega)]
      have eB : (M 185 i).toNatClampNeg = b := by rw [eb, N_nat (by omega)]
      obtain ⟨E, e, g1, g2⟩ := ih (i + 1) f (jup X 191 i (mks n (M 204) (M 205) (M 206) (M 209) k (M 187 i) a b)) (by omega) (by omega) (fun o ho => by rw [jup_o ho, x1 o ho]) (fun j hj => by
        by_cases ej : j = i
        · rw [ej, jup_same, eA, eB]
        · rw [jup_nk (by omega)]; exact x2 j (by omega))
      rw [f27_23, x1 181 (by decide), p181 0 (by omega) (by omega), hh0, if_pos ((N_lt (by omega) (by omega)).mpr (by omega)), get_in row_f1 i8, Option.bind_some, get_in row_f2 i8, Option.bind_some, get_in row_f3 i8, Option.bind_some, x1 183 (by decide), x1 185 (by decide), x1 187 (by decide), pM 183 (by omega) (by omega) (by omega), pM 185 (by omega) (by omega) (by omega), pM 187 (by omega) (by omega) (by omega), ea, eb, em, Option.bind_some, set_in row_mk i8, Option.bind_some, N_succ]
      exact ⟨E, e, g1, g2⟩
  obtain ⟨E, e, g1, g2⟩ := key h 0 1000 P (by omega) (by omega) (fun _ _ => rfl) (fun j hj => absurd hj (Nat.not_lt_zero _))
  have hCb : Cbs M E n k h := ⟨by rw [g1 19 (by decide), p19 0 (by omega)]; exact h1.1, by rw [g1 19 (by decide), p19 1 (by omega)]; exact h1.2.2.1, by rw [g1 19 (by decide), p19 10 (by omega)], by rw [g1 19 (by decide), p19 11 (by omega)], by rw [g1 181 (by decide), p181 0 (by omega) (by omega)]; exact hh0, by rw [g1 181 (by decide)]; exact p9, fun o ho => by rw [g1 o (by omega), pM o (by omega) (by omega) (by omega)], g2⟩
  have hst : CWt M E k (okV M n k h (fA M) (fB M) (M 187) (M 189)) (kwM M k) 0 E := by
    refine ⟨fun _ _ _ _ _ _ => rfl, fun _ _ _ => rfl, fun _ _ => rfl, by rw [g1 181 (by decide), p6]; rfl, fun hne => absurd rfl hne, fun j hj c => ?_, fun c hc => ?_⟩
    · rw [g1 195 (by decide), p195 j hj, bt_zero]
      show false = (decide (c < k) && false)
      rw [Bool.and_false]
    · have ek : E 31 c = M 208 c := by rw [g1 31 (by decide), (pc c (by omega)).1]; exact h2.2.2.2.2.2.2.2.2.1 c hc
      rw [ek]
      exact ⟨rfl, fun z => z⟩
  obtain ⟨X, e2, hX⟩ := c_ways h1 h2 h6 hh hCb (wys_729 (e := fun c => decide (M 208 c = 3)) hk6) (wys (fun c => decide (M 208 c = 3)) k) 0 1000 E (by omega) (by have := wys_729 (e := fun c => decide (M 208 c = 3)) hk6; omega) hst
  refine ⟨E, X, ?_, fun o j q => ?_, fun o a b c d e => by rw [hX.1 o (by omega) (by omega) b d e, g1 o c, pM o a b e], hCb, hX⟩
  · unfold f120 f27
    rw [xp_2, xp_1, xp_9, d1, Option.bind_some, Option.bind_some, Option.bind_some, jup_o (show (19 : Nat) ≠ 181 by decide), d3 1 (by omega), h1.2.2.1, fill_ok row_ev, Option.bind_some, ← hP]
    rw [show (0 : Int32) = N 0 from rfl] at e ⊢
    rw [e, c_wys (e := fun c => decide (M 208 c = 3)) hCb.2.1 hk6 (fun c hc => (hst.2.2.2.2.2.2 c hc).1), Option.bind_some, e2]
    rfl
  · by_cases h181 : o = 181
    · subst h181
      have hj : j = 0 := by
        apply Classical.byContradiction
        intro hne
        exact q (by unfold sck; omega)
      subst hj
      rw [hX.2.2.1 0 (by omega), hCb.2.2.2.2.1, hh0]
    · rw [hX.1 o (fun z => q (by unfold sck; omega)) (fun z => q (by unfold sck; omega)) h181 (fun z => q (by unfold sck; omega)) (fun z => q (by unfold sck; omega)), g1 o (fun z => q (by unfold sck; omega)), pM o (fun z => q (by unfold sck; omega)) h181 (fun z => q (by unfold sck; omega))]
theorem c_always {ok : Nat → Bool} {X : JM} {all : Nat} (hk6 : k ≤ 6) (h9 : X 181 9 = N k) (hx : ∀ j, j < 4 → ∀ c, bt (X 195 j) c = (decide (c < k) && tev ok (kwM M k) (N j) c all)) : ∃ S, f32 X 181 = some S ∧ ∀ c, bt S c = (decide (c < k) && tsm ok (kwM M k) c all) := by
  have inner : ∀ (h4 : Nat → Int32 → Int32 → Option Int32) (c : Nat) (s : Int32), c < k → ∀ (d l f : Nat), l + d = 4 → d < f → f32_17 X h4 f 181 s (N c) (N (smN (fun j => ibN (tev ok (kwM M k) (N j) c all)) l)) (N l) = h4 181 (s ||| (if tsm ok (kwM M k) c all = true then B c else 0)) (N c + 1) := by
    intro h4 c s hc d
    induction d with
    | zero =>
      intro l f hl hf
      obtain ⟨f, rfl⟩ : ∃ g, f = g + 1 := ⟨f - 1, by omega⟩
      have e : l = 4 := hl
      subst e
      rw [f32_17, if_pos (show (3 : Int32) < N 4 by decide)]
      unfold f32_67
      have ok1 := one_kind (ok := ok) (kw := kwM M k) (c := c) (v := all) (fun w => kwM_rng)
      by_cases h1 : smN (fun j => ibN (tev ok (kwM M k) (N j) c all)) 4 = 1
      · rw [if_pos (show N (smN (fun j => ibN (tev ok (kwM M k) (N j) c all)) 4) = 1 by rw [h1]; rfl), bit_N (by omega), Option.bind_some, if_pos (ok1.mp h1)]
      · have hle := smN_ib (g := fun j => tev ok (kwM M k) (N j) c all) 4
        rw [if_neg (show ¬ N (smN (fun j => ibN (tev ok (kwM M k) (N j) c all)) 4) = (1 : Int32) from fun z => h1 ((N_eq (b := 1) (by omega) (by omega)).mp z)), if_neg (fun z => h1 (ok1.mpr z))]
    | succ d ih =>
      intro l f hl hf
      obtain ⟨f, rfl⟩ : ∃ g, f = g + 1 := ⟨f - 1, by omega⟩
      have e := ih (l + 1) f (by omega) (by omega)
      rw [f32_17, if_neg (show ¬ (3 : Int32) < N l from fun z => absurd ((N_lt (a := 3) (by omega) (by omega)).mp z) (by omega)), get_in row_ev (show l < 4 by omega), Option.bind_some, has_N (by omega), Option.bind_some, hx l (by omega) c, decide_eq_true hc, Bool.true_and]
      unfold f32_45
      rw [N_succ, ← e, show smN (fun j => ibN (tev ok (kwM M k) (N j) c all)) (l + 1) = smN (fun j => ibN (tev ok (kwM M k) (N j) c all)) l + ibN (tev ok (kwM M k) (N l) c all) from rfl]
      cases tev ok (kwM M k) (N l) c all with
      | false => rw [if_pos (show b2 false = 0 from rfl), show (0 : Int32) = N 0 from rfl, N_add]; rfl
      | true => rw [if_neg (show ¬ b2 true = 0 by decide), show (1 : Int32) = N 1 from rfl, N_add]; rfl
  have outer : ∀ (d c f : Nat) (s : Int32), c + d = k → d < f → f32_4 X f 181 s (N c) = some (itr (fun c s => s ||| (if tsm ok (kwM M k) c all = true then B c else 0)) c d s) := by
    intro d
    induction d with
    | zero =>
      intro c f s hc hf
      obtain ⟨f, rfl⟩ : ∃ g, f = g + 1 := ⟨f - 1, by omega⟩
      have e : c = k := hc
      subst e
      rw [f32_4, h9, if_neg (fun q => Nat.lt_irrefl _ ((N_lt (by omega) (by omega)).mp q))]
      rfl
    | succ d ih =>
      intro c f s hc hf
      obtain ⟨f, rfl⟩ : ∃ g, f = g + 1 := ⟨f - 1, by omega⟩
      have e := inner (f32_4 X f) c s (by omega) 4 0 1000 rfl (by omega)
      rw [f32_4, h9, if_pos ((N_lt (by omega) (by omega)).mpr (by omega))]
      refine Eq.trans e ?_
      rw [N_succ]
      exact ih (c + 1) f _ (by omega) (by omega)
  refine ⟨_, outer k 0 1000 0 (by omega) (by omega), fun c => ?_⟩
  have e := bt_orI (q := fun c => tsm ok (kwM M k) c all) (s0 := 0) k c (by omega)
  rw [bt_zero, Bool.false_or] at e
  exact e
end CT
