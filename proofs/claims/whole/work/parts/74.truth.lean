/-! PURE: truths: kin by each comet, the ways -/
section TK
variable {n a b : Nat} {bo mo fa : Nat → Int32} {lt lt2 : Int32}
theorem stp_mlt {s t : Int32} (hn : n ≤ 9) (hp : ∀ p, p < n → okn n (mo p) ∧ okn n (fa p)) (hl : ¬ lt2 < lt) (h : sb s t) : sb (stp n bo mo fa lt s) (stp n bo mo fa lt2 t) := by
  intro j hj
  have h1 := (bt_stp (bo := bo) (lt := lt) (s := s) (j := j) hn hp n (Nat.le_refl _)).mp hj
  refine (bt_stp (bo := bo) (lt := lt2) (s := t) (j := j) hn hp n (Nat.le_refl _)).mpr ?_
  have up : ∀ p, ¬ lt < bo p → ¬ lt2 < bo p := fun p h q => by
    rw [Int32.lt_iff_toInt_lt] at h q hl
    omega
  rcases h1 with h1 | ⟨p, h1, h2, h3⟩
  · exact Or.inl (h j h1)
  · refine Or.inr ⟨p, h1, up p h2, ?_⟩
    rcases h3 with ⟨h3, h4⟩ | ⟨h3, i, h4, h5, h6⟩
    · exact Or.inl ⟨h p h3, h4⟩
    · exact Or.inr ⟨h3, i, h4, h i h5, h6⟩
theorem rch_mlt (hn : n ≤ 9) (hp : ∀ p, p < n → okn n (mo p) ∧ okn n (fa p)) (hl : ¬ lt2 < lt) : ∀ i, sb (rch n bo mo fa lt a i) (rch n bo mo fa lt2 a i)
  | 0 => fun _ h => h
  | i + 1 => stp_mlt hn hp hl (rch_mlt hn hp hl i)
theorem rch_no (hn : n ≤ 9) (hb : ∀ p, p < n → ¬ bo p < 0) : ∀ i, rch n bo mo fa (-1) a i = B a
  | 0 => rfl
  | i + 1 => by
    show stp n bo mo fa (-1) (rch n bo mo fa (-1) a i) = B a
    rw [rch_no hn hb i]
    unfold stp
    have : ∀ m, m ≤ n → itr (stF bo mo fa (-1) (B a)) 0 m (B a) = B a := by
      intro m
      induction m with
      | zero => intro _; rfl
      | succ m ih =>
        intro hm
        rw [itr_succ, Nat.zero_add, ih (by omega)]
        unfold stF
        have h0 := hb m (by omega)
        rw [if_pos (by
          rw [Int32.lt_iff_toInt_lt] at h0 ⊢
          have h1 : ((-1 : Int32)).toInt = -1 := rfl
          have h2 : ((0 : Int32)).toInt = 0 := rfl
          omega)]
    exact this n (Nat.le_refl _)
end TK
theorem laty_spec {S : Nat → Bool} {cy : Nat → Int32} {y : Int32} : ∀ k, (laty k S cy y = -1 ∨ ∃ c, c < k ∧ S c = true ∧ ¬ y < cy c ∧ laty k S cy y = cy c) ∧ ∀ c, c < k → S c = true → ¬ y < cy c → ¬ laty k S cy y < cy c
  | 0 => ⟨Or.inl rfl, fun c hc => absurd hc (Nat.not_lt_zero _)⟩
  | k + 1 => by
    obtain ⟨h1, h2⟩ := laty_spec (S := S) (cy := cy) (y := y) k
    have e2 : laty (k + 1) S cy y = latyF S cy y k (laty k S cy y) := by unfold laty; rw [itr_succ, Nat.zero_add]
    rw [e2]
    generalize laty k S cy y = l at h1 h2 ⊢
    unfold latyF
    by_cases q : (S k && !(decide (y < cy k)) && decide (l < cy k)) = true
    · rw [if_pos q]
      rw [Bool.and_eq_true, Bool.and_eq_true, Bool.not_eq_true', decide_eq_false_iff_not, decide_eq_true_iff] at q
      refine ⟨Or.inr ⟨k, by omega, q.1.1, q.1.2, rfl⟩, fun c hc hs hy => ?_⟩
      by_cases e : c = k
      · rw [e]; exact fun z => by rw [Int32.lt_iff_toInt_lt] at z; omega
      · have := h2 c (by omega) hs hy
        have q2 := q.2
        rw [Int32.lt_iff_toInt_lt] at this q2 ⊢
        omega
    · rw [if_neg q]
      refine ⟨?_, fun c hc hs hy => ?_⟩
      · rcases h1 with h1 | ⟨c, hc, g⟩
        · exact Or.inl h1
        · exact Or.inr ⟨c, by omega, g⟩
      · by_cases e : c = k
        · rw [e] at hs hy ⊢
          intro z
          apply q
          rw [hs, decide_eq_false hy, decide_eq_true z]; rfl
        · exact h2 c (by omega) hs hy
/-- kin by one comet at least -/
def mkQ (n : Nat) (bo mo fa cy : Nat → Int32) (y : Int32) (a b c : Nat) : Bool := !(decide (y < cy c)) && bt (rch n bo mo fa (cy c) a n) b
theorem kin_mk {n a b k : Nat} {bo mo fa cy : Nat → Int32} {y : Int32} {S : Nat → Bool} (hn : n ≤ 9) (ha : a < n) (hab : a ≠ b) (hp : ∀ p, p < n → okn n (mo p) ∧ okn n (fa p)) (hb : ∀ p, p < n → ¬ bo p < 0) : (deg n bo mo fa (laty k S cy y) a b).isSome = true ↔ ∃ c, c < k ∧ S c = true ∧ mkQ n bo mo fa cy y a b c = true := by
  rw [deg_isSome hn ha hp]
  obtain ⟨h1, h2⟩ := laty_spec (S := S) (cy := cy) (y := y) k
  constructor
  · intro h
    rcases h1 with h1 | ⟨c, hc, hs, hy, e⟩
    · rw [h1, rch_no hn hb, bt_B (by omega)] at h
      exact absurd (of_decide_eq_true h).symm hab
    · refine ⟨c, hc, hs, ?_⟩
      unfold mkQ
      rw [decide_eq_false hy, ← e, h]; rfl
  · rintro ⟨c, hc, hs, hq⟩
    unfold mkQ at hq
    rw [Bool.and_eq_true, Bool.not_eq_true', decide_eq_false_iff_not] at hq
    exact rch_mlt hn hp (h2 c hc hs hq.1) n b hq.2
theorem canc_kind {k : Nat} {ck ck2 cy : Nat → Int32} {th : Nat → Bool} (h : ∀ c, c < k → decide (ck c = 3) = decide (ck2 c = 3)) {c : Nat} : canc k ck cy th c = canc k ck2 cy th c := by
  have hl : ∀ e, lat k ck cy th e = lat k ck2 cy th e := fun e => by
    unfold lat
    exact itr_congr k 0 none (fun c l _ hc => by unfold latF; rw [h c (by omega)])
  unfold canc
  exact itr_congr k 0 false (fun e x _ he => by unfold cancF; rw [h e (by omega), hl])
/-- the ways -/
def kvl (e : Nat → Bool) : Nat → Nat → Nat → Nat
  | 0, _, _ => 0
  | c + 1, r, i => if i = c then r % 3 else kvl e c (if e c = true then r else r / 3) i
theorem kvl_lt {e : Nat → Bool} : ∀ c r i, kvl e c r i < 3
  | 0, _, _ => by show 0 < 3; omega
  | c + 1, r, i => by
    unfold kvl
    split
    · omega
    · exact kvl_lt c _ i
def lyr (e : Nat → Bool) (c r : Nat) (g : Nat → Int32) : Nat → Int32 := fun i => if i < c then (if e i = true then g i else N (kvl e c r i)) else g i
def jrset (X : JM) (a : Nat) (g : Nat → Int32) : JM := fun o j => if o = a then g j else X o j
theorem jrset_o {X : JM} {a o : Nat} {g : Nat → Int32} (h : o ≠ a) : jrset X a g o = X o := by
  funext j
  show (if o = a then _ else _) = _
  rw [if_neg h]
theorem jrset_s {X : JM} {a : Nat} {g : Nat → Int32} : jrset X a g a = g := by
  funext j
  show (if a = a then _ else _) = _
  rw [if_pos rfl]
theorem jrset_id {X : JM} {a : Nat} : jrset X a (X a) = X := by
  funext o j
  show (if o = a then X a j else X o j) = X o j
  by_cases h : o = a
  · rw [if_pos h, h]
  · rw [if_neg h]
theorem jrset_up {X : JM} {a c : Nat} {v : Int32} {g : Nat → Int32} : jrset (jup X a c v) a g = jrset X a g := by
  funext o j
  show (if o = a then _ else _) = (if o = a then _ else _)
  by_cases h : o = a
  · rw [if_pos h, if_pos h]
  · rw [if_neg h, if_neg h, jup_nk (fun q => h q.1)]
theorem lyr_e {e : Nat → Bool} {c r : Nat} {g : Nat → Int32} (h : e c = true) : lyr e (c + 1) r g = lyr e c r g := by
  funext i
  unfold lyr
  by_cases h1 : i < c
  · rw [if_pos h1, if_pos (by omega), show kvl e (c + 1) r i = kvl e c r i by
      show (if i = c then _ else kvl e c (if e c = true then r else r / 3) i) = _
      rw [if_neg (by omega), if_pos h]]
  · rw [if_neg h1]
    by_cases h2 : i = c
    · rw [if_pos (by omega), h2, if_pos h]
    · rw [if_neg (by omega)]
theorem lyr_n {e : Nat → Bool} {c r : Nat} {g : Nat → Int32} (h : e c = false) : lyr e (c + 1) r g = lyr e c (r / 3) (fun i => if i = c then N (r % 3) else g i) := by
  funext i
  show (if i < c + 1 then (if e i = true then g i else N (kvl e (c + 1) r i)) else g i) = (if i < c then (if e i = true then (if i = c then N (r % 3) else g i) else N (kvl e c (r / 3) i)) else (if i = c then N (r % 3) else g i))
  by_cases h1 : i < c
  · have ek : kvl e (c + 1) r i = kvl e c (r / 3) i := by
      show (if i = c then _ else kvl e c (if e c = true then r else r / 3) i) = _
      rw [if_neg (by omega), if_neg (by rw [h]; decide)]
    rw [if_pos h1, if_pos (by omega), if_neg (show ¬ i = c by omega), ek]
  · by_cases h2 : i = c
    · subst h2
      have ek : kvl e (i + 1) r i = r % 3 := if_pos rfl
      rw [if_pos (show i < i + 1 by omega), if_neg h1, if_pos rfl, if_neg (by rw [h]; decide), ek]
    · rw [if_neg (show ¬ i < c + 1 by omega), if_neg h1, if_neg h2]
theorem third_all : (List.range 730).all (fun r => jir (N r) 3 == some (N (r % 3)) && (jdv (N r) 3 == some (N (r / 3)))) = true := by decide +kernel
theorem third_r {r : Nat} (h : r < 730) : jir (N r) 3 = some (N (r % 3)) := by
  have q := List.all_eq_true.mp third_all r (List.mem_range.mpr h)
  rw [Bool.and_eq_true] at q
  exact eq_of_beq q.1
theorem third_d {r : Nat} (h : r < 730) : jdv (N r) 3 = some (N (r / 3)) := by
  have q := List.all_eq_true.mp third_all r (List.mem_range.mpr h)
  rw [Bool.and_eq_true] at q
  exact eq_of_beq q.2
theorem c_lay {e : Nat → Bool} : ∀ (c r f : Nat) (z : Int32) (X : JM), c ≤ 6 → r < 730 → c < f → z = N c - 1 → (∀ i, i < c → decide (X 31 i = 3) = e i) → f29_9 f 19 (N r) z X = (f13 19 (jrset X 31 (lyr e c r (X 31)))).bind fun M2 => some M2
  | _, _, 0, _, _, _, _, hf, _, _ => absurd hf (Nat.not_lt_zero _)
  | 0, r, f + 1, z, X, _, _, _, hz, _ => by
    rw [f29_9, hz, if_pos (show N 0 - (1 : Int32) < 0 by decide), show lyr e 0 r (X 31) = X 31 from funext (fun i => if_neg (Nat.not_lt_zero _)), jrset_id]
  | c + 1, r, f + 1, z, X, hc, hr, hf, hz, he => by
    have ez : z = N c := by rw [hz]; exact (Int32.ofNat_sub (c + 1) 1 (by omega)).symm
    have e1 : N c + (-1 : Int32) = N c - 1 := (Int32.sub_eq_add_neg (N c) 1).symm
    rw [f29_9, ez, if_neg (N_neg (by omega)), get_in cok_19.2.2.2.2.2.1 (show c < 6 by omega), Option.bind_some]
    unfold f29_40
    rw [e1]
    by_cases h3 : X (19 + 12) c = 3
    · have hec : e c = true := by rw [← he c (by omega)]; exact decide_eq_true h3
      rw [if_pos h3, c_lay (e := e) c r f _ X (by omega) hr (by omega) rfl (fun i hi => he i (by omega)), lyr_e hec]
    · have hec : e c = false := by rw [← he c (by omega)]; exact decide_eq_false h3
      rw [if_neg h3, third_r hr, Option.bind_some, set_in cok_19.2.2.2.2.2.1 (show c < 6 by omega), Option.bind_some, third_d hr, Option.bind_some, show 19 + 12 = 31 from rfl, c_lay (e := e) c (r / 3) f _ (jup X 31 c (N (r % 3))) (by omega) (by omega) (by omega) rfl (fun i hi => by rw [jup_nk (by omega)]; exact he i (by omega)), lyr_n hec, jrset_up]
      have eg : jup X 31 c (N (r % 3)) 31 = fun i => if i = c then N (r % 3) else X 31 i := funext (fun i => by rw [jup_at]; simp only [true_and])
      rw [eg]
theorem m_layw {e : Nat → Bool} : ∀ (c r f : Nat) (z : Int32) (X : JM), c ≤ 6 → r < 730 → c < f → z = N c - 1 → (∀ i, i < c → decide (X 214 i = 3) = e i) → f198_9 f 198 (N r) z X = some (jrset X 208 (lyr e c r (X 208)))
  | _, _, 0, _, _, _, _, hf, _, _ => absurd hf (Nat.not_lt_zero _)
  | 0, r, f + 1, z, X, _, _, _, hz, _ => by
    rw [f198_9, hz, if_pos (show N 0 - (1 : Int32) < 0 by decide), show lyr e 0 r (X 208) = X 208 from funext (fun i => if_neg (Nat.not_lt_zero _)), jrset_id]
  | c + 1, r, f + 1, z, X, hc, hr, hf, hz, he => by
    have ez : z = N c := by rw [hz]; exact (Int32.ofNat_sub (c + 1) 1 (by omega)).symm
    have e1 : N c + (-1 : Int32) = N c - 1 := (Int32.sub_eq_add_neg (N c) 1).symm
    rw [f198_9, ez, if_neg (N_neg (by omega)), mp_28, mp_14, la_214 (show c < 6 by omega), Option.bind_some]
    unfold f198_36
    rw [e1]
    by_cases h3 : X 214 c = 3
    · have hec : e c = true := by rw [← he c (by omega)]; exact decide_eq_true h3
      rw [if_pos h3, m_layw (e := e) c r f _ X (by omega) hr (by omega) rfl (fun i hi => he i (by omega)), lyr_e hec]
    · have hec : e c = false := by rw [← he c (by omega)]; exact decide_eq_false h3
      rw [if_neg h3, third_r hr, Option.bind_some, sa_208 (show c < 6 by omega), Option.bind_some, third_d hr, Option.bind_some, m_layw (e := e) c (r / 3) f _ (jup X 208 c (N (r % 3))) (by omega) (by omega) (by omega) rfl (fun i hi => by rw [jup_o (by decide)]; exact he i (by omega)), lyr_n hec, jrset_up]
      have eg : jup X 208 c (N (r % 3)) 208 = fun i => if i = c then N (r % 3) else X 208 i := funext (fun i => by rw [jup_at]; simp only [true_and])
      rw [eg]
/-- how many ways -/
def wys (e : Nat → Bool) : Nat → Nat
  | 0 => 1
  | c + 1 => wys e c * (if e c = true then 1 else 3)
theorem wys_le {e : Nat → Bool} : ∀ c, wys e c ≤ 3 ^ c
  | 0 => Nat.le_refl _
  | c + 1 => by
    show wys e c * _ ≤ 3 ^ c * 3
    have := wys_le (e := e) c
    split
    · omega
    · omega
theorem wys_729 {e : Nat → Bool} {k : Nat} (hk : k ≤ 6) : wys e k < 730 := by
  have h1 := wys_le (e := e) k
  have h2 : 3 ^ k ≤ 3 ^ 6 := Nat.pow_le_pow_right (by decide) hk
  have h3 : (3 : Nat) ^ 6 = 729 := rfl
  omega
/-- truths, told way by way -/
def tcn (ok : Nat → Bool) : Nat → Nat × Nat
  | 0 => (0, 0)
  | v + 1 => if ok v = true then ((tcn ok v).1 + 1, if (tcn ok v).1 = 0 then v else (tcn ok v).2) else tcn ok v
def tsm (ok : Nat → Bool) (kw : Nat → Nat → Int32) (c : Nat) : Nat → Bool
  | 0 => false
  | v + 1 => if ok v = true then (if (tcn ok v).1 = 0 then true else tsm ok kw c v && decide (kw v c = kw (tcn ok v).2 c)) else tsm ok kw c v
def tev (ok : Nat → Bool) (kw : Nat → Nat → Int32) (q : Int32) (c : Nat) : Nat → Bool
  | 0 => false
  | v + 1 => tev ok kw q c v || (ok v && decide (kw v c = q))
theorem tcn_le {ok : Nat → Bool} : ∀ v, (tcn ok v).1 ≤ v
  | 0 => Nat.le_refl _
  | v + 1 => by
    unfold tcn
    have := tcn_le (ok := ok) v
    split
    · show (tcn ok v).1 + 1 ≤ v + 1; omega
    · omega
theorem t_inv {ok : Nat → Bool} {kw : Nat → Nat → Int32} {c : Nat} : ∀ v, ((tcn ok v).1 = 0 → tsm ok kw c v = false ∧ ∀ q, tev ok kw q c v = false) ∧ ((tcn ok v).1 ≠ 0 → tev ok kw (kw (tcn ok v).2 c) c v = true ∧ (tsm ok kw c v = true ↔ ∀ q, tev ok kw q c v = true → q = kw (tcn ok v).2 c))
  | 0 => ⟨fun _ => ⟨rfl, fun _ => rfl⟩, fun h => absurd rfl h⟩
  | v + 1 => by
    obtain ⟨h1, h2⟩ := t_inv (ok := ok) (kw := kw) (c := c) v
    have e3 : ∀ q, tev ok kw q c (v + 1) = (tev ok kw q c v || (ok v && decide (kw v c = q))) := fun q => rfl
    cases hk : ok v with
    | false =>
      have e1 : tcn ok (v + 1) = tcn ok v := by unfold tcn; rw [if_neg (by rw [hk]; decide)]; cases v <;> rfl
      have e2 : tsm ok kw c (v + 1) = tsm ok kw c v := by
        show (if ok v = true then _ else _) = _
        rw [if_neg (by rw [hk]; decide)]
      rw [e1, e2]
      simp only [e3, hk, Bool.false_and, Bool.or_false]
      exact ⟨h1, h2⟩
    | true =>
      have e1 : tcn ok (v + 1) = ((tcn ok v).1 + 1, if (tcn ok v).1 = 0 then v else (tcn ok v).2) := by
        show (if ok v = true then _ else _) = _
        rw [if_pos hk]
      have e2 : tsm ok kw c (v + 1) = (if (tcn ok v).1 = 0 then true else tsm ok kw c v && decide (kw v c = kw (tcn ok v).2 c)) := by
        show (if ok v = true then _ else _) = _
        rw [if_pos hk]
      rw [e1, e2]
      simp only [e3, hk, Bool.true_and]
      refine ⟨fun h => absurd h (Nat.succ_ne_zero _), fun _ => ?_⟩
      by_cases h0 : (tcn ok v).1 = 0
      · obtain ⟨g1, g2⟩ := h1 h0
        rw [if_pos h0, if_pos h0]
        refine ⟨by rw [decide_eq_true rfl, Bool.or_true], fun _ q hq => ?_, fun _ => rfl⟩
        rw [g2, Bool.false_or] at hq
        exact (of_decide_eq_true hq).symm
      · obtain ⟨g1, g2⟩ := h2 h0
        rw [if_neg h0, if_neg h0]
        refine ⟨by rw [g1]; rfl, ?_⟩
        rw [Bool.and_eq_true, g2, decide_eq_true_iff]
        constructor
        · rintro ⟨a1, a2⟩ q hq
          rw [Bool.or_eq_true] at hq
          rcases hq with hq | hq
          · exact a1 q hq
          · rw [← of_decide_eq_true hq]; exact a2
        · intro a
          refine ⟨fun q hq => a q (by rw [hq]; rfl), a _ (by rw [decide_eq_true rfl, Bool.or_true])⟩
theorem tev_val {ok : Nat → Bool} {kw : Nat → Nat → Int32} {c : Nat} {q : Int32} : ∀ v, tev ok kw q c v = true → ∃ w, w < v ∧ kw w c = q
  | 0, h => by cases h
  | v + 1, h => by
    have h2 : (tev ok kw q c v || (ok v && decide (kw v c = q))) = true := h
    rw [Bool.or_eq_true] at h2
    rcases h2 with h2 | h2
    · obtain ⟨w, hw, e⟩ := tev_val v h2
      exact ⟨w, by omega, e⟩
    · rw [Bool.and_eq_true] at h2
      exact ⟨v, by omega, of_decide_eq_true h2.2⟩
/-- one kind alone -/
theorem one_kind {ok : Nat → Bool} {kw : Nat → Nat → Int32} {c v : Nat} (hr : ∀ w, rng 4 (kw w c)) : (smN (fun j => ibN (tev ok kw (N j) c v)) 4 = 1) ↔ tsm ok kw c v = true := by
  obtain ⟨h1, h2⟩ := t_inv (ok := ok) (kw := kw) (c := c) v
  by_cases h0 : (tcn ok v).1 = 0
  · obtain ⟨g1, g2⟩ := h1 h0
    rw [g1, smN_zero 4 (fun j _ => by rw [g2]; rfl)]
    exact ⟨fun h => absurd h (by decide), fun h => by cases h⟩
  · obtain ⟨g1, g2⟩ := h2 h0
    obtain ⟨j0, hj0, ej⟩ := hr (tcn ok v).2
    rw [ej] at g1 g2
    constructor
    · intro hs
      refine g2.mpr (fun q hq => ?_)
      obtain ⟨w, _, ew⟩ := tev_val v hq
      obtain ⟨j, hj, ej2⟩ := hr w
      have eq : q = N j := ew.symm.trans ej2
      apply Classical.byContradiction
      intro hne
      have hjj : j ≠ j0 := fun e => hne (by rw [eq, e])
      rw [eq] at hq
      have two : 2 ≤ smN (fun j => ibN (tev ok kw (N j) c v)) 4 := by
        show 2 ≤ 0 + ibN (tev ok kw (N 0) c v) + ibN (tev ok kw (N 1) c v) + ibN (tev ok kw (N 2) c v) + ibN (tev ok kw (N 3) c v)
        have i0 : ibN (tev ok kw (N j0) c v) = 1 := by rw [g1]; rfl
        have i1 : ibN (tev ok kw (N j) c v) = 1 := by rw [hq]; rfl
        rcases (show j0 = 0 ∨ j0 = 1 ∨ j0 = 2 ∨ j0 = 3 by omega) with rfl | rfl | rfl | rfl <;> rcases (show j = 0 ∨ j = 1 ∨ j = 2 ∨ j = 3 by omega) with rfl | rfl | rfl | rfl <;> first | exact absurd rfl hjj | omega
      omega
    · intro hs
      have hz := g2.mp hs
      rw [smN_one (q := j0) 4 hj0 (fun j hj hne => ?_), g1]; rfl
      cases hb : tev ok kw (N j) c v with
      | false => rfl
      | true => exact absurd ((N_eq (by omega) (by omega)).mp (hz _ hb)) hne
