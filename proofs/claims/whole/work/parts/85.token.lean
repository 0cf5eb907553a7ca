/-! PURE: the reference's tokens, words and numbers -/
section TK
variable {L : Nat → Int32} {t : Nat}
def TxM (X : JM) (L : Nat → Int32) (t : Nat) : Prop := X 198 4 = N t ∧ t ≤ 160 ∧ ∀ i, i < t → X 201 i = L i
theorem txm_let {X : JM} {p : Nat} (h : TxM X L t) (hp : p < t) : jla 201 (N p) X = some (L p) := by
  rw [la_201 (show p < 160 by have := h.2.1; omega), h.2.2 p hp]
theorem txm_up {X : JM} {j : Nat} {v : Int32} (h : TxM X L t) (hj : j ≠ 4) : TxM (jup X 198 j v) L t := ⟨by rw [jup_nk (by omega)]; exact h.1, h.2.1, fun i hi => by rw [jup_o (by decide)]; exact h.2.2 i hi⟩
def kdF (x : Int32) : Int32 := if isL x = true then 1 else if isG x = true then 2 else 0
theorem kd_ok {x : Int32} : f130 x = some (kdF x) := by
  have e16 : isL x = false → f130_16 x = some (kdF x) := fun h => by
    unfold f130_16 kdF
    rw [h, if_neg (show ¬ (false = true) by decide)]
    unfold isG
    by_cases h1 : x < 48
    · rw [if_pos h1, decide_eq_true h1]; rfl
    · rw [if_neg h1, decide_eq_false h1]
      by_cases h2 : (57 : Int32) < x
      · rw [if_pos h2, decide_eq_true h2]; rfl
      · rw [if_neg h2, decide_eq_false h2]; rfl
  unfold f130
  by_cases h1 : x < 97
  · rw [if_pos h1]
    exact e16 (by unfold isL; rw [decide_eq_true h1]; rfl)
  · rw [if_neg h1]
    by_cases h2 : (122 : Int32) < x
    · rw [if_pos h2]
      exact e16 (by unfold isL; rw [decide_eq_true h2, Bool.not_true, Bool.and_false])
    · rw [if_neg h2]
      unfold kdF isL
      rw [decide_eq_false h1, decide_eq_false h2]
      rfl
/-- a token's end -/
def teT (L : Nat → Int32) (t s : Nat) : Nat := if s < t then (if isL (L s) = true then weT L t s else if isG (L s) = true then geT L t s else s + 1) else s
theorem m_tk0 {s : Nat} {c : Int32 → Bool} (hk : (0 : Int32) < kdF (L s)) (hc : ∀ x, decide (kdF x = kdF (L s)) = c x) (hs : s < t) : ∀ (d p f : Nat) (X : JM), p + d = t → d < f → TxM X L t → X 198 18 = N s → X 198 17 = N p → f131_71 f 198 X = f131_137 198 (jup X 198 17 (N (rnT c L d p)))
  | _, _, 0, _, _, hf, _, _, _ => absurd hf (Nat.not_lt_zero _)
  | 0, p, f + 1, X, hp, _, h, h8, h7 => by
    have h160 := h.2.1
    rw [f131_71, h7, h.1, if_neg (fun q => absurd ((N_lt (by omega) (by omega)).mp q) (by omega)), show rnT c L 0 p = p from rfl, jup_id h7]
  | d + 1, p, f + 1, X, hp, hf, h, h8, h7 => by
    have h160 := h.2.1
    rw [f131_71, h7, h.1, if_pos ((N_lt (by omega) (by omega)).mpr (by omega)), mp_3, h8, txm_let h hs, Option.bind_some, kd_ok, Option.bind_some, if_pos hk, txm_let h (by omega), Option.bind_some, kd_ok, Option.bind_some, Option.bind_some, Option.bind_some, kd_ok, Option.bind_some]
    have hr : rnT c L (d + 1) p = if c (L p) = true then rnT c L d (p + 1) else p := rfl
    rw [hr, ← hc (L p)]
    by_cases e : kdF (L p) = kdF (L s)
    · rw [if_pos e, if_pos (decide_eq_true e), N_succ, m_tk0 hk hc hs d (p + 1) f _ (by omega) (by omega) (txm_up h (by decide)) (by rw [jup_nk (by omega)]; exact h8) jup_same, jup_jup]
    · rw [if_neg e, if_neg (by rw [decide_eq_false e]; decide), jup_id h7]
def Tok (X Y : JM) (s e : Nat) : Prop := Y 198 17 = N e ∧ Y 198 18 = N s ∧ Y 198 19 = N e ∧ (∀ j, j ≠ 17 → j ≠ 18 → j ≠ 19 → Y 198 j = X 198 j) ∧ ∀ o, o ≠ 198 → Y o = X o
theorem kd_L {x : Int32} (h : isL x = true) : kdF x = 1 := by unfold kdF; rw [if_pos h]
theorem lg_no {x : Int32} (h : isG x = true) : isL x = false := by
  obtain ⟨d, hd, rfl⟩ := isG_num h
  unfold isL
  rw [decide_eq_true (show N (48 + d) < (97 : Int32) from (N_lt (b := 97) (by omega) (by omega)).mpr (by omega))]; rfl
theorem kd_1 {x : Int32} : decide (kdF x = 1) = isL x := by
  unfold kdF
  cases hl : isL x with
  | true => rw [if_pos rfl]; rfl
  | false =>
    rw [if_neg (by decide)]
    cases isG x <;> rfl
theorem kd_2 {x : Int32} : decide (kdF x = 2) = isG x := by
  unfold kdF
  cases hg : isG x with
  | true => rw [lg_no hg, if_neg (by decide), if_pos rfl]; rfl
  | false => cases isL x <;> rfl
theorem m_137 {X : JM} {s e : Nat} (h8 : X 198 18 = N s) : ∃ Y, f131_137 198 (jup X 198 17 (N e)) = some Y ∧ Tok X Y s e := by
  refine ⟨jup (jup X 198 17 (N e)) 198 19 (N e), ?_, ?_, ?_, jup_same, fun j a b c => by rw [jup_nk (by omega), jup_nk (by omega)], fun o ho => by rw [jup_o ho, jup_o ho]⟩
  · unfold f131_137
    rw [jup_same]
    rfl
  · rw [jup_nk (by omega), jup_same]
  · rw [jup_nk (by omega), jup_nk (by omega)]; exact h8
theorem m_tok0 : ∀ (d p f : Nat) (X : JM), p + d = t → d < f → TxM X L t → X 198 17 = N p → f131_0 f 198 X = f131_38 198 (jup X 198 17 (N (rnT isB L d p)))
  | _, _, 0, _, _, hf, _, _ => absurd hf (Nat.not_lt_zero _)
  | 0, p, f + 1, X, hp, _, h, h2 => by
    have h160 := h.2.1
    rw [f131_0, h2, h.1, if_neg (fun q => absurd ((N_lt (by omega) (by omega)).mp q) (by omega)), show rnT isB L 0 p = p from rfl, jup_id h2]
  | d + 1, p, f + 1, X, hp, hf, h, h2 => by
    have h160 := h.2.1
    rw [f131_0, h2, h.1, if_pos ((N_lt (by omega) (by omega)).mpr (by omega)), mp_3, txm_let h (by omega), Option.bind_some]
    unfold rnT isB
    by_cases h32 : L p = 32
    · rw [if_pos h32, if_pos (decide_eq_true h32), N_succ, Option.bind_some, m_tok0 d (p + 1) f _ (by omega) (by omega) (txm_up h (by decide)) jup_same, jup_jup]
      rfl
    · rw [if_neg h32, if_neg (by rw [decide_eq_false h32]; decide), jup_id h2]
theorem te_r {s : Nat} (h : s ≤ t) : s ≤ teT L t s ∧ teT L t s ≤ t := by
  unfold teT
  by_cases hs : s < t
  · rw [if_pos hs]
    have h1 := weT_r (L := L) h
    have h2 := geT_r (L := L) h
    split
    · exact h1
    · split
      · exact h2
      · omega
  · rw [if_neg hs]; omega
theorem m_tok {X : JM} {p : Nat} (h : TxM X L t) (h7 : X 198 17 = N p) (hp : p ≤ t) : ∃ Y, f131 198 X = some Y ∧ Tok X Y (skT L t p) (teT L t (skT L t p)) := by
  have hs := (skT_r (L := L) hp).2
  have h160 := h.2.1
  unfold f131
  rw [m_tok0 (t - p) p 1000 X (by omega) (by omega) h h7, show rnT isB L (t - p) p = skT L t p from rfl]
  generalize skT L t p = s at *
  obtain ⟨X1, hX1⟩ : ∃ X1, X1 = jup (jup X 198 17 (N s)) 198 18 (N s) := ⟨_, rfl⟩
  have a7 : X1 198 17 = N s := by rw [hX1, jup_nk (by omega), jup_same]
  have a8 : X1 198 18 = N s := by rw [hX1, jup_same]
  have at1 : TxM X1 L t := by rw [hX1]; exact txm_up (txm_up h (by decide)) (by decide)
  have fin : ∀ Y e, Tok X1 Y s e → Tok X Y s e := fun Y e q => ⟨q.1, q.2.1, q.2.2.1, fun j a b c => by rw [q.2.2.2.1 j a b c, hX1, jup_nk (by omega), jup_nk (by omega)], fun o ho => by rw [q.2.2.2.2 o ho, hX1, jup_o ho, jup_o ho]⟩
  unfold f131_38
  rw [jup_same, Option.bind_some, ← hX1, a7, at1.1]
  unfold f131_67 teT
  by_cases hst : s < t
  · rw [if_pos ((N_lt (by omega) (by omega)).mpr hst), if_pos hst, N_succ, Option.bind_some]
    obtain ⟨X2, hX2⟩ : ∃ X2, X2 = jup X1 198 17 (N (s + 1)) := ⟨_, rfl⟩
    have b7 : X2 198 17 = N (s + 1) := by rw [hX2, jup_same]
    have b8 : X2 198 18 = N s := by rw [hX2, jup_nk (by omega)]; exact a8
    have bt1 : TxM X2 L t := by rw [hX2]; exact txm_up at1 (by decide)
    have fin2 : ∀ Y e, Tok X2 Y s e → Tok X1 Y s e := fun Y e q => ⟨q.1, q.2.1, q.2.2.1, fun j a b c => by rw [q.2.2.2.1 j a b c, hX2, jup_nk (by omega)], fun o ho => by rw [q.2.2.2.2 o ho, hX2, jup_o ho]⟩
    rw [← hX2]
    cases hl : isL (L s) with
    | true =>
      rw [if_pos rfl, m_tk0 (s := s) (c := isL) (by rw [kd_L hl]; decide) (fun x => by rw [kd_L hl]; exact kd_1) hst (t - (s + 1)) (s + 1) 1000 X2 (by omega) (by omega) bt1 b8 b7]
      have e1 : weT L t s = rnT isL L (t - (s + 1)) (s + 1) := by
        unfold weT
        rw [show t - s = (t - (s + 1)) + 1 by omega, rnT, if_pos hl]
      rw [← e1]
      obtain ⟨Y, y1, y2⟩ := m_137 (e := weT L t s) b8
      exact ⟨Y, y1, fin Y _ (fin2 Y _ y2)⟩
    | false =>
      rw [if_neg (by decide)]
      cases hg : isG (L s) with
      | true =>
        have hk2 : kdF (L s) = 2 := of_decide_eq_true (by rw [kd_2]; exact hg)
        rw [if_pos rfl, m_tk0 (s := s) (c := isG) (by rw [hk2]; decide) (fun x => by rw [hk2]; exact kd_2) hst (t - (s + 1)) (s + 1) 1000 X2 (by omega) (by omega) bt1 b8 b7]
        have e1 : geT L t s = rnT isG L (t - (s + 1)) (s + 1) := by
          unfold geT
          rw [show t - s = (t - (s + 1)) + 1 by omega, rnT, if_pos hg]
        rw [← e1]
        obtain ⟨Y, y1, y2⟩ := m_137 (e := geT L t s) b8
        exact ⟨Y, y1, fin Y _ (fin2 Y _ y2)⟩
      | false =>
        rw [if_neg (by decide)]
        have hk0 : kdF (L s) = 0 := by unfold kdF; rw [hl, hg]; rfl
        obtain ⟨Y, y1, y2⟩ := m_137 (e := s + 1) b8
        rw [jup_id b7] at y1
        refine ⟨Y, ?_, fin Y _ (fin2 Y _ y2)⟩
        rw [f131_71, b7, bt1.1]
        by_cases h1 : s + 1 < t
        · rw [if_pos ((N_lt (by omega) (by omega)).mpr h1), mp_3, b8, txm_let bt1 hst, Option.bind_some, kd_ok, Option.bind_some, hk0, if_neg (by decide), y1]
        · rw [if_neg (fun q => h1 ((N_lt (by omega) (by omega)).mp q)), y1]
  · have e : s = t := by omega
    rw [if_neg (fun q => hst ((N_lt (by omega) (by omega)).mp q)), if_neg hst, show (0 : Int32) = N 0 from rfl, N_add, Nat.add_zero, Option.bind_some]
    obtain ⟨Y, y1, y2⟩ := m_137 (e := s) a8
    rw [jup_id a7] at y1 ⊢
    refine ⟨Y, ?_, fin Y _ y2⟩
    rw [f131_71, a7, at1.1, if_neg (fun q => hst ((N_lt (by omega) (by omega)).mp q)), y1]
/-- the words' codes -/
def cdT : List (Int32 × Nat × Int32) := [(21149155, 5, 0), (4898179, 5, 0), (12125715, 5, 0), (654618725, 7, 5), (4596995, 5, 0), (595123, 4, 0), (24613175, 5, 0), (207, 2, 0), (500, 2, 0), (143847, 4, 0), (23596, 3, 0), (145452, 4, 0), (378916, 4, 0)]
def cdA (w : Nat) : Int32 := (cdT.getD w (0, 0, 0)).1
def cdB (w : Nat) : Nat := (cdT.getD w (0, 0, 0)).2.1
def cdC (w : Nat) : Int32 := (cdT.getD w (0, 0, 0)).2.2
theorem cd_all : (List.range 13).all (fun w => decide (cdB w = wlT w) && (List.range (wlT w)).all (fun i => isL (wcT w i) && decide (wcT w i = (96 : Int32) + (if N i < (6 : Int32) then ((cdA w >>> (((5 : Int32) * N i) &&& (31 : Int32))) &&& (31 : Int32)) else cdC w)))) = true := by decide +kernel
theorem cd_len {w : Nat} (hw : w < 13) : cdB w = wlT w := by
  have q := List.all_eq_true.mp cd_all w (List.mem_range.mpr hw)
  rw [Bool.and_eq_true] at q
  exact of_decide_eq_true q.1
theorem cd_chr {w i : Nat} (hw : w < 13) (hi : i < wlT w) : isL (wcT w i) = true ∧ wcT w i = (96 : Int32) + (if N i < (6 : Int32) then ((cdA w >>> (((5 : Int32) * N i) &&& (31 : Int32))) &&& (31 : Int32)) else cdC w) := by
  have q := List.all_eq_true.mp cd_all w (List.mem_range.mpr hw)
  rw [Bool.and_eq_true] at q
  have q2 := List.all_eq_true.mp q.2 i (List.mem_range.mpr hi)
  rw [Bool.and_eq_true] at q2
  exact ⟨q2.1, of_decide_eq_true q2.2⟩
theorem jbo_132 {b : Bool} : jbo 132 (b2 b) = some (b2 b) := by cases b <;> rfl
theorem m_isw {X : JM} {s e w : Nat} (h : TxM X L t) (h8 : X 198 18 = N s) (h9 : X 198 19 = N e) (hse : s ≤ e) (he : e ≤ t) (hw : w < 13) : f132 X 198 (cdA w) (N (cdB w)) (cdC w) = some (b2 (wmT L s e w)) := by
  have h160 := h.2.1
  have hl := wl_lt w
  have stop : ∀ f i, f ≠ 0 → f132_23 X f 198 (cdA w) (N (wlT w)) (cdC w) (b2 false) i = some (b2 false) := fun f i hf => by
    obtain ⟨g, rfl⟩ : ∃ g, f = g + 1 := ⟨f - 1, by omega⟩
    rw [f132_23, if_pos (show b2 false = 0 from rfl), jbo_132]
  have key : ∀ (d i f : Nat), i + d = wlT w → s + wlT w ≤ t → d + 1 < f → f132_23 X f 198 (cdA w) (N (wlT w)) (cdC w) (b2 true) (N i) = some (b2 (fits (fun i => decide (wcT w i = L (s + i))) d i)) := by
    intro d
    induction d with
    | zero =>
      intro i f hi _ hf
      obtain ⟨f, rfl⟩ : ∃ g, f = g + 1 := ⟨f - 1, by omega⟩
      rw [f132_23, if_neg (show ¬ b2 true = 0 by decide), if_neg (fun q => absurd ((N_lt (by omega) (by omega)).mp q) (by omega)), jbo_132]
      rfl
    | succ d ih =>
      intro i f hi hq hf
      obtain ⟨f, rfl⟩ : ∃ g, f = g + 1 := ⟨f - 1, by omega⟩
      obtain ⟨_, ec⟩ := cd_chr hw (show i < wlT w by omega)
      have go : (if L (s + i) = (96 : Int32) + (if N i < (6 : Int32) then ((cdA w >>> (((5 : Int32) * N i) &&& (31 : Int32))) &&& (31 : Int32)) else cdC w) then f132_77 X (f132_23 X f) 198 (cdA w) (N (wlT w)) (cdC w) (N i) (1 : Int32) else f132_77 X (f132_23 X f) 198 (cdA w) (N (wlT w)) (cdC w) (N i) (0 : Int32)) = some (b2 (fits (fun i => decide (wcT w i = L (s + i))) (d + 1) i)) := by
        rw [← ec]
        show _ = some (b2 (decide (wcT w i = L (s + i)) && fits (fun i => decide (wcT w i = L (s + i))) d (i + 1)))
        unfold f132_77
        rw [N_succ]
        by_cases hc : L (s + i) = wcT w i
        · rw [if_pos hc, decide_eq_true hc.symm]
          exact ih (i + 1) f (by omega) hq (by omega)
        · rw [if_neg hc, decide_eq_false (fun q => hc q.symm)]
          exact stop f _ (by omega)
      rw [f132_23, if_neg (show ¬ b2 true = 0 by decide), if_pos ((N_lt (by omega) (by omega)).mpr (by omega)), h8, N_add, mp_3, txm_let h (by omega), Option.bind_some]
      by_cases h6 : N i < (6 : Int32)
      · rw [if_pos h6] at go ⊢
        exact go
      · rw [if_neg h6] at go ⊢
        exact go
  unfold f132 wmT f132_18
  rw [h8, h9, show N e - N s = N (e - s) from (Int32.ofNat_sub e s hse).symm, cd_len hw]
  by_cases hq : wlT w = e - s
  · rw [if_pos (by rw [hq]), decide_eq_true hq, Bool.true_and]
    exact key (wlT w) 0 1000 (by omega) (by omega) (by omega)
  · rw [if_neg (fun z => hq ((N_eq (by omega) (by omega)).mp z).symm), decide_eq_false hq]
    exact stop 1000 _ (by decide)
theorem wl_2 : ∀ w, w < 13 → 2 ≤ wlT w := fun w h => by
  have q : (List.range 13).all (fun w => decide (2 ≤ wlT w)) = true := by decide +kernel
  exact of_decide_eq_true (List.all_eq_true.mp q w (List.mem_range.mpr h))
/-- a token that is no word matches none -/
theorem wm_te {s w : Nat} (hs : s ≤ t) (hw : w < 13) : wmT L s (teT L t s) w = wmT L s (weT L t s) w := by
  have h2 := wl_2 w hw
  by_cases hst : s < t
  · unfold teT
    rw [if_pos hst]
    cases hl : isL (L s) with
    | true => rw [if_pos rfl]
    | false =>
      rw [if_neg (by decide)]
      have e1 : weT L t s = s := by
        unfold weT
        obtain ⟨d, hd⟩ : ∃ d, t - s = d + 1 := ⟨t - s - 1, by omega⟩
        rw [hd, rnT, if_neg (by rw [hl]; decide)]
      have no : ∀ e, wmT L s e w = false := fun e => by
        cases hb : wmT L s e w with
        | false => rfl
        | true =>
          unfold wmT at hb
          rw [Bool.and_eq_true] at hb
          have q := of_decide_eq_true (fits_all (wlT w) 0 hb.2 0 (by omega) (by omega))
          have q2 := (cd_chr hw (show 0 < wlT w by omega)).1
          rw [q, Nat.add_zero, hl] at q2
          cases q2
      rw [no, no]
  · have e : s = t := by omega
    unfold teT weT
    rw [if_neg hst, e, Nat.sub_self]
    rfl
/-- the reference's number for a word -/
def rcT (w : Nat) : Int32 := if w < 11 then N (w + 1) else if w = 11 then 0 else 12
theorem m_wordA {X : JM} {s e : Nat} (h : TxM X L t) (h8 : X 198 18 = N s) (h9 : X 198 19 = N e) (hse : s ≤ e) (he : e ≤ t) (hno : ∀ w, w < 13 → wmT L s e w = false) : f135 X 198 = some (-1) := by
  have q : ∀ w, w < 13 → f132 X 198 (cdA w) (N (cdB w)) (cdC w) = some 0 := fun w hw => by rw [m_isw h h8 h9 hse he hw, hno w hw]; rfl
  have e133 : f133 X 198 = some (-1) := by
    unfold f133
    rw [show f132 X 198 21149155 5 0 = some 0 from q 0 (by omega), show f132 X 198 4898179 5 0 = some 0 from q 1 (by omega), show f132 X 198 12125715 5 0 = some 0 from q 2 (by omega), show f132 X 198 654618725 7 5 = some 0 from q 3 (by omega)]
    rfl
  have e134 : f134 X 198 = some (-1) := by
    unfold f134
    rw [show f132 X 198 4596995 5 0 = some 0 from q 4 (by omega), show f132 X 198 595123 4 0 = some 0 from q 5 (by omega), show f132 X 198 24613175 5 0 = some 0 from q 6 (by omega)]
    rfl
  unfold f135 f135_19
  rw [e133, e134, show f132 X 198 207 2 0 = some 0 from q 7 (by omega), show f132 X 198 500 2 0 = some 0 from q 8 (by omega), show f132 X 198 143847 4 0 = some 0 from q 9 (by omega), show f132 X 198 23596 3 0 = some 0 from q 10 (by omega), show f132 X 198 145452 4 0 = some 0 from q 11 (by omega), show f132 X 198 378916 4 0 = some 0 from q 12 (by omega)]
  rfl
theorem m_wordB {X : JM} {s e w : Nat} (h : TxM X L t) (h8 : X 198 18 = N s) (h9 : X 198 19 = N e) (hse : s ≤ e) (he : e ≤ t) (hw : w < 13) (hyes : wmT L s e w = true) : f135 X 198 = some (rcT w) := by
  have q : ∀ v, v < 13 → f132 X 198 (cdA v) (N (cdB v)) (cdC v) = some (if v = w then 1 else 0) := fun v hv => by
    rw [m_isw h h8 h9 hse he hv]
    by_cases ev : v = w
    · rw [if_pos ev, ev, hyes]; rfl
    · rw [if_neg ev]
      cases hb : wmT L s e v with
      | false => rfl
      | true => exact absurd (wmT_one hv hw hb hyes) ev
  unfold f135 f135_19 f133 f134
  rw [show f132 X 198 21149155 5 0 = _ from q 0 (by omega), show f132 X 198 4898179 5 0 = _ from q 1 (by omega), show f132 X 198 12125715 5 0 = _ from q 2 (by omega), show f132 X 198 654618725 7 5 = _ from q 3 (by omega), show f132 X 198 4596995 5 0 = _ from q 4 (by omega), show f132 X 198 595123 4 0 = _ from q 5 (by omega), show f132 X 198 24613175 5 0 = _ from q 6 (by omega), show f132 X 198 207 2 0 = _ from q 7 (by omega), show f132 X 198 500 2 0 = _ from q 8 (by omega), show f132 X 198 143847 4 0 = _ from q 9 (by omega), show f132 X 198 23596 3 0 = _ from q 10 (by omega), show f132 X 198 145452 4 0 = _ from q 11 (by omega), show f132 X 198 378916 4 0 = _ from q 12 (by omega)]
  rcases (show w = 0 ∨ w = 1 ∨ w = 2 ∨ w = 3 ∨ w = 4 ∨ w = 5 ∨ w = 6 ∨ w = 7 ∨ w = 8 ∨ w = 9 ∨ w = 10 ∨ w = 11 ∨ w = 12 by omega) with rfl | rfl | rfl | rfl | rfl | rfl | rfl | rfl | rfl | rfl | rfl | rfl | rfl <;> rfl
end TK
