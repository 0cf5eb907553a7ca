/-! PURE: the words, on both sides -/
def wlT (w : Nat) : Nat := (jStr.getD w []).length
def wcT (w i : Nat) : Int32 := (jStr.getD w []).getD i 0
def wmT (L : Nat → Int32) (s e w : Nat) : Bool := decide (wlT w = e - s) && fits (fun i => decide (wcT w i = L (s + i))) (wlT w) 0
theorem fits_all {g : Nat → Bool} : ∀ d i, fits g d i = true → ∀ j, i ≤ j → j < i + d → g j = true
  | 0, _, _, j, h1, h2 => by omega
  | d + 1, i, h, j, h1, h2 => by
    have h' : (g i && fits g d (i + 1)) = true := h
    rw [Bool.and_eq_true] at h'
    by_cases e : j = i
    · rw [e]; exact h'.1
    · exact fits_all d (i + 1) h'.2 j (by omega) (by omega)
theorem words_all : (List.range 13).all (fun w => (List.range 13).all (fun v => decide (w = v) || (!(decide (wlT w = wlT v)) || (List.range (wlT w)).any (fun i => !(decide (wcT w i = wcT v i)))))) = true := by decide +kernel
theorem wmT_one {L : Nat → Int32} {s e w v : Nat} (hw : w < 13) (hv : v < 13) (h1 : wmT L s e w = true) (h2 : wmT L s e v = true) : w = v := by
  unfold wmT at h1 h2
  rw [Bool.and_eq_true, decide_eq_true_iff] at h1 h2
  have q := List.all_eq_true.mp (List.all_eq_true.mp words_all w (List.mem_range.mpr hw)) v (List.mem_range.mpr hv)
  rw [Bool.or_eq_true, decide_eq_true_iff] at q
  rcases q with q | q
  · exact q
  · rw [decide_eq_true (h1.1.trans h2.1.symm), Bool.not_true, Bool.false_or, List.any_eq_true] at q
    obtain ⟨i, hi, hne⟩ := q
    have hi2 := List.mem_range.mp hi
    have e1 := of_decide_eq_true (fits_all (wlT w) 0 h1.2 i (by omega) (by omega))
    have e2 := of_decide_eq_true (fits_all (wlT v) 0 h2.2 i (by omega) (by omega))
    rw [decide_eq_true (e1.trans e2.symm)] at hne
    cases hne
theorem jok_ge {a kd : Nat} (h : 216 ≤ a) : jok jE0 a kd = false := by
  cases hb : jok jE0 a kd with
  | false => rfl
  | true => exact absurd (jok_lt hb) (by omega)
theorem str_rb : ∀ w, w < 13 → jrb (1000040 + w) = some (jStr.getD w []) := fun w hw => by
  unfold jrb
  rw [show (Nat.ble 1000040 (1000040 + w) && Nat.ble (1000040 + w) 1000052) = true by
    rw [Bool.and_eq_true]
    exact ⟨Nat.ble_eq_true_of_le (by omega), Nat.ble_eq_true_of_le (by omega)⟩, Nat.add_sub_cancel_left]
  rfl
theorem str_ro {xs : Option (List Int32)} : ∀ w, w < 13 → jro xs (1000040 + w) = none := fun w hw => by
  unfold jro
  have q : ∀ b, b < 1000040 → Nat.beq (1000040 + w) b = false := fun b hb => by
    cases h : Nat.beq (1000040 + w) b with
    | false => rfl
    | true => exact absurd (Nat.eq_of_beq_eq_true h) (by omega)
  rw [q 1000000 (by omega), q 1000001 (by omega), q 1000002 (by omega)]
  rfl
theorem str_al {xs : Option (List Int32)} {w : Nat} (hw : w < 13) : jal xs (1000040 + w) = some (N (wlT w)) := by
  unfold jal
  rw [jok_ge (by omega), jok_ge (by omega), jok_ge (by omega), str_ro w hw, str_rb w hw]
  rfl
theorem wl_lt : ∀ w, wlT w ≤ 10 := fun w => by
  by_cases h : w < 13
  · have q : (List.range 13).all (fun w => decide (wlT w ≤ 10)) = true := by decide +kernel
    exact of_decide_eq_true (List.all_eq_true.mp q w (List.mem_range.mpr h))
  · have : jStr.getD w [] = [] := by
      rw [List.getD_eq_getElem?_getD, List.getElem?_eq_none (by show 13 ≤ w; omega)]; rfl
    unfold wlT
    rw [this]; exact Nat.zero_le _
theorem str_ly {M : JM} {w i : Nat} (hw : w < 13) (hi : i < wlT w) : jly (1000040 + w) (N i) M = some (wcT w i) := by
  have := wl_lt w
  unfold jly
  rw [jok_ge (by omega), str_rb w hw]
  show (bif jin (N i) (jStr.getD w []).length then some ((jStr.getD w []).getD (N i).toNatClampNeg 0) else none) = _
  rw [jin_N (by omega), decide_eq_true (show i < (jStr.getD w []).length from hi), N_nat (by omega)]
  rfl
theorem str_len {xs : Option (List Int32)} {w : Nat} (hw : w < 13) : f210 xs (1000010 + w) = some (N (wlT w)) := by
  unfold f210 f212
  rw [show 1000010 + w + 30 = 1000040 + w by omega, str_al hw, if_neg (by decide), Option.bind_some, Option.bind_some]
  have q : (List.range 11).all (fun l => (N l >>> ((0 : Int32) &&& (31 : Int32))) == N l) = true := by decide +kernel
  have := wl_lt w
  rw [eq_of_beq (List.all_eq_true.mp q (wlT w) (List.mem_range.mpr (by omega)))]
theorem chr_all : (List.range 13).all (fun w => (List.range (wlT w)).all (fun i => jbo 215 (((wcT w i &&& (255 : Int32)).toUInt32 % 65536).toInt32) == some (wcT w i) && (jbo 211 (wcT w i) == some (wcT w i)))) = true := by decide +kernel
theorem str_chr {xs : Option (List Int32)} {M : JM} {w i : Nat} (hw : w < 13) (hi : i < wlT w) : f211 xs M (1000010 + w) (N i) = some (wcT w i) := by
  have hl := wl_lt w
  have q := List.all_eq_true.mp (List.all_eq_true.mp chr_all w (List.mem_range.mpr hw)) i (List.mem_range.mpr hi)
  rw [Bool.and_eq_true] at q
  unfold f211 f213 f215 f214 f216
  rw [if_neg (by decide), if_pos rfl, Option.bind_some, if_neg (by decide), show 1000010 + w + 30 = 1000040 + w by omega, str_al hw, Option.bind_some, if_neg (N_neg (by omega)), if_pos ((N_lt (by omega) (by omega)).mpr hi), Option.bind_some, Option.bind_some, str_ly hw hi, Option.bind_some, eq_of_beq q.1, Option.bind_some, eq_of_beq q.2]
section W1
variable {L : Nat → Int32} {t : Nat} {xs : Option (List Int32)}
theorem c_spell {X : JM} {s e w : Nat} (h : TxC X L t) (h2 : X 1 2 = N e) (hse : s ≤ e) (he : e ≤ t) (hw : w < 13) : f63 xs X 1 (1000010 + w) (N s) = some (b2 (wmT L s e w)) := by
  have h160 := h.2.1
  have hl := wl_lt w
  unfold f63 wmT
  rw [str_len hw, Option.bind_some, h2, show N e - N s = N (e - s) from (Int32.ofNat_sub e s hse).symm]
  by_cases hq : wlT w = e - s
  · rw [if_pos (by rw [hq]), decide_eq_true hq, Bool.true_and]
    have key : ∀ (d i f : Nat), i + d = wlT w → d < f → f63_17 xs X f 1 (1000010 + w) (N s) (N i) = some (b2 (fits (fun i => decide (wcT w i = L (s + i))) d i)) := by
      intro d
      induction d with
      | zero =>
        intro i f hi hf
        obtain ⟨f, rfl⟩ : ∃ g, f = g + 1 := ⟨f - 1, by omega⟩
        have e1 : i = wlT w := hi
        rw [f63_17, str_len hw, Option.bind_some, e1, if_neg (fun q => Nat.lt_irrefl _ ((N_lt (by omega) (by omega)).mp q))]
        rfl
      | succ d ih =>
        intro i f hi hf
        obtain ⟨f, rfl⟩ : ∃ g, f = g + 1 := ⟨f - 1, by omega⟩
        rw [f63_17, str_len hw, Option.bind_some, if_pos ((N_lt (by omega) (by omega)).mpr (by omega)), str_chr hw (by omega), Option.bind_some, N_add, txc_let h (by omega), Option.bind_some, N_succ, ih (i + 1) f (by omega) (by omega)]
        show _ = some (b2 (decide (wcT w i = L (s + i)) && _))
        by_cases hc : wcT w i = L (s + i)
        · rw [if_pos hc, decide_eq_true hc]; rfl
        · rw [if_neg hc, decide_eq_false hc]; rfl
    exact key (wlT w) 0 1000 (by omega) (by omega)
  · rw [if_neg (fun z => hq ((N_eq (by omega) (by omega)).mp z)), decide_eq_false hq]; rfl
def csT (n k w : Nat) : Bool := if w < 4 then decide (k < 6) else if w < 7 then decide (n < 9) else true
theorem c_cs {X : JM} {n k w : Nat} (h0 : X 19 0 = N n) (h1 : X 19 1 = N k) (hn : n ≤ 9) (hk : k ≤ 6) (hw : w < 13) : f61 X (N w) 19 = some (b2 (csT n k w)) := by
  have e44 : f61_44 X 19 = some (b2 (decide (k < 6))) := by
    unfold f61_44
    rw [h1]
    by_cases h : k < 6
    · rw [if_pos (show N k < (6 : Int32) from (N_lt (b := 6) (by omega) (by omega)).mpr h), decide_eq_true h]; rfl
    · rw [if_neg (show ¬ N k < (6 : Int32) from fun q => h ((N_lt (b := 6) (by omega) (by omega)).mp q)), decide_eq_false h]; rfl
  have e59 : f61_59 X 19 = some (b2 (decide (n < 9))) := by
    unfold f61_59
    rw [h0]
    by_cases h : n < 9
    · rw [if_pos (show N n < (9 : Int32) from (N_lt (b := 9) (by omega) (by omega)).mpr h), decide_eq_true h]; rfl
    · rw [if_neg (show ¬ N n < (9 : Int32) from fun q => h ((N_lt (b := 9) (by omega) (by omega)).mp q)), decide_eq_false h]; rfl
  unfold f61 csT
  rw [e44, e59]
  rcases (show w = 0 ∨ w = 1 ∨ w = 2 ∨ w = 3 ∨ w = 4 ∨ w = 5 ∨ w = 6 ∨ w = 7 ∨ w = 8 ∨ w = 9 ∨ w = 10 ∨ w = 11 ∨ w = 12 by omega) with rfl | rfl | rfl | rfl | rfl | rfl | rfl | rfl | rfl | rfl | rfl | rfl | rfl <;> rfl
theorem str_62 : (List.range 13).all (fun w => f62 (N w) == some (1000010 + w)) = true := by decide +kernel
theorem str_id {w : Nat} (hw : w < 13) : f62 (N w) = some (1000010 + w) := eq_of_beq (List.all_eq_true.mp str_62 w (List.mem_range.mpr hw))
def wdT (L : Nat → Int32) (s e n k : Nat) : Option Nat := fbn (fun w => wmT L s e w && csT n k w) 13 0
theorem c_find {X : JM} {s e n k : Nat} (h : TxC X L t) (h2 : X 1 2 = N e) (hse : s ≤ e) (he : e ≤ t) (h0 : X 19 0 = N n) (h1 : X 19 1 = N k) (hn : n ≤ 9) (hk : k ≤ 6) : f60_54 xs 1 19 (N s) X = match wdT L s e n k with | some w => some (N w, X) | none => some (-1, jup X 1 3 (N s)) := by
  unfold f60_54 wdT
  have key : ∀ (d w f : Nat), w + d = 13 → d < f → f60_56 xs f 1 19 (N s) (N w) X = match fbn (fun w => wmT L s e w && csT n k w) d w with | some w => some (N w, X) | none => some (-1, jup X 1 3 (N s)) := by
    intro d
    induction d with
    | zero =>
      intro w f hw hf
      obtain ⟨f, rfl⟩ : ∃ g, f = g + 1 := ⟨f - 1, by omega⟩
      rw [f60_56, if_neg (show ¬ N w < (13 : Int32) from fun q => absurd ((N_lt (b := 13) (by omega) (by omega)).mp q) (by omega))]
      rfl
    | succ d ih =>
      intro w f hw hf
      obtain ⟨f, rfl⟩ : ∃ g, f = g + 1 := ⟨f - 1, by omega⟩
      have e1 := ih (w + 1) f (by omega) (by omega)
      rw [f60_56, if_pos (show N w < (13 : Int32) from (N_lt (b := 13) (by omega) (by omega)).mpr (by omega)), str_id (by omega), Option.bind_some, c_spell h h2 hse he (by omega), Option.bind_some, c_cs h0 h1 hn hk (by omega), Option.bind_some]
      unfold f60_84
      rw [N_succ, e1]
      show _ = match (if (wmT L s e w && csT n k w) = true then some w else fbn (fun w => wmT L s e w && csT n k w) d (w + 1)) with | some w => some (N w, X) | none => some (-1, jup X 1 3 (N s))
      simp only [b2_0]
      cases wmT L s e w with
      | false => rfl
      | true => cases csT n k w <;> rfl
  exact key 13 0 1000 (by omega) (by omega)
theorem c_run0 {n k s : Nat} (h160 : t ≤ 160) : ∀ (d p f : Nat) (X : JM), p + d = t → d < f → s ≤ p → TxC X L t → X 1 2 = N p → f60_9 xs f 1 19 (N s) X = f60_54 xs 1 19 (N s) (jup X 1 2 (N (rnT isL L d p)))
  | _, _, 0, _, _, hf, _, _, _ => absurd hf (Nat.not_lt_zero _)
  | 0, p, f + 1, X, hp, _, _, h, h2 => by
    rw [f60_9, h2, h.1, if_neg (fun q => absurd ((N_lt (by omega) (by omega)).mp q) (by omega)), show rnT isL L 0 p = p from rfl, jup_id h2]
  | d + 1, p, f + 1, X, hp, hf, hsp, h, h2 => by
    rw [f60_9, h2, h.1, if_pos ((N_lt (by omega) (by omega)).mpr (by omega)), txc_let h (by omega), Option.bind_some, within_ok, Option.bind_some]
    have hr : rnT isL L (d + 1) p = if isL (L p) = true then rnT isL L d (p + 1) else p := rfl
    rw [hr, show (!(decide (L p < 97)) && !(decide (122 < L p))) = isL (L p) from rfl]
    cases hg : isL (L p) with
    | false => rw [if_pos (show b2 false = 0 from rfl), if_neg (by decide), jup_id h2]
    | true =>
      rw [if_neg (show ¬ b2 true = 0 by decide), if_pos rfl, N_succ, Option.bind_some, c_run0 (n := n) (k := k) h160 d (p + 1) f _ (by omega) (by omega) (by omega) (txc_up h (by decide)) jup_same, jup_jup]
theorem c_word {X : JM} {p n k : Nat} (h : TxC X L t) (h2 : X 1 2 = N p) (hp : p ≤ t) (h0 : X 19 0 = N n) (h1 : X 19 1 = N k) (hn : n ≤ 9) (hk : k ≤ 6) : f60 xs 1 19 X = match wdT L (skT L t p) (weT L t (skT L t p)) n k with | some w => some (N w, jup X 1 2 (N (weT L t (skT L t p)))) | none => some (-1, jup (jup X 1 2 (N (weT L t (skT L t p)))) 1 3 (N (skT L t p))) := by
  have hs := (skT_r (L := L) hp).2
  have hw := weT_r (L := L) hs
  have h160 := h.2.1
  unfold f60
  rw [c_skip h h2 hp, Option.bind_some, jup_same, c_run0 (n := n) (k := k) h160 (t - skT L t p) (skT L t p) 1000 _ (by omega) (by omega) (Nat.le_refl _) (txc_up h (by decide)) jup_same, jup_jup]
  exact c_find (txc_up h (by decide)) jup_same hw.1 hw.2 (by rw [jup_o (by decide)]; exact h0) (by rw [jup_o (by decide)]; exact h1) hn hk
end W1
