/-! PURE: the text: runs of letters, the class's readers -/
def rnT (c : Int32 → Bool) (L : Nat → Int32) : Nat → Nat → Nat
  | 0, p => p
  | d + 1, p => if c (L p) = true then rnT c L d (p + 1) else p
def isB (x : Int32) : Bool := decide (x = 32)
def isL (x : Int32) : Bool := !(decide (x < 97)) && !(decide (122 < x))
def isG (x : Int32) : Bool := !(decide (x < 48)) && !(decide (57 < x))
theorem rnT_ge {c : Int32 → Bool} {L : Nat → Int32} : ∀ d p, p ≤ rnT c L d p ∧ rnT c L d p ≤ p + d
  | 0, p => ⟨Nat.le_refl _, Nat.le_refl _⟩
  | d + 1, p => by
    unfold rnT
    split
    · have := rnT_ge (c := c) (L := L) d (p + 1)
      omega
    · omega
def skT (L : Nat → Int32) (t p : Nat) : Nat := rnT isB L (t - p) p
def weT (L : Nat → Int32) (t p : Nat) : Nat := rnT isL L (t - p) p
def geT (L : Nat → Int32) (t p : Nat) : Nat := rnT isG L (t - p) p
theorem skT_r {L : Nat → Int32} {t p : Nat} (h : p ≤ t) : p ≤ skT L t p ∧ skT L t p ≤ t := by
  have := rnT_ge (c := isB) (L := L) (t - p) p
  unfold skT
  omega
theorem weT_r {L : Nat → Int32} {t p : Nat} (h : p ≤ t) : p ≤ weT L t p ∧ weT L t p ≤ t := by
  have := rnT_ge (c := isL) (L := L) (t - p) p
  unfold weT
  omega
theorem geT_r {L : Nat → Int32} {t p : Nat} (h : p ≤ t) : p ≤ geT L t p ∧ geT L t p ≤ t := by
  have := rnT_ge (c := isG) (L := L) (t - p) p
  unfold geT
  omega
def TxC (X : JM) (L : Nat → Int32) (t : Nat) : Prop := X 1 1 = N t ∧ t ≤ 160 ∧ ∀ i, i < t → X 3 i = L i
theorem txc_let {X : JM} {L : Nat → Int32} {t p : Nat} (h : TxC X L t) (hp : p < t) : f42 X (jpt 1 0) (N p) = some (L p) := by
  rw [get_in row_txt (show p < 160 by have := h.2.1; omega), h.2.2 p hp]
theorem txc_up {X : JM} {L : Nat → Int32} {t j : Nat} {v : Int32} (h : TxC X L t) (hj : j ≠ 1) : TxC (jup X 1 j v) L t := ⟨by rw [jup_nk (by omega)]; exact h.1, h.2.1, fun i hi => by rw [jup_o (by decide)]; exact h.2.2 i hi⟩
theorem jup_id {X : JM} {o k : Nat} {v : Int32} (h : X o k = v) : jup X o k v = X := by
  funext a b
  rw [jup_at]
  by_cases e : a = o ∧ b = k
  · rw [if_pos e, e.1, e.2, h]
  · rw [if_neg e]
theorem within_ok {x a b : Int32} : f66 x a b = some (b2 (!(decide (x < a)) && !(decide (b < x)))) := by
  unfold f66
  by_cases h : x < a
  · rw [if_pos h, decide_eq_true h]; rfl
  · rw [if_neg h, decide_eq_false h]
    by_cases h2 : b < x
    · rw [if_pos h2, decide_eq_true h2]; rfl
    · rw [if_neg h2, decide_eq_false h2]; rfl
section T1
variable {L : Nat → Int32} {t : Nat}
theorem c_skip0 : ∀ (d p f : Nat) (X : JM), p + d = t → d < f → TxC X L t → X 1 2 = N p → f65_0 f 1 X = some (jup X 1 2 (N (rnT isB L d p)))
  | _, _, 0, _, _, hf, _, _ => absurd hf (Nat.not_lt_zero _)
  | 0, p, f + 1, X, hp, _, h, h2 => by
    have h160 := h.2.1
    rw [f65_0, h2, h.1, if_neg (fun q => absurd ((N_lt (by omega) (by omega)).mp q) (by omega)), show rnT isB L 0 p = p from rfl, jup_id h2]
  | d + 1, p, f + 1, X, hp, hf, h, h2 => by
    have h160 := h.2.1
    rw [f65_0, h2, h.1, if_pos ((N_lt (by omega) (by omega)).mpr (by omega)), txc_let h (by omega), Option.bind_some]
    unfold rnT isB
    by_cases h32 : L p = 32
    · rw [if_pos h32, if_pos (decide_eq_true h32), N_succ, Option.bind_some, c_skip0 d (p + 1) f _ (by omega) (by omega) (txc_up h (by decide)) jup_same, jup_jup]
      rfl
    · rw [if_neg h32, if_neg (by rw [decide_eq_false h32]; decide), jup_id h2]
theorem c_skip {X : JM} {p : Nat} (h : TxC X L t) (h2 : X 1 2 = N p) (hp : p ≤ t) : f65 1 X = some (jup X 1 2 (N (skT L t p))) := c_skip0 (t - p) p 1000 X (by omega) (by have := h.2.1; omega) h h2
/-- a number read -/
def vlT (L : Nat → Int32) (s e : Nat) : Int32 := itr (fun i v => v * 10 + L i - 48) s (e - s) 0
def badN (L : Nat → Int32) (s e : Nat) (most unl : Int32) : Bool := decide (e - s < 1) || (decide (2 < e - s) || (decide (most < vlT L s e) || decide (vlT L s e = unl)))
def rdT (L : Nat → Int32) (t p : Nat) (most unl : Int32) : Option (Int32 × Nat) := if badN L (skT L t p) (geT L t (skT L t p)) most unl = true then none else some (vlT L (skT L t p) (geT L t (skT L t p)), geT L t (skT L t p))
theorem rdT_le {p q : Nat} {most unl v : Int32} (hp : p ≤ t) (h : rdT L t p most unl = some (v, q)) : q ≤ t := by
  unfold rdT at h
  split at h
  · cases h
  · cases h
    exact (geT_r (skT_r hp).2).2
theorem c_num0 {s : Nat} {most unl : Int32} (hs : s ≤ t) : ∀ (d p f : Nat) (v : Int32) (X : JM), p + d = t → d < f → s ≤ p → TxC X L t → X 1 2 = N p → f64_22 f 1 most unl (N s) v X = f64_89 1 most unl (N s) (itr (fun i v => v * 10 + L i - 48) p (rnT isG L d p - p) v) (jup X 1 2 (N (rnT isG L d p)))
  | _, _, 0, _, _, _, hf, _, _, _ => absurd hf (Nat.not_lt_zero _)
  | 0, p, f + 1, v, X, hp, _, _, h, h2 => by
    have h160 := h.2.1
    rw [f64_22, h2, h.1, if_neg (fun q => absurd ((N_lt (by omega) (by omega)).mp q) (by omega)), show rnT isG L 0 p = p from rfl, jup_id h2, Nat.sub_self]
    rfl
  | d + 1, p, f + 1, v, X, hp, hf, hsp, h, h2 => by
    have h160 := h.2.1
    rw [f64_22, h2, h.1, if_pos ((N_lt (by omega) (by omega)).mpr (by omega)), txc_let h (by omega), Option.bind_some, within_ok, Option.bind_some]
    have hr : rnT isG L (d + 1) p = if isG (L p) = true then rnT isG L d (p + 1) else p := rfl
    rw [hr, show (!(decide (L p < 48)) && !(decide (57 < L p))) = isG (L p) from rfl]
    cases hg : isG (L p) with
    | false => rw [if_pos (show b2 false = 0 from rfl), if_neg (by decide), jup_id h2, Nat.sub_self]; rfl
    | true =>
      have hge := (rnT_ge (c := isG) (L := L) d (p + 1)).1
      rw [if_neg (show ¬ b2 true = 0 by decide), if_pos rfl, Option.bind_some, Option.bind_some, N_succ, c_num0 hs d (p + 1) f _ _ (by omega) (by omega) (by omega) (txc_up h (by decide)) jup_same, jup_jup, show rnT isG L d (p + 1) - p = (rnT isG L d (p + 1) - (p + 1)) + 1 by omega]
      rfl
theorem c_num {X : JM} {p : Nat} {most unl : Int32} (h : TxC X L t) (h2 : X 1 2 = N p) (h3 : X 1 3 = -1) (hp : p ≤ t) : f64 1 most unl X = match rdT L t p most unl with | some (v, q) => some (v, jup X 1 2 (N q)) | none => some (-1, jup (jup X 1 2 (N (geT L t (skT L t p)))) 1 3 (N (skT L t p))) := by
  have hs := (skT_r (L := L) hp).2
  have hr := geT_r (L := L) hs
  have h160 := h.2.1
  unfold f64
  rw [h3, if_pos rfl, c_skip h h2 hp, Option.bind_some, jup_same, c_num0 hs (t - skT L t p) (skT L t p) 1000 0 _ (by omega) (by omega) (Nat.le_refl _) (txc_up h (by decide)) jup_same, jup_jup]
  unfold rdT badN vlT f64_89
  rw [jup_same, show rnT isG L (t - skT L t p) (skT L t p) = geT L t (skT L t p) from rfl]
  generalize itr (fun i v => v * 10 + L i - 48) (skT L t p) (geT L t (skT L t p) - skT L t p) 0 = v
  generalize skT L t p = s at *
  generalize geT L t s = e at *
  have es : N e - N s = N (e - s) := (Int32.ofNat_sub e s hr.1).symm
  rw [es]
  have hf : f64_121 1 (N s) (jup X 1 2 (N e)) = some (-1, jup (jup X 1 2 (N e)) 1 3 (N s)) := by unfold f64_121; rfl
  by_cases b1 : e - s < 1
  · rw [if_pos (show N (e - s) < (1 : Int32) from (N_lt (b := 1) (by omega) (by omega)).mpr b1), hf, decide_eq_true b1]; rfl
  · rw [if_neg (show ¬ N (e - s) < (1 : Int32) from fun q => b1 ((N_lt (b := 1) (by omega) (by omega)).mp q)), decide_eq_false b1, Bool.false_or]
    by_cases b2' : 2 < e - s
    · rw [if_pos (show (2 : Int32) < N (e - s) from (N_lt (a := 2) (by omega) (by omega)).mpr b2'), hf, decide_eq_true b2']; rfl
    · rw [if_neg (show ¬ (2 : Int32) < N (e - s) from fun q => b2' ((N_lt (a := 2) (by omega) (by omega)).mp q)), decide_eq_false b2', Bool.false_or]
      by_cases b3 : most < v
      · rw [if_pos b3, hf, decide_eq_true b3]; rfl
      · rw [if_neg b3, decide_eq_false b3, Bool.false_or]
        by_cases b4 : v = unl
        · rw [if_pos b4, hf, decide_eq_true b4]; rfl
        · rw [if_neg b4, decide_eq_false b4]; rfl
end T1
