/-! PURE: weddings -/
section T2
variable {Z : JM} {n : Nat} {V : Nat → Nat → Bool}
theorem m_low {h71 : Nat → Int32 → JM → Option JM} {X : JM} {m l : Nat} (hX : X 198 7 = N n) (hn : n ≤ 9) (hl : l = n ∨ (l < n ∧ bt (N m) l = true)) (h0 : ∀ j, j < l → bt (N m) j = false) : ∀ (d i f : Nat), i + d = l → d < f → f191_83 h71 f 198 (N m) (N i) X = f191_105 h71 198 (N m) (N l) X
  | _, _, 0, _, hf => absurd hf (Nat.not_lt_zero _)
  | 0, i, f + 1, hi, _ => by
    have e : i = l := hi
    subst e
    rcases hl with hl | ⟨hl, hb⟩
    · rw [f191_83, hX, if_neg (fun q => absurd ((N_lt (by omega) (by omega)).mp q) (by omega))]
    · rw [f191_83, hX, if_pos ((N_lt (by omega) (by omega)).mpr hl), m_has (by omega), Option.bind_some, hb, if_neg (show ¬ b2 true = 0 by decide)]
  | d + 1, i, f + 1, hi, hf => by
    have hln : l ≤ n := by omega
    rw [f191_83, hX, if_pos ((N_lt (by omega) (by omega)).mpr (by omega)), m_has (by omega), Option.bind_some, h0 i (by omega), if_pos (show b2 false = 0 from rfl), N_succ]
    exact m_low hX hn hl h0 d (i + 1) f (by omega) (by omega)
theorem m_tab1 {h71 : Nat → Int32 → JM → Option JM} (hZ : Z 198 7 = N n) (hn : n ≤ 9) (hV : ∀ i o, V i o = true → i < o) (hW : ∀ l o, l < n → l < o → o < n → bt (Z 212 l) o = V l o) (hWl : ∀ l, l < n → bt (Z 212 l) l = false) {m : Nat} {X : JM} (hm : m < 2 ^ n) (hX : Tb V Z m X) : f191_83 h71 1000 198 (N m) (0 : Int32) X = h71 198 (N m + 1) (jup X 211 m (N (gmx V 9 0 (N m)))) := by
  have hp := pow_le hn
  have x7 : X 198 7 = N n := by rw [hX.1 198 (by decide)]; exact hZ
  have fin : f191_208 h71 198 (N m) (N (gmx V 9 0 (N m))) X = h71 198 (N m + 1) (jup X 211 m (N (gmx V 9 0 (N m)))) := by
    unfold f191_208
    rw [mp_24, sa_211 (by omega), Option.bind_some]
  by_cases h0 : m = 0
  · subst h0
    have g0 : gmx V 9 0 (N 0) = 0 := gmx_0
    have e := m_low (h71 := h71) (m := 0) x7 hn (Or.inl rfl) (fun j _ => bt_zero) n 0 1000 (by omega) (by omega)
    rw [show (0 : Int32) = N 0 from rfl, e]
    unfold f191_105 f191_125
    rw [if_pos (show N 0 = 0 from rfl), f191_129, x7]
    rw [g0] at fin
    rw [g0]
    by_cases hn0 : (0 : Int32) < N n
    · rw [if_pos hn0, if_neg (fun q => Nat.lt_irrefl _ ((N_lt (by omega) (by omega)).mp q))]
      exact fin
    · rw [if_neg hn0]
      exact fin
  · have hb := num_bnd (show n < 10 by omega) hm
    have hne : N m ≠ 0 := fun q => h0 ((N_eq (b := 0) (by omega) (by omega)).mp q)
    obtain ⟨l, hl, h1, hlow⟩ := low_ex (fun j hj => by have := hb j hj; omega) hne
    have hln := hb l h1
    have e := m_low (h71 := h71) x7 hn (Or.inr ⟨hln, h1⟩) hlow l 0 1000 (by omega) (by omega)
    obtain ⟨m2, q1, q2⟩ := off_num (show m < 512 by omega) hl h1
    rw [show (0 : Int32) = N 0 from rfl, e]
    unfold f191_105 f191_125
    rw [if_neg hne, show (N m &&& (((1 : Int32) <<< (N l &&& (31 : Int32))) ^^^ (-1 : Int32))) = off (N m) l from rfl, q2, mp_24, la_211 (show m2 < 512 by omega), Option.bind_some, hX.2 m2 q1]
    have e2 := m_ent (h71 := h71) hZ hn hX hm hln h1 hlow hV (fun o a b => hW l o hln a b) (hWl l hln) n 0 1000 (by omega) (by omega)
    rw [show itr (gms V (gmx V 9 0) l (N m)) 0 0 0 = 0 from rfl, Nat.max_zero, q2] at e2
    exact e2.trans fin
theorem m_tab (hZ : Z 198 7 = N n) (hn : n ≤ 9) (hV : ∀ i o, V i o = true → i < o) (hW : ∀ l o, l < n → l < o → o < n → bt (Z 212 l) o = V l o) (hWl : ∀ l, l < n → bt (Z 212 l) l = false) : ∀ (d m f : Nat) (X : JM), m + d = 2 ^ n → d < f → Tb V Z m X → ∃ X2, f191_71 f 198 (N m) X = some X2 ∧ Tb V Z (2 ^ n) X2
  | _, _, 0, _, _, hf, _ => absurd hf (Nat.not_lt_zero _)
  | 0, m, f + 1, X, hm, _, hX => by
    have e : m = 2 ^ n := hm
    have hp := pow_le hn
    rw [f191_71, hX.1 198 (by decide), hZ, show (1 : Int32) <<< (N n &&& (31 : Int32)) = B n from rfl, pow_B (by omega), if_neg (fun q => absurd ((N_lt (by omega) (by omega)).mp q) (by omega))]
    exact ⟨X, rfl, e ▸ hX⟩
  | d + 1, m, f + 1, X, hm, hf, hX => by
    have hp := pow_le hn
    rw [f191_71, hX.1 198 (by decide), hZ, show (1 : Int32) <<< (N n &&& (31 : Int32)) = B n from rfl, pow_B (by omega), if_pos ((N_lt (by omega) (by omega)).mpr (by omega)), m_tab1 hZ hn hV hW hWl (by omega) hX, N_succ]
    refine m_tab hZ hn hV hW hWl d (m + 1) f _ (by omega) (by omega) ⟨fun o ho => by rw [jup_o ho, hX.1 o ho], fun i hi => ?_⟩
    by_cases e : i = m
    · rw [e, jup_same]
    · rw [jup_nk (by omega)]; exact hX.2 i (by omega)
end T2
/-- the first pair -/
def fbn (c : Nat → Bool) : Nat → Nat → Option Nat
  | 0, _ => none
  | d + 1, b => if c b = true then some b else fbn c d (b + 1)
def fan (c : Nat → Nat → Bool) (n : Nat) : Nat → Nat → Option (Nat × Nat)
  | 0, _ => none
  | d + 1, a => match fbn (c a) (n - (a + 1)) (a + 1) with
    | some b => some (a, b)
    | none => fan c n d (a + 1)
theorem fan_s {c : Nat → Nat → Bool} {n d a : Nat} : fan c n (d + 1) a = match fbn (c a) (n - (a + 1)) (a + 1) with | some b => some (a, b) | none => fan c n d (a + 1) := rfl
def fansw (w : Int32) (p : Option (Nat × Nat)) : Int32 := match p with
  | none => -1
  | some (a, b) => if w = 1 then N a else N b
theorem fbn_lt {c : Nat → Bool} : ∀ d b j, fbn c d b = some j → j < b + d
  | 0, _, _, h => by cases h
  | d + 1, b, j, h => by
    unfold fbn at h
    by_cases q : c b = true
    · rw [if_pos q] at h; cases h; omega
    · rw [if_neg q] at h
      have := fbn_lt d (b + 1) j h
      omega
def lfs (n : Nat) : Nat → Int32
  | 0 => B n - 1
  | a + 1 => off (lfs n a) a
theorem bt_lfs {n j : Nat} (hn : n ≤ 9) : ∀ a, a ≤ 9 → bt (lfs n a) j = (decide (j < n) && !(decide (j < a)))
  | 0, _ => by
    show bt (B n - 1) j = _
    rw [bt_low hn, decide_eq_false (Nat.not_lt_zero _), Bool.not_false, Bool.and_true]
  | a + 1, ha => by
    show bt (off (lfs n a) a) j = _
    rw [off_bt (by omega), bt_lfs hn a (by omega)]
    by_cases h1 : j < a
    · rw [decide_eq_true h1, decide_eq_true (show j < a + 1 by omega)]; simp
    · rw [decide_eq_false h1]
      by_cases h2 : j = a
      · rw [decide_eq_true h2, decide_eq_true (show j < a + 1 by omega)]; simp
      · rw [decide_eq_false h2, decide_eq_false (show ¬ j < a + 1 by omega)]; simp
theorem lfs_bnd {n a : Nat} (hn : n ≤ 9) (ha : a ≤ 9) : bnd n (lfs n a) := fun j hj => by
  rw [bt_lfs hn a ha, Bool.and_eq_true] at hj
  exact of_decide_eq_true hj.1
theorem lfs_abv {n a : Nat} (hn : n ≤ 9) (ha : a < 9) : ((B n - 1) &&& ((B (a + 1) - 1) ^^^ (-1 : Int32))) = lfs n (a + 1) := by
  apply bt_ext
  intro j hj
  rw [bt_and, bt_not hj, bt_low hn, bt_low (by omega), bt_lfs hn (a + 1) (by omega)]
def cnd (V : Nat → Nat → Bool) (n mst a b : Nat) : Bool := V a b && decide (1 + gmx V 9 0 (off (lfs n (a + 1)) b) = mst)
section SR
variable {X : JM} {n mst a : Nat} {V : Nat → Nat → Bool} {w : Int32}
theorem c_fp (hX : X 4 0 = N n) (hn : n ≤ 9) (ha : a < n) (hm : mst < 1000) (hV : ∀ i o, V i o = true → i < o) (hM : ∀ i o, i < 9 → o < 9 → i < o → bt (X 197 i) o = V i o) : f117 X 0 (N a) (N mst) = some (oi (fbn (cnd V n mst a) (n - (a + 1)) (a + 1))) := by
  unfold f117
  rw [xp_1, hX, low_N (by omega), Option.bind_some, N_succ, low_N (by omega), Option.bind_some, lfs_abv hn (by omega)]
  have key : ∀ (d b f : Nat), b + d = n → d < f → a < b → f117_25 X f 0 (N a) (N mst) (lfs n (a + 1)) (N b) = some (oi (fbn (cnd V n mst a) d b)) := by
    intro d
    induction d with
    | zero =>
      intro b f hb hf _
      obtain ⟨f, rfl⟩ : ∃ g, f = g + 1 := ⟨f - 1, by omega⟩
      have e : b = n := hb
      subst e
      rw [f117_25, xp_1, hX, if_neg (fun q => Nat.lt_irrefl _ ((N_lt (by omega) (by omega)).mp q))]
      rfl
    | succ d ih =>
      intro b f hb hf hab
      obtain ⟨f, rfl⟩ : ∃ g, f = g + 1 := ⟨f - 1, by omega⟩
      have e := ih (b + 1) f (by omega) (by omega) (by omega)
      have hs : bnd 9 (off (lfs n (a + 1)) b) := off_bnd (fun j hj => by have := lfs_bnd hn (show a + 1 ≤ 9 by omega) j hj; omega)
      have hc := crd_le (s := off (lfs n (a + 1)) b) 9
      have em : f118 X 11 196 (off (lfs n (a + 1)) b) (0 : Int32) = some (N (gmx V 9 0 (off (lfs n (a + 1)) b))) := c_most hV hM 11 _ 0 hs (by omega) (by omega)
      have hg := gmx_le hV 9 0 _ rfl hs
      rw [f117_25, xp_1, xp_10, hX, if_pos ((N_lt (by omega) (by omega)).mpr (by omega)), get_in row_m (show a < 9 by omega), Option.bind_some, has_N (by omega), Option.bind_some, hM a b (by omega) (by omega) hab, bit_N (by omega), Option.bind_some, show lfs n (a + 1) &&& (B b ^^^ (-1 : Int32)) = off (lfs n (a + 1)) b from rfl, em, Option.bind_some]
      unfold f117_79 fbn
      rw [N_succ, show (1 : Int32) + N (gmx V 9 0 (off (lfs n (a + 1)) b)) = N (1 + gmx V 9 0 (off (lfs n (a + 1)) b)) from N_add, e]
      simp only [b2_0]
      unfold cnd
      cases V a b with
      | false => rfl
      | true =>
        rw [if_neg (by decide), Bool.true_and]
        by_cases hq : 1 + gmx V 9 0 (off (lfs n (a + 1)) b) = mst
        · rw [if_pos (by rw [hq]), if_pos (decide_eq_true hq)]; rfl
        · rw [if_neg (fun z => hq ((N_eq (by omega) (by omega)).mp z)), if_neg (by rw [decide_eq_false hq]; decide)]
  exact key (n - (a + 1)) (a + 1) 1000 (by omega) (by omega) (by omega)
theorem c_srch (hX : X 4 0 = N n) (hn : n ≤ 9) (hm : mst < 1000) (hV : ∀ i o, V i o = true → i < o) (hM : ∀ i o, i < 9 → o < 9 → i < o → bt (X 197 i) o = V i o) : ∀ (d a f : Nat), a + d = n → d < f → f91_43 f 0 w (N mst) (N a) X = some (fansw w (fan (cnd V n mst) n d a), X)
  | _, _, 0, _, hf => absurd hf (Nat.not_lt_zero _)
  | 0, a, f + 1, ha, _ => by
    have e : a = n := ha
    subst e
    rw [f91_43, xp_1, hX, if_neg (fun q => Nat.lt_irrefl _ ((N_lt (by omega) (by omega)).mp q))]
    rfl
  | d + 1, a, f + 1, ha, hf => by
    have e := c_srch hX hn hm hV hM d (a + 1) f (by omega) (by omega)
    rw [f91_43, xp_1, hX, if_pos ((N_lt (by omega) (by omega)).mpr (by omega)), c_fp hX hn (by omega) hm hV hM, Option.bind_some, N_succ, e]
    rw [fan_s]
    cases hb : fbn (cnd V n mst a) (n - (a + 1)) (a + 1) with
    | none => rfl
    | some b =>
      have hbl := fbn_lt _ _ _ hb
      show (if N b = -1 then _ else if w = 1 then some (N a, X) else some (N b, X)) = some (if w = 1 then N a else N b, X)
      rw [if_neg (N_m1 (by omega))]
      by_cases hw : w = 1
      · rw [if_pos hw, if_pos hw]
      · rw [if_neg hw, if_neg hw]
theorem set_num2 {s : Int32} {n : Nat} (h : bnd n s) : ∃ m, m < 2 ^ n ∧ s = N m := by
  refine ⟨s.toBitVec.toNat, ?_, ?_⟩
  · apply Nat.lt_pow_two_of_testBit
    intro i hi
    cases hb : Nat.testBit s.toBitVec.toNat i with
    | false => rfl
    | true => exact absurd (h i hb) (by omega)
  · apply Int32.toBitVec_inj.mp
    show _ = BitVec.ofNat 32 _
    rw [BitVec.ofNat_toNat, BitVec.setWidth_eq]
theorem m_srch1 {h59 : Nat → Int32 → Int32 → Int32 → Int32 → JM → Option (Int32 × JM)} (hX : X 198 7 = N n) (hn : n ≤ 9) (ha : a < n) (hm : mst < 1000) (hV : ∀ i o, V i o = true → i < o) (hW : ∀ l o, l < n → l < o → o < n → bt (X 212 l) o = V l o) (hT : ∀ m, m < 2 ^ n → X 211 m = N (gmx V 9 0 (N m))) : ∀ (d b f : Nat), b + d = n → d < f → a < b → f192_85 h59 f 198 w (N mst) (lfs n (a + 1)) (N a) (N b) X = match fbn (cnd V n mst a) d b with | some b => some (if w = 1 then N a else N b, X) | none => h59 198 w (N mst) (lfs n (a + 1)) (N (a + 1)) X
  | _, _, 0, _, hf, _ => absurd hf (Nat.not_lt_zero _)
  | 0, b, f + 1, hb, _, _ => by
    have e : b = n := hb
    subst e
    rw [f192_85, hX, if_neg (fun q => Nat.lt_irrefl _ ((N_lt (by omega) (by omega)).mp q)), N_succ]
    rfl
  | d + 1, b, f + 1, hb, hf, hab => by
    have e := m_srch1 (h59 := h59) hX hn ha hm hV hW hT d (b + 1) f (by omega) (by omega) (by omega)
    have hbn : bnd n (off (lfs n (a + 1)) b) := off_bnd (lfs_bnd hn (by omega))
    have hs : bnd 9 (off (lfs n (a + 1)) b) := fun j hj => by have := hbn j hj; omega
    have hc := crd_le (s := off (lfs n (a + 1)) b) 9
    have hg := gmx_le hV 9 0 _ rfl hs
    obtain ⟨m, q1, q2⟩ := set_num2 hbn
    have hp := pow_le hn
    rw [f192_85, hX, if_pos ((N_lt (by omega) (by omega)).mpr (by omega)), mp_25, mp_24, la_212 (show a < 9 by omega), Option.bind_some, m_has (by omega), Option.bind_some, hW a b ha hab (by omega), show lfs n (a + 1) &&& (((1 : Int32) <<< (N b &&& (31 : Int32))) ^^^ (-1 : Int32)) = off (lfs n (a + 1)) b from rfl]
    have ej : jla 211 (off (lfs n (a + 1)) b) X = some (N (gmx V 9 0 (off (lfs n (a + 1)) b))) := by rw [q2, la_211 (by omega), hT m q1]
    rw [ej, Option.bind_some]
    unfold f192_142 fbn
    rw [N_succ, show (1 : Int32) + N (gmx V 9 0 (off (lfs n (a + 1)) b)) = N (1 + gmx V 9 0 (off (lfs n (a + 1)) b)) from N_add, e]
    simp only [b2_0]
    unfold cnd
    cases V a b with
    | false => rfl
    | true =>
      rw [if_neg (by decide), Bool.true_and]
      by_cases hq : 1 + gmx V 9 0 (off (lfs n (a + 1)) b) = mst
      · rw [if_pos (by rw [hq]), if_pos (decide_eq_true hq)]
        show _ = some (if w = 1 then N a else N b, X)
        by_cases hw : w = 1
        · rw [if_pos hw, if_pos hw]
        · rw [if_neg hw, if_neg hw]
      · rw [if_neg (fun z => hq ((N_eq (by omega) (by omega)).mp z)), if_neg (by rw [decide_eq_false hq]; decide)]
theorem m_srch (hX : X 198 7 = N n) (hn : n ≤ 9) (hm : mst < 1000) (hV : ∀ i o, V i o = true → i < o) (hW : ∀ l o, l < n → l < o → o < n → bt (X 212 l) o = V l o) (hT : ∀ m, m < 2 ^ n → X 211 m = N (gmx V 9 0 (N m))) : ∀ (d a f : Nat), a + d = n → d < f → f192_59 f 198 w (N mst) (lfs n a) (N a) X = some (fansw w (fan (cnd V n mst) n d a), X)
  | _, _, 0, _, hf => absurd hf (Nat.not_lt_zero _)
  | 0, a, f + 1, ha, _ => by
    have e : a = n := ha
    subst e
    rw [f192_59, hX, if_neg (fun q => Nat.lt_irrefl _ ((N_lt (by omega) (by omega)).mp q))]
    rfl
  | d + 1, a, f + 1, ha, hf => by
    have e := m_srch hX hn hm hV hW hT d (a + 1) f (by omega) (by omega)
    rw [f192_59, hX, if_pos ((N_lt (by omega) (by omega)).mpr (by omega)), show lfs n a &&& (((1 : Int32) <<< (N a &&& (31 : Int32))) ^^^ (-1 : Int32)) = lfs n (a + 1) from rfl, N_succ, m_srch1 hX hn (by omega) hm hV hW hT (n - (a + 1)) (a + 1) 1000 (by omega) (by omega) (by omega), e]
    rw [fan_s]
    cases fbn (cnd V n mst a) (n - (a + 1)) (a + 1) <;> rfl
end SR
theorem fan_none {V : Nat → Nat → Bool} {n : Nat} : ∀ d a, fan (cnd V n 0) n d a = none
  | 0, _ => rfl
  | d + 1, a => by
    have z : ∀ c b, fbn (cnd V n 0 a) c b = none := by
      intro c
      induction c with
      | zero => intro b; rfl
      | succ c ih =>
        intro b
        show (if cnd V n 0 a b = true then _ else _) = none
        unfold cnd
        rw [if_neg (by rw [decide_eq_false (by omega), Bool.and_false]; decide), ← ih (b + 1)]
        rfl
    rw [fan_s, z]
    exact fan_none d (a + 1)
theorem t_wedd {M : JM} {w : Int32} (h : Inv M) : Two (f91 0 w) (f192 198 w) M := by
  have hI := h
  obtain ⟨n, k, h1, h2, h3, h4, h5, h6, h7, h8, h9⟩ := h
  have hn9 : n ≤ 9 := h1.2.1
  have hin : f125 (w.toInt64) (0 : Int64) (2 : Int64) = some (b2 (!(decide (w < 0)) && !(decide ((2 : Int32) < w)))) := by
    rw [show (0 : Int64) = (0 : Int32).toInt64 from rfl, show (2 : Int64) = (2 : Int32).toInt64 from rfl, in_ok]
  unfold Two f91 f192
  rw [hin]
  simp only [Option.bind_some, b2_0]
  by_cases w0 : w < 0
  · rw [if_pos w0, decide_eq_true w0]; exact ⟨-3, M, M, rfl, rfl, hI⟩
  · rw [if_neg w0, decide_eq_false w0]
    by_cases w2 : (2 : Int32) < w
    · rw [if_pos w2, decide_eq_true w2]; exact ⟨-3, M, M, rfl, rfl, hI⟩
    · rw [if_neg w2, decide_eq_false w2]
      obtain ⟨X, e1, x1, x2⟩ := c_match (M := M) h1
      have hV : ∀ i o, wV M n k i o = true → i < o := fun i o q => wV_lt q
      have x4 : X 4 0 = N n := by rw [x1 4 (by decide)]; exact h1.1
      have hs : bnd 9 (B n - 1) := fun j hj => by
        rw [bt_low hn9] at hj
        have := of_decide_eq_true hj
        omega
      have hc := crd_le (s := B n - 1) 9
      have em : f118 X 11 196 (B n - 1) (0 : Int32) = some (N (gmx (wV M n k) 9 0 (B n - 1))) := c_most hV x2 11 _ 0 hs (by omega) (by omega)
      have hg := gmx_le hV 9 0 _ rfl hs
      obtain ⟨mst, hmst⟩ : ∃ mst, mst = gmx (wV M n k) 9 0 (B n - 1) := ⟨_, rfl⟩
      rw [← hmst] at em hg
      -- the reference
      have hRX : Rfk X n k := rfk_eq (fun o ho => x1 o (by omega)) (by rw [x1 198 (by decide)]) (by rw [x1 198 (by decide)]) (rfk_of h1 h2)
      obtain ⟨Z, m1, m2, m3⟩ := m_mate0 hRX n 0 1000 X (by omega) (by omega) (fun _ _ _ => rfl) (fun i hi => absurd hi (Nat.not_lt_zero _))
      have z7 : Z 198 7 = N n := by rw [m2 198 (by decide) (by decide)]; exact hRX.1
      have hW : ∀ l o, l < n → l < o → o < n → bt (Z 212 l) o = wV M n k l o := fun l o hl hlo ho => by
        rw [m3 l hl, bt_kinS hn9, decide_eq_true ho, decide_eq_false (show ¬ o = l by omega), rmay_eq2 (M := M) (fun q hq => x1 q (by omega)), rmay_eq h1 h2 h4 h5 hl ho]
        unfold wV
        rw [decide_eq_true hlo, decide_eq_true ho]
        rfl
      have hWl : ∀ l, l < n → bt (Z 212 l) l = false := fun l hl => by
        rw [m3 l hl, bt_kinS hn9, decide_eq_true (rfl : l = l)]; simp
      obtain ⟨Y, t1, t2⟩ := m_tab (V := wV M n k) z7 hn9 hV hW hWl (2 ^ n) 0 1000 Z (by omega) (by have := pow_le hn9; omega) ⟨fun _ _ => rfl, fun i hi => absurd hi (Nat.not_lt_zero _)⟩
      have e191 : f191 198 X = some Y := by
        unfold f191
        rw [show (0 : Int32) = N 0 from rfl, m1]
        exact t1
      have y7 : Y 198 7 = N n := by rw [t2.1 198 (by decide)]; exact z7
      have hYW : ∀ l o, l < n → l < o → o < n → bt (Y 212 l) o = wV M n k l o := fun l o a b c => by rw [t2.1 212 (by decide)]; exact hW l o a b c
      have hp := pow_le hn9
      have hp0 : 0 < 2 ^ n := Nat.pow_pos (by decide)
      have ea : jla 211 (B n - 1) Y = some (N mst) := by
        rw [pow_L (by omega), la_211 (by omega), t2.2 _ (by omega), hmst, pow_L (by omega)]
      have hsame : Same M Y := fun o j q => by rw [t2.1 o (fun e => q (by unfold sck; omega)), m2 o (fun e => q (by unfold sck; omega)) (fun e => q (by unfold sck; omega)), x1 o (fun e => q (by unfold sck; omega))]
      have cs := c_srch (w := w) (mst := mst) x4 hn9 (by omega) hV x2 n 0 1000 (by omega) (by omega)
      have ms := m_srch (w := w) (mst := mst) y7 hn9 (by omega) hV hYW t2.2 n 0 1000 (by omega) (by omega)
      refine ⟨if w = 0 then N mst else fansw w (fan (cnd (wV M n k) n mst) n n 0), X, Y, ?_, ?_, Inv_same hI hsame⟩
      · rw [e1, Option.bind_some, xp_1, xp_10, x4, low_N (by omega), Option.bind_some, em, Option.bind_some]
        by_cases hw : w = 0
        · rw [if_pos hw, if_pos hw]
        · rw [if_neg hw, if_neg hw]
          exact cs
      · simp only [Bool.not_false, Bool.and_self, Bool.true_eq_false, if_false]
        rw [e191, Option.bind_some, y7, mp_24, show (1 : Int32) <<< (N n &&& (31 : Int32)) = B n from rfl, ea, Option.bind_some]
        unfold f192_43
        by_cases hw : w = 0
        · rw [if_pos hw, if_pos hw, if_pos hw]
        · rw [if_neg hw, if_neg hw, if_neg hw]
          by_cases hm0 : mst = 0
          · rw [if_pos (show N mst = 0 by rw [hm0]; rfl), hm0, fan_none]; rfl
          · rw [if_neg (show ¬ N mst = (0 : Int32) from fun q => hm0 ((N_eq (b := 0) (by omega) (by omega)).mp q))]
            exact ms
theorem blk_841 : Blk f217_841 := fun xs h18 i M hx hi hI => by
  obtain ⟨a, M1, M2, e1, e2, h2⟩ := t_wedd (w := xs.getD (i + 1) 0) hI
  refine ⟨M2, h2, ?_⟩
  unfold f217_841 f217_1076
  rw [show (1 : Int32) = N 1 from rfl, show (5 : Int32) = N 5 from rfl]
  simp only [N_add, sc_at (show i + 1 < xs.length by omega) hx, Option.bind_some, e1, e2, if_true]
