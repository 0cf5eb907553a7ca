/-! PURE: most pairs: by recursion, by table -/
def off (s : Int32) (i : Nat) : Int32 := s &&& (B i ^^^ (-1 : Int32))
theorem off_bt {s : Int32} {i j : Nat} (hi : i < 31) : bt (off s i) j = (bt s j && !(decide (j = i))) := by
  by_cases hj : j < 32
  · exact bt_off hi hj
  · rw [bt_ge (by omega), bt_ge (by omega)]; rfl
theorem off_bnd {n i : Nat} {s : Int32} (h : bnd n s) : bnd n (off s i) := fun j hj => by
  unfold off at hj
  rw [bt_and, Bool.and_eq_true] at hj
  exact h j hj.1
theorem off_crd {s : Int32} {i n : Nat} (hi : i < 31) (hin : i < n) (h : bt s i = true) : crd (off s i) n + 1 ≤ crd s n := by
  refine crd_lt (j := i) (fun j hj => ?_) (by rw [off_bt hi, decide_eq_true rfl]; simp) h n hin
  rw [off_bt hi, Bool.and_eq_true] at hj
  exact hj.1
def gms (V : Nat → Nat → Bool) (G : Int32 → Nat) (i : Nat) (s : Int32) (o m : Nat) : Nat := if (bt s o && V i o) = true then max m (1 + G (off (off s i) o)) else m
def gmx (V : Nat → Nat → Bool) : Nat → Nat → Int32 → Nat
  | 0, _, _ => 0
  | d + 1, i, s => if bt s i = true then max (gmx V d (i + 1) (off s i)) (itr (gms V (gmx V d (i + 1)) i s) 0 9 0) else gmx V d (i + 1) s
section GM
variable {V : Nat → Nat → Bool}
theorem gms_le {G : Int32 → Nat} {i : Nat} {s : Int32} {c : Nat} : ∀ q p m, m ≤ itr (gms V G i s) p q m
  | 0, _, _ => Nat.le_refl _
  | q + 1, p, m => by
    show m ≤ itr (gms V G i s) (p + 1) q (gms V G i s p m)
    have h := gms_le (G := G) (i := i) (s := s) (c := c) q (p + 1) (gms V G i s p m)
    have h2 : m ≤ gms V G i s p m := by
      unfold gms
      split
      · exact Nat.le_max_left _ _
      · exact Nat.le_refl _
    omega
theorem gmx_le (hV : ∀ i o, V i o = true → i < o) : ∀ (d i : Nat) (s : Int32), i + d = 9 → bnd 9 s → 2 * gmx V d i s ≤ crd s 9
  | 0, _, _, _, _ => Nat.zero_le _
  | d + 1, i, s, hi, hs => by
    unfold gmx
    by_cases h : bt s i = true
    · rw [if_pos h]
      have c1 := off_crd (n := 9) (show i < 31 by omega) (by omega) h
      have b1 := gmx_le hV d (i + 1) (off s i) (by omega) (off_bnd hs)
      have b2 : 2 * itr (gms V (gmx V d (i + 1)) i s) 0 9 0 ≤ crd s 9 := by
        have := itr_inv (f := gms V (gmx V d (i + 1)) i s) (P := fun _ m => 2 * m ≤ crd s 9) 9 0 0 (fun o m _ ho hm => by
          unfold gms
          split
          · rename_i hc
            rw [Bool.and_eq_true] at hc
            have hio := hV i o hc.2
            have ho1 : bt (off s i) o = true := by rw [off_bt (by omega), hc.1, decide_eq_false (show ¬ o = i by omega)]; rfl
            have c2 := off_crd (n := 9) (show o < 31 by omega) (by omega) ho1
            have b3 := gmx_le hV d (i + 1) (off (off s i) o) (by omega) (off_bnd (off_bnd hs))
            rcases Nat.le_total m (1 + gmx V d (i + 1) (off (off s i) o)) with q | q
            · rw [Nat.max_eq_right q]; omega
            · rw [Nat.max_eq_left q]; exact hm
          · exact hm) (Nat.zero_le _)
        exact this
      rcases Nat.le_total (gmx V d (i + 1) (off s i)) (itr (gms V (gmx V d (i + 1)) i s) 0 9 0) with q | q
      · rw [Nat.max_eq_right q]; exact b2
      · rw [Nat.max_eq_left q]; omega
    · rw [if_neg h]
      exact gmx_le hV d (i + 1) s (by omega) hs
theorem gmx_skip {s : Int32} : ∀ (i d : Nat), i + d = 9 → (∀ j, j < i → bt s j = false) → gmx V 9 0 s = gmx V d i s
  | 0, d, hd, _ => by
    have : d = 9 := by omega
    rw [this]
  | i + 1, d, hd, h => by
    have e := gmx_skip (s := s) i (d + 1) (by omega) (fun j hj => h j (by omega))
    rw [e]
    show (if bt s i = true then _ else gmx V d (i + 1) s) = _
    rw [if_neg (by rw [h i (by omega)]; decide)]
theorem gmx_low {s : Int32} {l : Nat} (hl : l < 9) (h0 : ∀ j, j < l → bt s j = false) (h1 : bt s l = true) (hV : ∀ i o, V i o = true → i < o) : gmx V 9 0 s = max (gmx V 9 0 (off s l)) (itr (gms V (gmx V 9 0) l s) 0 9 0) := by
  have z : ∀ j, j < l + 1 → bt (off s l) j = false := fun j hj => by
    rw [off_bt (by omega)]
    by_cases e : j = l
    · rw [decide_eq_true e]; simp
    · rw [h0 j (by omega)]; rfl
  rw [gmx_skip l (8 - l + 1) (by omega) h0]
  show (if bt s l = true then _ else _) = _
  rw [if_pos h1, gmx_skip (s := off s l) (l + 1) (8 - l) (by omega) z]
  refine congrArg (max _) (itr_congr 9 0 0 (fun o m _ ho => ?_))
  unfold gms
  by_cases hc : (bt s o && V l o) = true
  · rw [if_pos hc, if_pos hc]
    refine congrArg (fun x => max m (1 + x)) (gmx_skip (l + 1) (8 - l) (by omega) (fun j hj => ?_)).symm
    rw [off_bt (by omega), z j hj]; rfl
  · rw [if_neg hc, if_neg hc]
theorem gmx_0 : gmx V 9 0 0 = 0 := by
  have : ∀ d i, gmx V d i 0 = 0 := by
    intro d
    induction d with
    | zero => intro i; rfl
    | succ d ih =>
      intro i
      show (if bt 0 i = true then _ else gmx V d (i + 1) 0) = 0
      rw [if_neg (by rw [bt_zero]; decide), ih]
  exact this 9 0
end GM
theorem half2_all : (List.range 10).all (fun m => jdv (N m) 2 == some (N (m / 2))) = true := by decide +kernel
theorem half2 {m : Nat} (h : m < 10) : jdv (N m) 2 = some (N (m / 2)) := eq_of_beq (List.all_eq_true.mp half2_all m (List.mem_range.mpr h))
/-- the least -/
theorem exists_low {s : Int32} : ∀ c i, i + c = 9 → (∃ j, i ≤ j ∧ j < 9 ∧ bt s j = true) → ∃ l, i ≤ l ∧ l < 9 ∧ bt s l = true ∧ ∀ j, i ≤ j → j < l → bt s j = false
  | 0, i, hi, h => by obtain ⟨j, h1, h2, _⟩ := h; omega
  | c + 1, i, hi, h => by
    cases hb : bt s i with
    | true => exact ⟨i, Nat.le_refl _, by omega, hb, fun j h1 h2 => by omega⟩
    | false =>
      obtain ⟨j, h1, h2, h3⟩ := h
      have hne : j ≠ i := fun e => by rw [e, hb] at h3; cases h3
      obtain ⟨l, g1, g2, g3, g4⟩ := exists_low (s := s) c (i + 1) (by omega) ⟨j, by omega, h2, h3⟩
      refine ⟨l, by omega, g2, g3, fun q q1 q2 => ?_⟩
      by_cases e : q = i
      · rw [e]; exact hb
      · exact g4 q (by omega) q2
theorem low_ex {s : Int32} (hs : bnd 9 s) (h : s ≠ 0) : ∃ l, l < 9 ∧ bt s l = true ∧ ∀ j, j < l → bt s j = false := by
  have : ∃ j, 0 ≤ j ∧ j < 9 ∧ bt s j = true := by
    apply Classical.byContradiction
    intro hn
    apply h
    apply bt_ext
    intro j _
    rw [bt_zero]
    cases hb : bt s j with
    | false => rfl
    | true => exact absurd ⟨j, Nat.zero_le _, hs j hb, hb⟩ hn
  obtain ⟨l, _, h2, h3, h4⟩ := exists_low 9 0 rfl this
  exact ⟨l, h2, h3, fun j hj => h4 j (Nat.zero_le _) hj⟩
theorem c_least {s : Int32} {l : Nat} (hl : l < 9) (h1 : bt s l = true) (h0 : ∀ j, j < l → bt s j = false) : f119 s = some (N l) := by
  unfold f119
  have key : ∀ (d i f : Nat), i + d = l → d < f → f119_2 f s (N i) = some (N l) := by
    intro d
    induction d with
    | zero =>
      intro i f hi hf
      obtain ⟨f, rfl⟩ : ∃ g, f = g + 1 := ⟨f - 1, by omega⟩
      have e : i = l := hi
      subst e
      rw [f119_2, if_pos (show N i < (9 : Int32) from (N_lt (b := 9) (by omega) (by omega)).mpr hl), has_N (by omega), h1]
      rfl
    | succ d ih =>
      intro i f hi hf
      obtain ⟨f, rfl⟩ : ∃ g, f = g + 1 := ⟨f - 1, by omega⟩
      rw [f119_2, if_pos (show N i < (9 : Int32) from (N_lt (b := 9) (by omega) (by omega)).mpr (by omega)), has_N (by omega), h0 i (by omega), Option.bind_some, if_pos (show b2 false = 0 from rfl), N_succ]
      exact ih (i + 1) f (by omega) (by omega)
  exact key l 0 1000 (by omega) (by omega)
theorem row_m : Row 196 197 9 := rowb_ok (by decide +kernel)
theorem crd_1 {s : Int32} (h : crd s 9 / 2 = 0) : crd s 9 ≤ 1 := by omega
/-- the class's search -/
theorem c_most {V : Nat → Nat → Bool} {M : JM} (hV : ∀ i o, V i o = true → i < o) (hM : ∀ i o, i < 9 → o < 9 → i < o → bt (M 197 i) o = V i o) : ∀ (f : Nat) (s : Int32) (t : Nat), bnd 9 s → crd s 9 + 1 ≤ f → crd s 9 + t ≤ 9 → f118 M f 196 s (N t) = some (N (gmx V 9 0 s))
  | 0, _, _, _, hf, _ => absurd hf (by omega)
  | f + 1, s, t, hs, hf, ht => by
    have hc9 : crd s 9 ≤ 9 := crd_le 9
    have hle := gmx_le hV 9 0 s rfl hs
    show f118b (f118 M f) M 196 s (N t) = _
    unfold f118b
    rw [bc_c (n := 9) (by omega) hs, Option.bind_some, half2 (by omega), Option.bind_some]
    by_cases h0 : crd s 9 / 2 = 0
    · rw [if_pos (show N (crd s 9 / 2) = 0 by rw [h0]; rfl)]
      have : gmx V 9 0 s = 0 := by omega
      rw [this]; rfl
    · rw [if_neg (show ¬ N (crd s 9 / 2) = (0 : Int32) from fun q => h0 ((N_eq (b := 0) (by omega) (by omega)).mp q)), if_neg (show ¬ (9 : Int32) < N t from fun q => absurd ((N_lt (a := 9) (by omega) (by omega)).mp q) (by omega))]
      have hne : s ≠ 0 := fun e => by
        rw [e] at h0
        have : crd 0 9 = 0 := by decide
        rw [this] at h0
        exact h0 rfl
      obtain ⟨l, hl, h1, hlow⟩ := low_ex hs hne
      rw [c_least hl h1 hlow, Option.bind_some, bit_N (by omega), Option.bind_some]
      rw [show s &&& (B l ^^^ (-1 : Int32)) = off s l from rfl, gmx_low hl hlow h1 hV]
      have c1 := off_crd (n := 9) (show l < 31 by omega) hl h1
      have eb : f118 M f 196 (off s l) (N t + 1) = some (N (gmx V 9 0 (off s l))) := by
        rw [N_succ]
        exact c_most hV hM f (off s l) (t + 1) (off_bnd hs) (by omega) (by omega)
      have b1 := gmx_le hV 9 0 (off s l) rfl (off_bnd hs)
      have tot : ∀ p, p ≤ 9 → itr (gms V (gmx V 9 0) l s) 0 p 0 ≤ crd s 9 / 2 := fun p hp => by
        have e1 : itr (gms V (gmx V 9 0) l s) 0 p 0 ≤ itr (gms V (gmx V 9 0) l s) 0 9 0 := by
          have := gms_le (V := V) (G := gmx V 9 0) (i := l) (s := s) (c := 0) (9 - p) p (itr (gms V (gmx V 9 0) l s) 0 p 0)
          have e2 : itr (gms V (gmx V 9 0) l s) p (9 - p) (itr (gms V (gmx V 9 0) l s) 0 p 0) = itr (gms V (gmx V 9 0) l s) 0 9 0 := by
            have q : ∀ c, itr (gms V (gmx V 9 0) l s) p c (itr (gms V (gmx V 9 0) l s) 0 p 0) = itr (gms V (gmx V 9 0) l s) 0 (p + c) 0 := by
              intro c
              induction c with
              | zero => rfl
              | succ c ih => rw [itr_succ, ih, show p + (c + 1) = p + c + 1 by omega, itr_succ, Nat.zero_add]
            rw [q (9 - p), show p + (9 - p) = 9 by omega]
          omega
        have e3 := gmx_le hV 9 0 s rfl hs
        rw [gmx_low hl hlow h1 hV] at e3
        have e4 : itr (gms V (gmx V 9 0) l s) 0 9 0 ≤ max (gmx V 9 0 (off s l)) (itr (gms V (gmx V 9 0) l s) 0 9 0) := Nat.le_max_right _ _
        omega
      have fin : ∀ p, p ≤ 9 → (p = 9 ∨ ¬ itr (gms V (gmx V 9 0) l s) 0 p 0 < crd s 9 / 2) → f118_106 (f118 M f) M 196 (N t) (N (itr (gms V (gmx V 9 0) l s) 0 p 0)) (N (crd s 9 / 2)) (off s l) = some (N (max (gmx V 9 0 (off s l)) (itr (gms V (gmx V 9 0) l s) 0 9 0))) := by
        intro p hp hpe
        have tp := tot p hp
        have t9 := tot 9 (Nat.le_refl _)
        unfold f118_106
        by_cases hm : itr (gms V (gmx V 9 0) l s) 0 p 0 < crd s 9 / 2
        · have e9 : p = 9 := by
            rcases hpe with q | q
            · exact q
            · exact absurd hm q
          subst e9
          rw [if_pos ((N_lt (by omega) (by omega)).mpr hm), eb, Option.bind_some, mx_N (by omega) (by omega), Option.bind_some, Nat.max_comm]
        · rw [if_neg (fun q => hm ((N_lt (by omega) (by omega)).mp q))]
          have e1 : itr (gms V (gmx V 9 0) l s) 0 p 0 ≤ itr (gms V (gmx V 9 0) l s) 0 9 0 := by
            have q : ∀ c, itr (gms V (gmx V 9 0) l s) p c (itr (gms V (gmx V 9 0) l s) 0 p 0) = itr (gms V (gmx V 9 0) l s) 0 (p + c) 0 := by
              intro c
              induction c with
              | zero => rfl
              | succ c ih => rw [itr_succ, ih, show p + (c + 1) = p + c + 1 by omega, itr_succ, Nat.zero_add]
            have e2 := q (9 - p)
            rw [show p + (9 - p) = 9 by omega] at e2
            have := gms_le (V := V) (G := gmx V 9 0) (i := l) (s := s) (c := 0) (9 - p) p (itr (gms V (gmx V 9 0) l s) 0 p 0)
            omega
          have e3 : itr (gms V (gmx V 9 0) l s) 0 p 0 = max (gmx V 9 0 (off s l)) (itr (gms V (gmx V 9 0) l s) 0 9 0) := by
            rcases Nat.le_total (gmx V 9 0 (off s l)) (itr (gms V (gmx V 9 0) l s) 0 9 0) with q | q
            · rw [Nat.max_eq_right q]; omega
            · rw [Nat.max_eq_left q]; omega
          rw [← e3]
      have hoff : ∀ o, bt (off s l) o = (bt s o && !(decide (o = l))) := fun o => off_bt (by omega)
      have key : ∀ (d p g : Nat), p + d = 9 → d < g → l < p → f118_46 (f118 M f) M g 196 (N t) (N (itr (gms V (gmx V 9 0) l s) 0 p 0)) (N (crd s 9 / 2)) (N l) (off s l) (N p) = some (N (max (gmx V 9 0 (off s l)) (itr (gms V (gmx V 9 0) l s) 0 9 0))) := by
        intro d
        induction d with
        | zero =>
          intro p g hp hg _
          obtain ⟨g, rfl⟩ : ∃ h, g = h + 1 := ⟨g - 1, by omega⟩
          rw [f118_46, if_neg (show ¬ N p < (9 : Int32) from fun q => absurd ((N_lt (b := 9) (by omega) (by omega)).mp q) (by omega))]
          exact fin p (by omega) (Or.inl (by omega))
        | succ d ih =>
          intro p g hp hg hlp
          obtain ⟨g, rfl⟩ : ∃ h, g = h + 1 := ⟨g - 1, by omega⟩
          have tp := tot p (by omega)
          rw [f118_46, if_pos (show N p < (9 : Int32) from (N_lt (b := 9) (by omega) (by omega)).mpr (by omega))]
          by_cases hm : itr (gms V (gmx V 9 0) l s) 0 p 0 < crd s 9 / 2
          · have e := ih (p + 1) g (by omega) (by omega) (by omega)
            rw [if_pos ((N_lt (by omega) (by omega)).mpr hm), get_in row_m hl, Option.bind_some, has_N (by omega), Option.bind_some, bt_and, hM l p hl (by omega) hlp, hoff, decide_eq_false (show ¬ p = l by omega)]
            unfold f118_100
            rw [itr_succ, Nat.zero_add] at e
            rw [N_succ]
            simp only [b2_0]
            cases hV2 : V l p with
            | false =>
              have es : gms V (gmx V 9 0) l s p (itr (gms V (gmx V 9 0) l s) 0 p 0) = itr (gms V (gmx V 9 0) l s) 0 p 0 := by
                unfold gms
                rw [hV2, Bool.and_false]; rfl
              rw [es] at e
              rw [if_pos (by rfl)]
              exact e
            | true =>
              cases hb : bt s p with
              | false =>
                have es : gms V (gmx V 9 0) l s p (itr (gms V (gmx V 9 0) l s) 0 p 0) = itr (gms V (gmx V 9 0) l s) 0 p 0 := by
                  unfold gms
                  rw [hb]; rfl
                rw [es] at e
                rw [if_pos (by rfl)]
                exact e
              | true =>
                have hp1 : bt (off s l) p = true := by rw [hoff, hb, decide_eq_false (show ¬ p = l by omega)]; rfl
                have c2 := off_crd (n := 9) (show p < 31 by omega) (by omega) hp1
                have es : gms V (gmx V 9 0) l s p (itr (gms V (gmx V 9 0) l s) 0 p 0) = max (itr (gms V (gmx V 9 0) l s) 0 p 0) (1 + gmx V 9 0 (off (off s l) p)) := by
                  unfold gms
                  rw [hb, hV2]; rfl
                rw [es] at e
                have eg : f118 M f 196 (off (off s l) p) (N t + 1) = some (N (gmx V 9 0 (off (off s l) p))) := by
                  rw [N_succ]
                  exact c_most hV hM f (off (off s l) p) (t + 1) (off_bnd (off_bnd hs)) (by omega) (by omega)
                have b3 := gmx_le hV 9 0 (off (off s l) p) rfl (off_bnd (off_bnd hs))
                rw [if_neg (by decide), bit_N (by omega), Option.bind_some, show off s l &&& (B p ^^^ (-1 : Int32)) = off (off s l) p from rfl, eg, Option.bind_some, show (1 : Int32) + N (gmx V 9 0 (off (off s l) p)) = N (1 + gmx V 9 0 (off (off s l) p)) from N_add, mx_N (by omega) (by omega), Option.bind_some]
                exact e
          · rw [if_neg (fun q => hm ((N_lt (by omega) (by omega)).mp q))]
            exact fin p (by omega) (Or.inr hm)
      have z : itr (gms V (gmx V 9 0) l s) 0 (l + 1) 0 = 0 := by
        have : ∀ p, p ≤ l + 1 → itr (gms V (gmx V 9 0) l s) 0 p 0 = 0 := by
          intro p
          induction p with
          | zero => intro _; rfl
          | succ p ih =>
            intro hp
            rw [itr_succ, Nat.zero_add, ih (by omega)]
            unfold gms
            cases hv : V l p with
            | false => rw [Bool.and_false]; rfl
            | true => exact absurd (hV l p hv) (by omega)
        exact this (l + 1) (Nat.le_refl _)
      have k0 := key (9 - (l + 1)) (l + 1) 1000 (by omega) (by omega) (by omega)
      rw [z] at k0
      rw [N_succ]
      exact k0
