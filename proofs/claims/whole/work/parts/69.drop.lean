/-! PURE: a comet dropped, a comet left out -/
def skp (c i : Nat) : Nat := if i < c then i else i + 1
def fps (c m : Nat) : Nat := if m ≤ c then m else m + 1
theorem itr_drop {α β : Type} {f : Nat → α → α} {g : Nat → β → β} {R : Nat → α → β → Prop} {c k : Nat} {a0 : α} {b0 : β} (hc : c < k) (h0 : R 0 a0 b0) (h1 : ∀ i a b, i < k - 1 → R i a b → R (i + 1) (f (skp c i) a) (g i b)) (h2 : ∀ a, f c a = a) : R (k - 1) (itr f 0 k a0) (itr g 0 (k - 1) b0) := by
  have key : ∀ m, m ≤ k - 1 → R m (itr f 0 (fps c m) a0) (itr g 0 m b0) := by
    intro m
    induction m with
    | zero => intro _; rw [show fps c 0 = 0 from if_pos (Nat.zero_le _)]; exact h0
    | succ m ih =>
      intro hm
      have h := h1 m _ _ (by omega) (ih (by omega))
      rw [itr_succ m 0 b0, Nat.zero_add]
      by_cases e1 : m < c
      · rw [show skp c m = m from if_pos e1, show fps c m = m from if_pos (by omega)] at h
        rw [show fps c (m + 1) = m + 1 from if_pos (by omega), itr_succ, Nat.zero_add]
        exact h
      · rw [show skp c m = m + 1 from if_neg e1] at h
        rw [show fps c (m + 1) = m + 1 + 1 from if_neg (by omega), itr_succ, Nat.zero_add]
        by_cases e2 : m = c
        · subst e2
          rw [show fps m m = m from if_pos (Nat.le_refl _)] at h
          rw [itr_succ, Nat.zero_add, h2]
          exact h
        · rw [show fps c m = m + 1 from if_neg (by omega)] at h
          exact h
  have h := key (k - 1) (Nat.le_refl _)
  by_cases e : k - 1 ≤ c
  · rw [show fps c (k - 1) = k - 1 from if_pos e] at h
    have e2 : itr f 0 k a0 = itr f 0 (k - 1) a0 := by
      obtain ⟨m, hm⟩ : ∃ m, k = m + 1 := ⟨k - 1, by omega⟩
      rw [hm, Nat.add_sub_cancel, itr_succ, Nat.zero_add]
      have : m = c := by omega
      rw [this, h2]
    rw [e2]; exact h
  · rw [show fps c (k - 1) = k - 1 + 1 from if_neg e, show k - 1 + 1 = k by omega] at h
    exact h
theorem skp_lt {c i j : Nat} : skp c i < skp c j ↔ i < j := by
  unfold skp
  split <;> split <;> omega
theorem skp_inj {c i j : Nat} : skp c i = skp c j ↔ i = j := by
  unfold skp
  split <;> split <;> omega
theorem skp_ne {c i : Nat} : skp c i ≠ c := by
  unfold skp
  split <;> omega
theorem skp_up {c i k : Nat} (h : i < k - 1) : skp c i < k := by
  unfold skp
  split <;> omega
theorem thr_c {c : Nat} : thr (N c) c = false := by
  unfold thr
  rw [decide_eq_true rfl]; rfl
theorem thr_s {c i : Nat} (hc : c < 1000) (hi : i < 1000) : thr (N c) (skp c i) = true := by
  unfold thr
  have h : skp c i < 2000 := by unfold skp; split <;> omega
  rw [decide_eq_false (fun q => skp_ne ((N_eq (by omega) (by omega)).mp q))]; rfl
section DR
variable {ck cy : Nat → Int32} {c k : Nat}
theorem ahd_s {i j : Nat} : ahd (fun i => cy (skp c i)) i j = ahd cy (skp c i) (skp c j) := by
  unfold ahd
  have e : decide (i < j) = decide (skp c i < skp c j) := by
    by_cases h : i < j
    · rw [decide_eq_true h, decide_eq_true (skp_lt.mpr h)]
    · rw [decide_eq_false h, decide_eq_false (fun q => h (skp_lt.mp q))]
  rw [e]
theorem lat_s (hc : c < k) (hk : k ≤ 6) {e : Nat} : lat k ck cy (thr (N c)) (skp c e) = (lat (k - 1) (fun i => ck (skp c i)) (fun i => cy (skp c i)) tt e).map (skp c) := by
  refine itr_drop (R := fun _ a b => a = Option.map (skp c) b) hc rfl (fun i a b hi hab => ?_) (fun a => ?_)
  · subst hab
    have fin : ∀ (q : Bool) (b : Option Nat), (if q = true then some (skp c i) else Option.map (skp c) b) = Option.map (skp c) (if q = true then some i else b) := fun q b => by cases q <;> rfl
    cases b with
    | none =>
      show (if (thr (N c) (skp c i) && !(decide (ck (skp c i) = 3)) && ahd cy (skp c i) (skp c e) && true) = true then some (skp c i) else none) = Option.map (skp c) (if (true && !(decide (ck (skp c i) = 3)) && ahd (fun i => cy (skp c i)) i e && true) = true then some i else none)
      rw [thr_s (by omega) (by omega), ahd_s]
      exact fin _ none
    | some j =>
      show (if (thr (N c) (skp c i) && !(decide (ck (skp c i) = 3)) && ahd cy (skp c i) (skp c e) && ahd cy (skp c j) (skp c i)) = true then some (skp c i) else some (skp c j)) = Option.map (skp c) (if (true && !(decide (ck (skp c i) = 3)) && ahd (fun i => cy (skp c i)) i e && ahd (fun i => cy (skp c i)) j i) = true then some i else some j)
      rw [thr_s (by omega) (by omega), ahd_s, ahd_s]
      exact fin _ (some j)
  · unfold latF
    rw [thr_c]
    simp
theorem canc_s (hc : c < k) (hk : k ≤ 6) {i : Nat} : canc k ck cy (thr (N c)) (skp c i) = canc (k - 1) (fun i => ck (skp c i)) (fun i => cy (skp c i)) tt i := by
  refine itr_drop (R := fun _ a b => a = b) hc rfl (fun e a b he hab => ?_) (fun a => ?_)
  · subst hab
    unfold cancF
    rw [thr_s (by omega) (by omega), lat_s hc hk]
    have e2 : decide (Option.map (skp c) (lat (k - 1) (fun i => ck (skp c i)) (fun i => cy (skp c i)) tt e) = some (skp c i)) = decide (lat (k - 1) (fun i => ck (skp c i)) (fun i => cy (skp c i)) tt e = some i) := by
      cases lat (k - 1) (fun i => ck (skp c i)) (fun i => cy (skp c i)) tt e with
      | none => rfl
      | some j =>
        show decide (some (skp c j) = some (skp c i)) = decide (some j = some i)
        by_cases h : j = i
        · rw [decide_eq_true (by rw [h]), decide_eq_true (by rw [h])]
        · rw [decide_eq_false (fun q => h (skp_inj.mp (Option.some.inj q))), decide_eq_false (fun q => h (Option.some.inj q))]
    rw [e2]
    rfl
  · unfold cancF
    rw [thr_c]
    simp
theorem sees_s (hc : c < k) (hk : k ≤ 6) {s : Bool} {i : Nat} (hi : i < 1000) : sees k ck cy (thr (N c)) s (skp c i) = sees (k - 1) (fun i => ck (skp c i)) (fun i => cy (skp c i)) tt s i := by
  unfold sees
  rw [thr_s (by omega) hi, canc_s hc hk]
  rfl
theorem laty_s (hc : c < k) (hk : k ≤ 6) {sa sb : Bool} {y : Int32} : laty k (snB k ck cy (thr (N c)) sa sb) cy y = laty (k - 1) (snB (k - 1) (fun i => ck (skp c i)) (fun i => cy (skp c i)) tt sa sb) (fun i => cy (skp c i)) y := by
  refine itr_drop (R := fun _ a b => a = b) hc rfl (fun i a b hi hab => ?_) (fun a => ?_)
  · subst hab
    unfold latyF snB
    rw [sees_s hc hk (by omega), sees_s hc hk (by omega)]
  · unfold latyF snB sees
    rw [thr_c]
    simp
end DR
/-- comets found anew -/
theorem c_fresh {o k : Nat} {E : JM} (ho : Cok o) (hk : E o 1 = N k) (hk6 : k ≤ 6) : ∃ E1 D, f10 o E = some E1 ∧ f13 o E1 = some D ∧ Cmt D o k ∧ (∀ i, i ≠ 11 → i ≠ 12 → i ≠ 13 → D o i = E o i) ∧ (∀ a, a ≠ o → D a = E a) := by
  obtain ⟨E1, h1⟩ : ∃ E1, E1 = jup E o 11 (cancI k (E (o + 12)) (E (o + 14))) := ⟨_, rfl⟩
  have e1 : E1 o 1 = N k := by rw [h1, jup_nk (by omega)]; exact hk
  have e11 : E1 o 11 = cancI k (E (o + 12)) (E (o + 14)) := by rw [h1, jup_same]
  have e12 : E1 (o + 12) = E (o + 12) := by rw [h1, jup_o (by omega)]
  obtain ⟨D, hD⟩ : ∃ D, D = jup (jup E1 o 12 (sightI k (E1 (o + 12)) (E1 o 11) false)) o 13 (sightI k (E1 (o + 12)) (E1 o 11) true) := ⟨_, rfl⟩
  refine ⟨E1, D, (c_canc ho hk hk6).trans (by rw [h1]), (c_sight ho e1 hk6).trans (by rw [hD]), ?_, fun i q1 q2 q3 => by rw [hD, jup_nk (by omega), jup_nk (by omega), h1, jup_nk (by omega)], fun a ha => by rw [hD, jup_o ha, jup_o ha, h1, jup_o ha]⟩
  have d12 : D (o + 12) = E (o + 12) := by rw [hD, jup_o (by omega), jup_o (by omega), e12]
  have d14 : D (o + 14) = E (o + 14) := by rw [hD, jup_o (by omega), jup_o (by omega), h1, jup_o (by omega)]
  have d11 : D o 11 = cancI k (E (o + 12)) (E (o + 14)) := by rw [hD, jup_nk (by omega), jup_nk (by omega), e11]
  have ds : ∀ s c, (decide (c < k) && (!(bt (cancI k (E (o + 12)) (E (o + 14))) c) && see (E (o + 12) c) s)) = (decide (c < k) && sees k (E (o + 12)) (E (o + 14)) tt s c) := fun s c => by
    rw [bt_cancI hk6]
    unfold sees tt
    rw [Bool.true_and]
    cases canc k (E (o + 12)) (E (o + 14)) (fun _ => true) c <;> cases see (E (o + 12) c) s <;> rfl
  refine ⟨fun c => ?_, fun c => ?_, fun c => ?_⟩
  · rw [d11, d12, d14, bt_cancI hk6]
  · rw [d12, d14, hD, jup_nk (by omega), jup_same, e11, e12, bt_sightI hk6, ds]
  · rw [d12, d14, hD, jup_same, e11, e12, bt_sightI hk6, ds]
def drw (Z : JM) (c p : Nat) : JM := fun o j => if (o = 31 ∨ o = 33) ∧ c ≤ j ∧ j < p then (if j + 1 < 6 then Z o (j + 1) else -1) else Z o j
theorem drw_o {Z : JM} {c p o : Nat} (h1 : o ≠ 31) (h2 : o ≠ 33) : drw Z c p o = Z o := by
  funext j
  show (if (o = 31 ∨ o = 33) ∧ _ then _ else _) = _
  rw [if_neg (fun q => by rcases q.1 with q | q; exact h1 q; exact h2 q)]
theorem drw_i {Z : JM} {c p o j : Nat} (h : c ≤ j ∧ j < p) (ho : o = 31 ∨ o = 33) : drw Z c p o j = if j + 1 < 6 then Z o (j + 1) else -1 := by
  show (if (o = 31 ∨ o = 33) ∧ c ≤ j ∧ j < p then _ else _) = _
  rw [if_pos ⟨ho, h.1, h.2⟩]
theorem drw_n {Z : JM} {c p o j : Nat} (h : ¬ (c ≤ j ∧ j < p)) : drw Z c p o j = Z o j := by
  show (if (o = 31 ∨ o = 33) ∧ c ≤ j ∧ j < p then _ else _) = _
  rw [if_neg (fun q => h q.2)]
theorem drw_s {Z : JM} {c p : Nat} (hc : c ≤ p) : jup (jup (drw Z c p) 31 p (if p + 1 < 6 then Z 31 (p + 1) else -1)) 33 p (if p + 1 < 6 then Z 33 (p + 1) else -1) = drw Z c (p + 1) := by
  funext o j
  rw [jup_at, jup_at]
  by_cases h1 : o = 33 ∧ j = p
  · rw [if_pos h1, h1.1, h1.2, drw_i ⟨hc, by omega⟩ (Or.inr rfl)]
  · rw [if_neg h1]
    by_cases h2 : o = 31 ∧ j = p
    · rw [if_pos h2, h2.1, h2.2, drw_i ⟨hc, by omega⟩ (Or.inl rfl)]
    · rw [if_neg h2]
      show (if (o = 31 ∨ o = 33) ∧ c ≤ j ∧ j < p then _ else _) = (if (o = 31 ∨ o = 33) ∧ c ≤ j ∧ j < p + 1 then _ else _)
      by_cases h3 : (o = 31 ∨ o = 33) ∧ c ≤ j ∧ j < p
      · rw [if_pos h3, if_pos (show (o = 31 ∨ o = 33) ∧ c ≤ j ∧ j < p + 1 from ⟨h3.1, h3.2.1, by omega⟩)]
      · rw [if_neg h3, if_neg (show ¬ ((o = 31 ∨ o = 33) ∧ c ≤ j ∧ j < p + 1) from fun q => by
          by_cases e : j = p
          · rcases q.1 with q1 | q1
            · exact h2 ⟨q1, e⟩
            · exact h1 ⟨q1, e⟩
          · exact h3 ⟨q.1, q.2.1, by omega⟩)]
theorem c_drop {Z : JM} {k c : Nat} (hk : Z 19 1 = N k) (hk6 : k ≤ 6) (hc : c < k) : ∃ D, f9 19 (N c) Z = some D ∧ D 19 1 = N (k - 1) ∧ Cmt D 19 (k - 1) ∧ (∀ i, i ≠ 1 → i ≠ 11 → i ≠ 12 → i ≠ 13 → D 19 i = Z 19 i) ∧ (∀ o, o ≠ 19 → o ≠ 31 → o ≠ 33 → D o = Z o) ∧ (∀ i, i < k - 1 → D 31 i = Z 31 (skp c i) ∧ D 33 i = Z 33 (skp c i)) := by
  obtain ⟨E, hE⟩ : ∃ E, E = jup (drw Z c k) 19 1 (N (k - 1)) := ⟨_, rfl⟩
  have e19 : ∀ i, i ≠ 1 → E 19 i = Z 19 i := fun i hi => by rw [hE, jup_nk (by omega), drw_o (by decide) (by decide)]
  obtain ⟨E1, D, g1, g2, g3, g4, g5⟩ := c_fresh (o := 19) (k := k - 1) (E := E) cok_19 (by rw [hE, jup_same]) (by omega)
  refine ⟨D, ?_, by rw [g4 1 (by omega) (by omega) (by omega), hE, jup_same], g3, fun i q1 q2 q3 q4 => by rw [g4 i q2 q3 q4, e19 i q1], fun o q1 q2 q3 => by rw [g5 o q1, hE, jup_o q1, drw_o q2 q3], fun i hi => ?_⟩
  · unfold f9
    have r1 : ∀ X p, p < 6 → f42 X (jpt 19 8) (N p + 1) = some (if p + 1 < 6 then X 31 (p + 1) else -1) := fun X p hp => by rw [N_succ]; exact get_N cok_19.2.2.2.2.2.1 (by omega)
    have r2 : ∀ X p, p < 6 → f42 X (jpt 19 9) (N p + 1) = some (if p + 1 < 6 then X 33 (p + 1) else -1) := fun X p hp => by rw [N_succ]; exact get_N cok_19.2.2.2.2.2.2 (by omega)
    have s1 : ∀ X p v, p < 6 → f43 (jpt 19 8) (N p) v X = some (jup X 31 p v) := fun X p v hp => set_in cok_19.2.2.2.2.2.1 hp
    have s2 : ∀ X p v, p < 6 → f43 (jpt 19 9) (N p) v X = some (jup X 33 p v) := fun X p v hp => set_in cok_19.2.2.2.2.2.2 hp
    have e1 : N k - (1 : Int32) = N (k - 1) := (Int32.ofNat_sub k 1 (by omega)).symm
    have key : ∀ (d p f : Nat), p + d = k → d < f → c ≤ p → f9_2 f 19 (N p) (drw Z c p) = some D := by
      intro d
      induction d with
      | zero =>
        intro p f hp hf _
        obtain ⟨f, rfl⟩ : ∃ g, f = g + 1 := ⟨f - 1, by omega⟩
        have e : p = k := hp
        subst e
        rw [f9_2, drw_o (by decide) (by decide), hk, if_neg (fun q => Nat.lt_irrefl _ ((N_lt (by omega) (by omega)).mp q)), e1, Option.bind_some, ← hE, g1, Option.bind_some, g2]
        rfl
      | succ d ih =>
        intro p f hp hf hcp
        obtain ⟨f, rfl⟩ : ∃ g, f = g + 1 := ⟨f - 1, by omega⟩
        rw [f9_2, drw_o (by decide) (by decide), hk, if_pos ((N_lt (by omega) (by omega)).mpr (by omega)), r1 _ p (by omega), Option.bind_some, drw_n (by omega), s1 _ p _ (by omega), Option.bind_some, r2 _ p (by omega), Option.bind_some, jup_o (by decide), drw_n (by omega), s2 _ p _ (by omega), Option.bind_some, drw_s hcp, N_succ]
        exact ih (p + 1) f (by omega) (by omega) (by omega)
    have z0 : drw Z c c = Z := by
      funext o j
      exact drw_n (by omega)
    have := key (k - c) c 1000 (by omega) (by omega) (Nat.le_refl _)
    rw [z0] at this
    exact this
  · rw [g5 31 (by decide), g5 33 (by decide), hE, jup_o (by decide), jup_o (by decide)]
    unfold skp
    by_cases h : i < c
    · rw [if_pos h, drw_n (by omega), drw_n (by omega)]; exact ⟨rfl, rfl⟩
    · rw [if_neg h, drw_i ⟨by omega, by omega⟩ (Or.inl rfl), drw_i ⟨by omega, by omega⟩ (Or.inr rfl), if_pos (by omega), if_pos (by omega)]; exact ⟨rfl, rfl⟩
