/-! PURE: heirs, shares -/
def heirF (L : Nat → Option Nat) (o : Nat) (p : Option Nat × Int32) : Option Nat × Int32 := match L o with
  | none => p
  | some g => match p.1 with
    | none => (some g, B o)
    | some l => if g < l then (some g, B o) else if g = l then (some l, p.2 ||| B o) else p
def hrs (n : Nat) (L : Nat → Option Nat) : Option Nat × Int32 := itr (heirF L) 0 n (none, 0)
theorem hrs_congr {n : Nat} {L L2 : Nat → Option Nat} (h : ∀ o, o < n → L o = L2 o) : hrs n L = hrs n L2 := by
  unfold hrs
  exact itr_congr n 0 (none, 0) (fun j b _ hj => by unfold heirF; rw [h j (by omega)])
def hsm (c : Nat) (p : Option Nat × Int32) : Prop := (∀ l, p.1 = some l → l < 9) ∧ bnd c p.2
theorem bnd_B {c : Nat} (hc : c < 31) : bnd (c + 1) (B c) := fun j hj => by
  rw [bt_B hc, decide_eq_true_iff] at hj
  omega
theorem bnd_or {c : Nat} {s t : Int32} (h1 : bnd c s) (h2 : bnd c t) : bnd c (s ||| t) := fun j hj => by
  rw [bt_or, Bool.or_eq_true] at hj
  rcases hj with hj | hj
  · exact h1 j hj
  · exact h2 j hj
theorem heirF_sm {L : Nat → Option Nat} {c : Nat} {p : Option Nat × Int32} (hc : c < 31) (hL : ∀ l, L c = some l → l < 9) (h : hsm c p) : hsm (c + 1) (heirF L c p) := by
  have h0 : bnd (c + 1) p.2 := fun j hj => by have := h.2 j hj; omega
  unfold heirF
  split
  · exact ⟨h.1, h0⟩
  · rename_i g hg
    split
    · exact ⟨fun l hl => by cases hl; exact hL g hg, bnd_B hc⟩
    · rename_i l hl
      split
      · exact ⟨fun l hl => by cases hl; exact hL g hg, bnd_B hc⟩
      · split
        · exact ⟨fun l2 hl2 => by cases hl2; exact h.1 l hl, bnd_or h0 (bnd_B hc)⟩
        · exact ⟨h.1, h0⟩
theorem hrs_sm {n : Nat} {L : Nat → Option Nat} (hn : n ≤ 9) (hL : ∀ o l, L o = some l → l < 9) : hsm n (hrs n L) := by
  have := itr_inv (f := heirF L) (P := fun c p => hsm c p) n 0 (none, 0) (fun j b _ hj h => heirF_sm (by omega) (hL j) h) ⟨fun l hl => (by cases hl), fun j hj => by rw [show ((none, 0) : Option Nat × Int32).2 = 0 from rfl, bt_zero] at hj; cases hj⟩
  rw [Nat.zero_add] at this
  exact this
theorem c_hrs {M : JM} {n k a : Nat} (h1 : Ctr M 4 n k) (ha : a < n) : f111 M 0 (N a) = some (hrs n (fun o => if bt (M 34 1) o = true then dg M 4 n k a o (M 34 0) else none)).2 := by
  have hn9 := h1.2.1
  have hL : ∀ o l, (if bt (M 34 1) o = true then dg M 4 n k a o (M 34 0) else none) = some l → l < 9 := fun o l hl => by
    split at hl
    · have := deg_lt hl; omega
    · cases hl
  generalize hLL : (fun o => if bt (M 34 1) o = true then dg M 4 n k a o (M 34 0) else none) = L
  have hL2 : ∀ o l, L o = some l → l < 9 := fun o l hl => by rw [← hLL] at hl; exact hL o l hl
  unfold f111
  refine (loop_run (F := fun f c (p : Option Nat × Int32) => f111_7 M f 0 (N a) (oi p.1) p.2 (N c)) (K := n) (f := heirF L) (out := fun p => some p.2) (P := fun c p => hsm c p) (fun f c p hc hp => ⟨?_, heirF_sm (by omega) (hL2 c) hp⟩) (fun f p hp => ?_) n 0 (none, 0) 1000 (by omega) (by omega) ⟨fun l hl => (by cases hl), fun j hj => by rw [show ((none, 0) : Option Nat × Int32).2 = 0 from rfl, bt_zero] at hj; cases hj⟩).1
  · obtain ⟨p1, p2⟩ := p
    show f111_7 M (f + 1) 0 (N a) (oi p1) p2 (N c) = f111_7 M f 0 (N a) (oi (heirF L c (p1, p2)).1) (heirF L c (p1, p2)).2 (N (c + 1))
    have eL : L c = if bt (M 34 1) c = true then dg M 4 n k a c (M 34 0) else none := by rw [← hLL]
    have hc31 : c < 31 := by omega
    rw [f111_7, xp_1, xp_3, h1.1, if_pos ((N_lt (by omega) (by omega)).mpr hc), has_N (by omega), c_dg cok_4 h1 ha hc]
    simp only [Option.bind_some, b2_0]
    have step : ∀ x : Option Nat, L c = x → f111_55 M (f111_7 M f) 0 (N a) (oi p1) p2 (N c) (oi x) = f111_7 M f 0 (N a) (oi (heirF L c (p1, p2)).1) (heirF L c (p1, p2)).2 (N (c + 1)) := by
      intro x hx
      unfold f111_55 f111_74 f111_79 f111_99 heirF
      simp only [hx, bit_N hc31, Option.bind_some, N_succ]
      cases x with
      | none => rfl
      | some g =>
        have hg : g < 9 := hL2 c g hx
        simp only [show oi (some g) = N g from rfl, if_neg (N_m1 (k := g) (by omega)), if_true]
        cases p1 with
        | none =>
          simp only [show oi none = -1 from rfl, if_true, Int32.zero_or]
          rfl
        | some l =>
          have hl : l < 9 := hp.1 l rfl
          simp only [show oi (some l) = N l from rfl, if_neg (N_m1 (k := l) (by omega)), Int32.zero_or]
          by_cases e1 : g < l
          · rw [if_pos ((N_lt (by omega) (by omega)).mpr e1), if_pos e1]; rfl
          · rw [if_neg (fun q => e1 ((N_lt (by omega) (by omega)).mp q)), if_neg e1]
            by_cases e2 : g = l
            · rw [if_pos (by rw [e2]), if_pos e2]; rfl
            · rw [if_neg (fun q => e2 ((N_eq (by omega) (by omega)).mp q)), if_neg e2]; rfl
    cases hb : bt (M 34 1) c with
    | false =>
      rw [if_pos rfl]
      exact step none (by rw [eL, hb]; rfl)
    | true =>
      rw [if_neg (by decide)]
      exact step _ (by rw [eL, hb]; rfl)
  · show f111_7 M (f + 1) 0 (N a) (oi p.1) p.2 (N n) = some p.2
    rw [f111_7, xp_1, h1.1, if_neg (fun q => Nat.lt_irrefl _ ((N_lt (by omega) (by omega)).mp q))]
def o99 (l : Option Nat) : Int32 := match l with
  | none => 99
  | some j => N j
theorem m_hrs0 {M : JM} {n k a : Nat} {L : Nat → Option Nat} (h : Rfk M n k) (ha : a < n) (hLL : L = fun o => if bt (M 199 10) o = true then md M n k a o (M 199 0) else none) (hna : bt (M 199 10) a = false) (hL : ∀ o l, L o = some l → l < 9) : ∀ (d c f : Nat) (X : JM) (p : Option Nat × Int32), c + d = n → d < f → Sm M X → hsm c p → ∃ X2, f177_8 f 198 (N a) (o99 p.1) p.2 (N c) X = some ((itr (heirF L) c d p).2, X2) ∧ Sm M X2
  | _, _, 0, _, _, _, hf, _, _ => absurd hf (Nat.not_lt_zero _)
  | 0, c, f + 1, X, p, hc, _, s, _ => by
    have e : c = n := hc
    subst e
    rw [f177_8, s 198 (by decide), h.1, if_neg (fun q => Nat.lt_irrefl _ ((N_lt (by have := h.2.1; omega) (by have := h.2.1; omega)).mp q))]
    exact ⟨X, rfl, s⟩
  | d + 1, c, f + 1, X, p, hc, hf, s, hp => by
    have hn9 := h.2.1
    have hps := heirF_sm (L := L) (show c < 31 by omega) (hL c) hp
    show ∃ X2, f177_8 (f + 1) 198 (N a) (o99 p.1) p.2 (N c) X = some ((itr (heirF L) (c + 1) d (heirF L c p)).2, X2) ∧ Sm M X2
    have eL : L c = if bt (M 199 10) c = true then md M n k a c (M 199 0) else none := by rw [hLL]
    have step : ∀ (x : Option Nat) (X1 : JM), L c = x → f177_55 (f177_8 f) 198 (N a) (o99 p.1) p.2 (N c) (oi x) X1 = f177_8 f 198 (N a) (o99 (heirF L c p).1) (heirF L c p).2 (N (c + 1)) X1 := by
      intro x X1 hx
      obtain ⟨p1, p2⟩ := p
      unfold f177_55 f177_76 f177_97 f177_98 f177_116 f177_117 heirF
      simp only [hx, N_succ]
      cases x with
      | none => rfl
      | some g =>
        have hg : g < 9 := hL c g hx
        simp only [show oi (some g) = N g from rfl, if_neg (N_m1 (k := g) (by omega))]
        cases p1 with
        | none =>
          simp only [show o99 none = 99 from rfl, show (N g < (99 : Int32)) = True from eq_true ((N_lt (b := 99) (by omega) (by omega)).mpr (by omega)), if_true]
          rfl
        | some l =>
          have hl : l < 9 := hp.1 l rfl
          simp only [show o99 (some l) = N l from rfl]
          by_cases e1 : g < l
          · simp only [(N_lt (a := g) (b := l) (by omega) (by omega)).mpr e1, e1, if_true]; rfl
          · have e1' : ¬ N g < N l := fun q => e1 ((N_lt (by omega) (by omega)).mp q)
            simp only [e1', e1, if_false]
            by_cases e2 : g = l
            · simp only [e2, if_true]; rfl
            · have e2' : ¬ N g = N l := fun q => e2 ((N_eq (by omega) (by omega)).mp q)
              simp only [e2', e2, if_false]; rfl
    rw [f177_8, s 198 (by decide), h.1, if_pos ((N_lt (by omega) (by omega)).mpr (by omega))]
    by_cases hca : c = a
    · rw [if_pos (show N c = N a by rw [hca])]
      obtain ⟨X2, e, s2⟩ := m_hrs0 h ha hLL hna hL d (c + 1) f X (heirF L c p) (by omega) (by omega) s hps
      refine ⟨X2, ?_, s2⟩
      unfold f177_54
      rw [← e]
      exact step none X (by rw [eL, hca, hna]; rfl)
    · rw [if_neg (fun q => hca ((N_eq (by omega) (by omega)).mp q)), mp_0, la_10, s 199 (by decide), la_0, s 199 (by decide)]
      simp only [Option.bind_some, m_has (show c < 31 by omega), b2_0]
      cases hb : bt (M 199 10) c with
      | false =>
        obtain ⟨X2, e, s2⟩ := m_hrs0 h ha hLL hna hL d (c + 1) f X (heirF L c p) (by omega) (by omega) s hps
        refine ⟨X2, ?_, s2⟩
        unfold f177_54
        rw [if_pos rfl, ← e]
        exact step none X (by rw [eL, hb]; rfl)
      | true =>
        obtain ⟨X1, e1, s1⟩ := m_degs (y := M 199 0) s h ha (show c < n by omega)
        obtain ⟨X2, e, s2⟩ := m_hrs0 h ha hLL hna hL d (c + 1) f X1 (heirF L c p) (by omega) (by omega) s1 hps
        refine ⟨X2, ?_, s2⟩
        rw [if_neg (by decide), e1]
        simp only [Option.bind_some]
        rw [← e]
        exact step _ X1 (by rw [eL, hb]; rfl)
theorem m_hrs {M : JM} {n k a : Nat} (h : Rfk M n k) (ha : a < n) (hna : bt (M 199 10) a = false) : ∃ X2, f177 198 (N a) M = some ((hrs n (fun o => if bt (M 199 10) o = true then md M n k a o (M 199 0) else none)).2, X2) ∧ Sm M X2 := by
  have hn9 := h.2.1
  unfold f177
  exact m_hrs0 h ha rfl hna (fun o l hl => by
    split at hl
    · have := deg_lt hl; omega
    · cases hl) n 0 1000 M (none, 0) (by omega) (by omega) Sm.refl ⟨fun l hl => (by cases hl), fun j hj => by rw [show ((none, 0) : Option Nat × Int32).2 = 0 from rfl, bt_zero] at hj; cases hj⟩
/-- shares -/
def jad (M : JM) (a t K : Nat) (g : Nat → Int32) : JM := fun o j => if o = a ∧ t ≤ j ∧ j < t + K then M a j + g (j - t) else M o j
theorem jad_o {M : JM} {a t K o : Nat} {g : Nat → Int32} (h : o ≠ a) : jad M a t K g o = M o := by
  funext j
  show (if o = a ∧ _ then _ else _) = _
  rw [if_neg (fun q => h q.1)]
theorem jad_out {M : JM} {a t K j : Nat} {g : Nat → Int32} (h : ¬ (t ≤ j ∧ j < t + K)) : jad M a t K g a j = M a j := by
  show (if a = a ∧ _ then _ else _) = _
  rw [if_neg (fun q => h q.2)]
theorem jad_in {M : JM} {a t K j : Nat} {g : Nat → Int32} (h : j < K) : jad M a t K g a (t + j) = M a (t + j) + g j := by
  show (if a = a ∧ _ then _ else _) = _
  rw [if_pos ⟨rfl, by omega, by omega⟩, show t + j - t = j by omega]
theorem jad_0 {M : JM} {a t : Nat} {g : Nat → Int32} : jad M a t 0 g = M := by
  funext o j
  show (if _ then _ else _) = _
  rw [if_neg (by omega)]
theorem jad_s {M : JM} {a t K : Nat} {g : Nat → Int32} : jup (jad M a t K g) a (t + K) (M a (t + K) + g K) = jad M a t (K + 1) g := by
  funext o j
  rw [jup_at]
  show (if o = a ∧ j = t + K then _ else if o = a ∧ t ≤ j ∧ j < t + K then _ else _) = if o = a ∧ t ≤ j ∧ j < t + (K + 1) then _ else _
  by_cases h1 : o = a ∧ j = t + K
  · rw [if_pos h1, if_pos ⟨h1.1, by omega, by omega⟩, h1.2, show t + K - t = K by omega]
  · rw [if_neg h1]
    by_cases h2 : o = a ∧ t ≤ j ∧ j < t + K
    · rw [if_pos h2, if_pos ⟨h2.1, by omega, by omega⟩]
    · rw [if_neg h2, if_neg (fun q => by omega)]
theorem jad_z {M : JM} {a t K : Nat} {g : Nat → Int32} (h : g K = 0) : jad M a t (K + 1) g = jad M a t K g := by
  funext o j
  show (if o = a ∧ t ≤ j ∧ j < t + (K + 1) then _ else _) = if o = a ∧ t ≤ j ∧ j < t + K then _ else _
  by_cases h2 : o = a ∧ t ≤ j ∧ j < t + K
  · rw [if_pos h2, if_pos ⟨h2.1, by omega, by omega⟩]
  · rw [if_neg h2]
    by_cases h1 : o = a ∧ j = t + K
    · rw [if_pos ⟨h1.1, by omega, by omega⟩, h1.2, show t + K - t = K by omega, h, h1.1, Int32.add_zero]
    · rw [if_neg (fun q => by omega)]
theorem jad_zero {M : JM} {a t : Nat} {g : Nat → Int32} : ∀ K, (∀ j, j < K → g j = 0) → jad M a t K g = M
  | 0, _ => jad_0
  | K + 1, h => by rw [jad_z (h K (by omega)), jad_zero K (fun j hj => h j (by omega))]
def shr (s : Int32) (est : Int32) (j : Nat) : Int32 := if bt s j = true then est / N (crd s 9) else 0
theorem smN_eq0 {f : Nat → Nat} : ∀ m, smN f m = 0 → ∀ j, j < m → f j = 0
  | 0, _, j, hj => absurd hj (Nat.not_lt_zero _)
  | m + 1, h, j, hj => by
    have h2 : smN f m + f m = 0 := h
    by_cases e : j = m
    · subst e; omega
    · exact smN_eq0 m (by omega) j (by omega)
theorem jdv_N {x : Int32} {c : Nat} (h0 : c ≠ 0) (h : c < 1000) : jdv x (N c) = some (x / N c) := by
  unfold jdv
  rw [decide_eq_false (show ¬ N c = (0 : Int32) from fun q => h0 ((N_eq (b := 0) (by omega) (by omega)).mp q))]; rfl
theorem crd_0 {s : Int32} (h : crd s 9 = 0) {j : Nat} (hj : j < 9) : bt s j = false := by
  rw [crd_sm] at h
  have := smN_eq0 9 h j hj
  cases hb : bt s j with
  | false => rfl
  | true => rw [hb] at this; cases this
theorem c_share {M : JM} {n k a : Nat} {est : Int32} (h1 : Ctr M 4 n k) (ha : a < n) {s : Int32} (hs : s = (hrs n (fun o => if bt (M 34 1) o = true then dg M 4 n k a o (M 34 0) else none)).2) : f81_120 0 (N a) est M = some (N (crd s 9), jad M 38 0 n (shr s est)) := by
  have hn9 := h1.2.1
  have hb : bnd n s := by
    rw [hs]
    exact (hrs_sm hn9 (fun o l hl => by
      split at hl
      · have := deg_lt hl; omega
      · cases hl)).2
  unfold f81_120 f112
  rw [c_hrs h1 ha, ← hs]
  simp only [Option.bind_some, bc_c hn9 hb]
  by_cases h0 : crd s 9 = 0
  · rw [if_pos (by rw [h0]; rfl)]
    rw [h0, jad_zero n (fun j hj => by unfold shr; rw [if_neg (by rw [crd_0 h0 (show j < 9 by omega)]; decide)])]
    rfl
  · have hc9 := crd_le (s := s) 9
    rw [if_neg (show ¬ N (crd s 9) = (0 : Int32) from fun q => h0 ((N_eq (b := 0) (by omega) (by omega)).mp q))]
    have key := (loop_run (F := fun f c (_ : Unit) => f112_14 f 0 est s (N (crd s 9)) (N c) (jad M 38 0 c (shr s est))) (K := n) (f := fun _ u => u) (out := fun _ => some (N (crd s 9), jad M 38 0 n (shr s est))) (P := fun _ _ => True) (fun f c u hc _ => ⟨?_, trivial⟩) (fun f u _ => ?_) n 0 () 1000 (by omega) (by omega) trivial).1
    · rw [jad_0] at key
      rw [show (0 : Int32) = N 0 from rfl, key]; rfl
    · show f112_14 (f + 1) 0 est s (N (crd s 9)) (N c) (jad M 38 0 c (shr s est)) = f112_14 f 0 est s (N (crd s 9)) (N (c + 1)) (jad M 38 0 (c + 1) (shr s est))
      rw [f112_14, xp_1, xp_3, jad_o (by decide), h1.1, if_pos ((N_lt (by omega) (by omega)).mpr hc), has_N (by omega), jdv_N h0 (by omega)]
      unfold f112_47
      simp only [Option.bind_some, b2_0, N_succ]
      cases hbc : bt s c with
      | false =>
        rw [if_pos rfl, jad_z (by unfold shr; rw [if_neg (by rw [hbc]; decide)])]
      | true =>
        rw [if_neg (by decide), c_addg (by omega)]
        simp only [Option.bind_some]
        rw [jad_out (by omega)]
        have e := jad_s (M := M) (a := 38) (t := 0) (K := c) (g := shr s est)
        rw [Nat.zero_add] at e
        rw [← e]
        unfold shr
        rw [if_pos hbc]
    · show f112_14 (f + 1) 0 est s (N (crd s 9)) (N n) (jad M 38 0 n (shr s est)) = _
      rw [f112_14, xp_1, jad_o (by decide), h1.1, if_neg (fun q => Nat.lt_irrefl _ ((N_lt (by omega) (by omega)).mp q))]
theorem m_share {M : JM} {n k a : Nat} {est : Int32} (h : Rfk M n k) (ha : a < n) (hna : bt (M 199 10) a = false) {s : Int32} (hs : s = (hrs n (fun o => if bt (M 199 10) o = true then md M n k a o (M 199 0) else none)).2) : ∃ X, f178_152 198 (N a) est M = some (N (crd s 9), jad X 199 1 n (shr s est)) ∧ Sm M X := by
  have hn9 := h.2.1
  have hb : bnd n s := by
    rw [hs]
    exact (hrs_sm hn9 (fun o l hl => by
      split at hl
      · have := deg_lt hl; omega
      · cases hl)).2
  obtain ⟨X, e, sX⟩ := m_hrs h ha hna
  refine ⟨X, ?_, sX⟩
  unfold f178_152
  rw [e, ← hs]
  simp only [Option.bind_some, bc_m hn9 hb]
  have hc9 := crd_le (s := s) 9
  have x7 : X 198 7 = N n := by rw [sX 198 (by decide)]; exact h.1
  have key := (loop_run (F := fun f c (_ : Unit) => f178_169 f 198 est s (N (crd s 9)) (N c) (jad X 199 1 c (shr s est))) (K := n) (f := fun _ u => u) (out := fun _ => some (N (crd s 9), jad X 199 1 n (shr s est))) (P := fun _ _ => True) (fun f c u hc _ => ⟨?_, trivial⟩) (fun f u _ => ?_) n 0 () 1000 (by omega) (by omega) trivial).1
  · rw [jad_0] at key
    exact key
  · show f178_169 (f + 1) 198 est s (N (crd s 9)) (N c) (jad X 199 1 c (shr s est)) = f178_169 f 198 est s (N (crd s 9)) (N (c + 1)) (jad X 199 1 (c + 1) (shr s est))
    rw [f178_169, jad_o (by decide), x7, if_pos ((N_lt (by omega) (by omega)).mpr hc), mp_0, show (1 : Int32) + N c = N (1 + c) from N_add, la_199 (by omega), jad_out (by omega), m_has (by omega)]
    unfold f178_206
    simp only [Option.bind_some, b2_0, N_succ, sa_199 (show 1 + c < 671 by omega)]
    have e2 := jad_s (M := X) (a := 199) (t := 1) (K := c) (g := shr s est)
    rw [← e2]
    cases hbc : bt s c with
    | false =>
      rw [if_pos rfl]
      unfold shr
      rw [if_neg (by rw [hbc]; decide)]
    | true =>
      have h0 : crd s 9 ≠ 0 := fun q => by rw [crd_0 q (show c < 9 by omega)] at hbc; cases hbc
      rw [if_neg (by decide), jdv_N h0 (by omega)]
      unfold shr
      rw [if_pos hbc]
      rfl
  · show f178_169 (f + 1) 198 est s (N (crd s 9)) (N n) (jad X 199 1 n (shr s est)) = _
    rw [f178_169, jad_o (by decide), x7, if_neg (fun q => Nat.lt_irrefl _ ((N_lt (by omega) (by omega)).mp q))]
