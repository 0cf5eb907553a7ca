/-! PURE: kin -/
theorem deg_isSome {n a b : Nat} {bo mo fa : Nat → Int32} {lt : Int32} (hn : n ≤ 9) (ha : a < n) (hp : ∀ p, p < n → okn n (mo p) ∧ okn n (fa p)) : (deg n bo mo fa lt a b).isSome = bt (rch n bo mo fa lt a n) b := by
  have h := deg_iff (b := b) (bo := bo) (lt := lt) hn ha hp
  cases hd : deg n bo mo fa lt a b with
  | none =>
    cases hb : bt (rch n bo mo fa lt a n) b with
    | false => rfl
    | true => obtain ⟨i, hi⟩ := h.mpr hb; rw [hd] at hi; cases hi
  | some i => rw [h.mp ⟨i, hd⟩]; rfl
def kinS (n a : Nat) (D : Nat → Bool) : Int32 := itr (fun j s => s ||| (if (!(decide (j = a)) && D j) = true then B j else 0)) 0 n 0
theorem bt_kinS {n a j : Nat} {D : Nat → Bool} (hn : n ≤ 9) : bt (kinS n a D) j = (decide (j < n) && (!(decide (j = a)) && D j)) := by
  have e := bt_orI (q := fun j => !(decide (j = a)) && D j) (s0 := 0) n j (by omega)
  rw [bt_zero, Bool.false_or] at e
  exact e
theorem kinS_congr {n a : Nat} {D E : Nat → Bool} (h : ∀ j, j < n → D j = E j) : kinS n a D = kinS n a E := by
  unfold kinS
  exact itr_congr n 0 0 (fun j s _ hj => by rw [h j (by omega)])
theorem c_kin {M : JM} {o n k a : Nat} {y : Int32} (ho : Cok o) (h : Ctr M o n k) (ha : a < n) : f21 M o (N a) y = some (kinS n a (fun j => (dg M o n k a j y).isSome)) := by
  have hn9 := h.2.1
  have hk6 := h.2.2.2.1
  have hp := h.2.2.2.2.1
  unfold f21
  rw [c_seen (by omega)]
  simp only [Option.bind_some, c_laty ho h.2.2.1 hk6, c_all ho h.1 hn9 hp (show a < 31 by omega), bit_N (show a < 31 by omega)]
  refine congrArg some (bt_ext (fun j hj => ?_))
  rw [bt_kinS hn9, bt_and, bt_or, bt_and, bt_and, bt_not hj, bt_not hj, bt_B (by omega)]
  by_cases hjn : j < n
  · rw [decide_eq_true hjn, Bool.true_and]
    unfold dg
    rw [deg_isSome hn9 ha hp]
    unfold lts
    cases bt (M o 10) j with
    | true =>
      simp only [Bool.and_true, Bool.not_true, Bool.and_false, Bool.or_false, if_true]
      exact Bool.and_comm _ _
    | false =>
      simp only [Bool.and_true, Bool.not_false, Bool.and_false, Bool.false_or, Bool.false_eq_true, if_false]
      exact Bool.and_comm _ _
  · have r : ∀ lt, bt (rch n (M (o + 4)) (M (o + 6)) (M (o + 8)) lt a n) j = false := fun lt => by
      cases hb : bt (rch n (M (o + 4)) (M (o + 6)) (M (o + 8)) lt a n) j with
      | false => rfl
      | true => exact absurd (rch_bnd hn9 ha hp n j hb) hjn
    rw [r, r, decide_eq_false hjn]
    simp only [Bool.false_and, Bool.or_false]
/-- the reference's country alone -/
def Rfk (M : JM) (n k : Nat) : Prop := M 198 7 = N n ∧ n ≤ 9 ∧ M 198 13 = N k ∧ k ≤ 6 ∧ (∀ p, p < n → ¬ M 204 p < 0) ∧ (∀ p, p < n → okn n (M 205 p) ∧ okn n (M 206 p))
def md (M : JM) (n k a b : Nat) (y : Int32) : Option Nat := deg n (M 204) (M 205) (M 206) (ltm M k (thr (M 198 22)) (decide (M 203 a = 1)) (decide (M 203 b = 1)) y) a b
def Sm (M X : JM) : Prop := ∀ o, o ≠ 210 → X o = M o
theorem Sm.refl {M : JM} : Sm M M := fun _ _ => rfl
theorem Sm.trans {M X Y : JM} (h : Sm M X) (g : Sm X Y) : Sm M Y := fun o q => (g o q).trans (h o q)
theorem Sm.same {M X : JM} (h : Sm M X) : Same M X := fun o j q => by
  have : o ≠ 210 := fun e => q (by unfold sck; omega)
  rw [h o this]
theorem sm_210 {M : JM} {k : Nat} {s : Nat → Int32} : Sm M (jrw M 210 k s) := fun o h => jrw_o h
section RF
variable {M X : JM} {n k a b : Nat} {y : Int32}
theorem sm_md (s : Sm M X) : md X n k a b y = md M n k a b y := by
  unfold md ltm
  rw [s 203 (by decide), s 204 (by decide), s 205 (by decide), s 206 (by decide), s 208 (by decide), s 209 (by decide), s 198 (by decide)]
theorem sm_rfk (s : Sm M X) (h : Rfk M n k) : Rfk X n k := by
  unfold Rfk at h ⊢
  rw [s 204 (by decide), s 205 (by decide), s 206 (by decide), s 198 (by decide)]
  exact h
theorem m_degs (s : Sm M X) (h : Rfk M n k) (ha : a < n) (hb : b < n) : ∃ X2, f156 198 (N a) (N b) y X = some (oi (md M n k a b y), X2) ∧ Sm M X2 := by
  obtain ⟨e1, e2, e3, e4, e5, e6⟩ := sm_rfk s h
  have q := m_deg (y := y) e1 e2 e3 e4 e5 e6 ha hb
  rw [← sm_md s]
  exact ⟨_, q, s.trans sm_210⟩
theorem oi_none {l : Option Nat} (h : ∀ j, l = some j → j < 1000) : oi l = -1 ↔ l = none := by
  cases l with
  | none => exact ⟨fun _ => rfl, fun _ => rfl⟩
  | some j => exact ⟨fun q => absurd q (N_m1 (by have := h j rfl; omega)), fun q => by cases q⟩
theorem md_lt (h : n ≤ 9) : ∀ j, md M n k a b y = some j → j < 1000 := fun j hj => by
  have := deg_lt hj
  omega
theorem m_kin0 (h : Rfk M n k) (ha : a < n) : ∀ (d b f : Nat) (X : JM), b + d = n → d < f → Sm M X → ∃ X2, f157_5 f 198 (N a) y (itr (fun j s => s ||| (if (!(decide (j = a)) && (md M n k a j y).isSome) = true then B j else 0)) 0 b 0) (N b) X = some (kinS n a (fun j => (md M n k a j y).isSome), X2) ∧ Sm M X2
  | _, _, 0, _, _, hf, _ => absurd hf (Nat.not_lt_zero _)
  | 0, b, f + 1, X, hb, _, s => by
    have e : b = n := hb
    subst e
    rw [f157_5, s 198 (by decide), h.1, if_neg (fun q => Nat.lt_irrefl _ ((N_lt (by have := h.2.1; omega) (by have := h.2.1; omega)).mp q))]
    exact ⟨X, rfl, s⟩
  | d + 1, b, f + 1, X, hb, hf, s => by
    have hn9 := h.2.1
    rw [f157_5, s 198 (by decide), h.1, if_pos ((N_lt (by omega) (by omega)).mpr (by omega))]
    unfold f157_40 f157_41
    rw [N_succ]
    have st : itr (fun j s => s ||| (if (!(decide (j = a)) && (md M n k a j y).isSome) = true then B j else 0)) 0 (b + 1) 0 = itr (fun j s => s ||| (if (!(decide (j = a)) && (md M n k a j y).isSome) = true then B j else 0)) 0 b 0 ||| (if (!(decide (b = a)) && (md M n k a b y).isSome) = true then B b else 0) := by
      rw [itr_succ, Nat.zero_add]
    by_cases hba : b = a
    · rw [if_pos (show N b = N a by rw [hba])]
      obtain ⟨X2, e, s2⟩ := m_kin0 h ha d (b + 1) f X (by omega) (by omega) s
      rw [st, decide_eq_true hba] at e
      exact ⟨X2, e, s2⟩
    · rw [if_neg (fun q => hba ((N_eq (by omega) (by omega)).mp q))]
      obtain ⟨X1, e1, s1⟩ := m_degs (y := y) s h ha (show b < n by omega)
      rw [e1]
      obtain ⟨X2, e, s2⟩ := m_kin0 h ha d (b + 1) f X1 (by omega) (by omega) s1
      rw [st, decide_eq_false hba] at e
      simp only [Option.bind_some]
      cases hd : md M n k a b y with
      | none =>
        rw [hd] at e
        exact ⟨X2, e, s2⟩
      | some j =>
        rw [hd] at e
        rw [if_neg (fun q => by rw [oi_none (fun i hi => md_lt hn9 i (hd.trans hi))] at q; cases q)]
        exact ⟨X2, e, s2⟩
theorem m_kin (h : Rfk M n k) (s : Sm M X) (ha : a < n) : ∃ X2, f157 198 (N a) y X = some (kinS n a (fun j => (md M n k a j y).isSome), X2) ∧ Sm M X2 := by
  unfold f157
  exact m_kin0 h ha n 0 1000 X (by omega) (by have := h.2.1; omega) s
theorem rfk_of (h : Ctr M 4 n k) (g : Agr M 4 n k) : Rfk M n k :=
  ⟨g.1, h.2.1, g.2.1, h.2.2.2.1, fun p hp => by rw [← g.2.2.2.2.1 p hp]; exact h.2.2.2.2.2.1 p hp, fun p hp => by rw [← g.2.2.2.2.2.1 p hp, ← g.2.2.2.2.2.2.1 p hp]; exact h.2.2.2.2.1 p hp⟩
theorem md_dg (h : Ctr M 4 n k) (g : Agr M 4 n k) (hl : M 198 22 = -1) (ha : a < n) (hb : b < n) : md M n k a b y = dg M 4 n k a b y := by
  unfold md dg
  rw [seer_ok h g ha, seer_ok h g hb, lts_ltm h g hl]
  rw [deg_congr (fun p hp => g.2.2.2.2.1 p hp) (fun p hp => g.2.2.2.2.2.1 p hp) (fun p hp => g.2.2.2.2.2.2.1 p hp)]
end RF
theorem t_kin {M : JM} {v y : Int32} (h : Inv M) : ∃ x M2, f77 M 0 v y = some x ∧ f168 198 v y M = some (x, M2) ∧ Inv M2 := by
  have hI := h
  obtain ⟨n, k, h1, h2, h3, h4, h5, h6, h7, h8, h9⟩ := h
  have hn9 : n ≤ 9 := h1.2.1
  unfold f77 f168
  rw [xp_1, c_one h1.1, m_one h2.1 (by omega), c_year, m_year]
  simp only [Option.bind_some, b2_0]
  cases hv : isN n v with
  | false => exact ⟨-2, M, rfl, rfl, hI⟩
  | true =>
    cases hy : isN 100 y with
    | false => exact ⟨-3, M, rfl, rfl, hI⟩
    | true =>
      obtain ⟨a, ha, rfl⟩ := isN_t (by omega) hv
      simp only [Bool.true_eq_false, if_false]
      obtain ⟨X2, e, s⟩ := m_kin (y := y) (rfk_of h1 h2) Sm.refl ha
      rw [c_kin cok_4 h1 ha, e, kinS_congr (D := fun j => (md M n k a j y).isSome) (E := fun j => (dg M 4 n k a j y).isSome) (fun j hj => by rw [md_dg h1 h2 h4 ha hj])]
      exact ⟨_, _, rfl, rfl, Inv_same hI s.same⟩
theorem blk_409 : Blk f217_409 := fun xs h18 i M hx hi hI => by
  obtain ⟨a, M2, e1, e2, h2⟩ := t_kin (v := xs.getD (i + 1) 0) (y := xs.getD (i + 2) 0) hI
  refine ⟨M2, h2, ?_⟩
  unfold f217_409 f217_1076
  rw [show (1 : Int32) = N 1 from rfl, show (2 : Int32) = N 2 from rfl, show (5 : Int32) = N 5 from rfl]
  simp only [N_add, sc_at (show i + 1 < xs.length by omega) hx, sc_at (show i + 2 < xs.length by omega) hx, Option.bind_some, e1, e2, if_true]
