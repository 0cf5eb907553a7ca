def jV (b : ByteArray) (f : Nat → Option (Instr × Nat)) (n : Nat) : Bool := (List.range n).all (fun pc => match f pc with | none => true | some r => decide (decode b pc = .ok r))
theorem jV_ok {b : ByteArray} {f : Nat → Option (Instr × Nat)} {n : Nat} (h : jV b f n = true) (hn : ∀ pc, n ≤ pc → f pc = none) (pc : Nat) (r : Instr × Nat) (hr : f pc = some r) : decode b pc = .ok r := by
  rcases Nat.lt_or_ge pc n with hl | hl
  · have h1 := List.all_eq_true.mp h pc (List.mem_range.mpr hl)
    rw [hr] at h1
    exact of_decide_eq_true h1
  · rw [hn pc hl] at hr; cases hr
theorem jV_out {f : Nat → Option (Instr × Nat)} {n : Nat} {g : Nat → Option (Instr × Nat)} (hf : ∀ pc, f pc = bif Nat.ble n pc then none else g pc) (pc : Nat) (h : n ≤ pc) : f pc = none := by
  rw [hf pc, show Nat.ble n pc = true from Nat.ble_eq.mpr h]; rfl
def jV2 (b : ByteArray) (f : Nat → Option (Instr × Nat)) (a n : Nat) : Bool := (List.range n).all (fun k => match f (a + k) with | none => true | some r => decide (decode b (a + k) = .ok r))
theorem jV_0 {b : ByteArray} {f : Nat → Option (Instr × Nat)} : jV b f 0 = true := rfl
theorem jV_add {b : ByteArray} {f : Nat → Option (Instr × Nat)} {a n : Nat} (h : jV b f a = true) (h2 : jV2 b f a n = true) : jV b f (a + n) = true := by
  refine List.all_eq_true.mpr fun pc hp => ?_
  rcases Nat.lt_or_ge pc a with hl | hl
  · exact List.all_eq_true.mp h pc (List.mem_range.mpr hl)
  · have h3 := List.all_eq_true.mp h2 (pc - a) (List.mem_range.mpr (by have := List.mem_range.mp hp; omega))
    rwa [Nat.add_sub_cancel' hl] at h3
set_option maxRecDepth 100000 in
theorem jv_0 : jV cX0_init jP_0 101 = true := by decide +kernel
theorem jq_0 : ∀ pc r, jP 0 pc = some r → decode (jB 0) pc = .ok r := fun pc r h => jV_ok jv_0 (jV_out (fun _ => rfl)) pc r h
set_option maxRecDepth 100000 in
theorem jv_1 : jV cX0_copyFrom jP_1 134 = true := by decide +kernel
theorem jq_1 : ∀ pc r, jP 1 pc = some r → decode (jB 1) pc = .ok r := fun pc r h => jV_ok jv_1 (jV_out (fun _ => rfl)) pc r h
set_option maxRecDepth 100000 in
theorem jv_2 : jV cX0_clear jP_2 21 = true := by decide +kernel
theorem jq_2 : ∀ pc r, jP 2 pc = some r → decode (jB 2) pc = .ok r := fun pc r h => jV_ok jv_2 (jV_out (fun _ => rfl)) pc r h
set_option maxRecDepth 100000 in
theorem jv_3 : jV cX0_hasOne jP_3 18 = true := by decide +kernel
theorem jq_3 : ∀ pc r, jP 3 pc = some r → decode (jB 3) pc = .ok r := fun pc r h => jV_ok jv_3 (jV_out (fun _ => rfl)) pc r h
set_option maxRecDepth 100000 in
theorem jv_4 : jV cX0_hasTwo jP_4 27 = true := by decide +kernel
theorem jq_4 : ∀ pc r, jP 4 pc = some r → decode (jB 4) pc = .ok r := fun pc r h => jV_ok jv_4 (jV_out (fun _ => rfl)) pc r h
set_option maxRecDepth 100000 in
theorem jv_5 : jV cX0_hasComet jP_5 18 = true := by decide +kernel
theorem jq_5 : ∀ pc r, jP 5 pc = some r → decode (jB 5) pc = .ok r := fun pc r h => jV_ok jv_5 (jV_out (fun _ => rfl)) pc r h
set_option maxRecDepth 100000 in
theorem jv_6 : jV cX0_addOne jP_6 76 = true := by decide +kernel
theorem jq_6 : ∀ pc r, jP 6 pc = some r → decode (jB 6) pc = .ok r := fun pc r h => jV_ok jv_6 (jV_out (fun _ => rfl)) pc r h
set_option maxRecDepth 100000 in
theorem jv_7 : jV cX0_setParents jP_7 19 = true := by decide +kernel
theorem jq_7 : ∀ pc r, jP 7 pc = some r → decode (jB 7) pc = .ok r := fun pc r h => jV_ok jv_7 (jV_out (fun _ => rfl)) pc r h
set_option maxRecDepth 100000 in
theorem jv_8 : jV cX0_addComet jP_8 35 = true := by decide +kernel
theorem jq_8 : ∀ pc r, jP 8 pc = some r → decode (jB 8) pc = .ok r := fun pc r h => jV_ok jv_8 (jV_out (fun _ => rfl)) pc r h
set_option maxRecDepth 100000 in
theorem jv_9 : jV cX0_dropComet jP_9 71 = true := by decide +kernel
theorem jq_9 : ∀ pc r, jP 9 pc = some r → decode (jB 9) pc = .ok r := fun pc r h => jV_ok jv_9 (jV_out (fun _ => rfl)) pc r h
set_option maxRecDepth 100000 in
theorem jv_10 : jV cX0_findCancelled jP_10 51 = true := by decide +kernel
theorem jq_10 : ∀ pc r, jP 10 pc = some r → decode (jB 10) pc = .ok r := fun pc r h => jV_ok jv_10 (jV_out (fun _ => rfl)) pc r h
set_option maxRecDepth 100000 in
theorem jv_11 : jV cX0_latestAheadOf jP_11 57 = true := by decide +kernel
theorem jq_11 : ∀ pc r, jP 11 pc = some r → decode (jB 11) pc = .ok r := fun pc r h => jV_ok jv_11 (jV_out (fun _ => rfl)) pc r h
set_option maxRecDepth 100000 in
theorem jv_12 : jV cX0_isAhead jP_12 39 = true := by decide +kernel
theorem jq_12 : ∀ pc r, jP 12 pc = some r → decode (jB 12) pc = .ok r := fun pc r h => jV_ok jv_12 (jV_out (fun _ => rfl)) pc r h
set_option maxRecDepth 100000 in
theorem jv_13 : jV cX0_findSight jP_13 100 = true := by decide +kernel
theorem jq_13 : ∀ pc r, jP 13 pc = some r → decode (jB 13) pc = .ok r := fun pc r h => jV_ok jv_13 (jV_out (fun _ => rfl)) pc r h
set_option maxRecDepth 100000 in
theorem jv_14 : jV cX0_seenBy jP_14 23 = true := by decide +kernel
theorem jq_14 : ∀ pc r, jP 14 pc = some r → decode (jB 14) pc = .ok r := fun pc r h => jV_ok jv_14 (jV_out (fun _ => rfl)) pc r h
set_option maxRecDepth 100000 in
theorem jv_15 : jV cX0_whoSees jP_15 52 = true := by decide +kernel
theorem jq_15 : ∀ pc r, jP 15 pc = some r → decode (jB 15) pc = .ok r := fun pc r h => jV_ok jv_15 (jV_out (fun _ => rfl)) pc r h
set_option maxRecDepth 100000 in
theorem jv_16 : jV cX0_latestYear jP_16 57 = true := by decide +kernel
theorem jq_16 : ∀ pc r, jP 16 pc = some r → decode (jB 16) pc = .ok r := fun pc r h => jV_ok jv_16 (jV_out (fun _ => rfl)) pc r h
set_option maxRecDepth 100000 in
theorem jv_17 : jV cX0_secondYear jP_17 92 = true := by decide +kernel
theorem jq_17 : ∀ pc r, jP 17 pc = some r → decode (jB 17) pc = .ok r := fun pc r h => jV_ok jv_17 (jV_out (fun _ => rfl)) pc r h
set_option maxRecDepth 100000 in
theorem jv_18 : jV cX0_stepFrom jP_18 99 = true := by decide +kernel
theorem jq_18 : ∀ pc r, jP 18 pc = some r → decode (jB 18) pc = .ok r := fun pc r h => jV_ok jv_18 (jV_out (fun _ => rfl)) pc r h
set_option maxRecDepth 100000 in
theorem jv_19 : jV cX0_allReached jP_19 44 = true := by decide +kernel
theorem jq_19 : ∀ pc r, jP 19 pc = some r → decode (jB 19) pc = .ok r := fun pc r h => jV_ok jv_19 (jV_out (fun _ => rfl)) pc r h
set_option maxRecDepth 100000 in
theorem jv_20 : jV cX0_degreeOf jP_20 79 = true := by decide +kernel
theorem jq_20 : ∀ pc r, jP 20 pc = some r → decode (jB 20) pc = .ok r := fun pc r h => jV_ok jv_20 (jV_out (fun _ => rfl)) pc r h
set_option maxRecDepth 100000 in
theorem jv_21 : jV cX0_kinOf jP_21 67 = true := by decide +kernel
theorem jq_21 : ∀ pc r, jP 21 pc = some r → decode (jB 21) pc = .ok r := fun pc r h => jV_ok jv_21 (jV_out (fun _ => rfl)) pc r h
set_option maxRecDepth 100000 in
theorem jv_22 : jV cX0_pairsOfKin jP_22 34 = true := by decide +kernel
theorem jq_22 : ∀ pc r, jP 22 pc = some r → decode (jB 22) pc = .ok r := fun pc r h => jV_ok jv_22 (jV_out (fun _ => rfl)) pc r h
set_option maxRecDepth 100000 in
theorem jv_23 : jV cX0_makersOfKin jP_23 65 = true := by decide +kernel
theorem jq_23 : ∀ pc r, jP 23 pc = some r → decode (jB 23) pc = .ok r := fun pc r h => jV_ok jv_23 (jV_out (fun _ => rfl)) pc r h
set_option maxRecDepth 100000 in
theorem jv_24 : jV cX1_init jP_24 95 = true := by decide +kernel
theorem jq_24 : ∀ pc r, jP 24 pc = some r → decode (jB 24) pc = .ok r := fun pc r h => jV_ok jv_24 (jV_out (fun _ => rfl)) pc r h
set_option maxRecDepth 100000 in
theorem jv_25 : jV cX1_add jP_25 72 = true := by decide +kernel
theorem jq_25 : ∀ pc r, jP 25 pc = some r → decode (jB 25) pc = .ok r := fun pc r h => jV_ok jv_25 (jV_out (fun _ => rfl)) pc r h
set_option maxRecDepth 100000 in
theorem jv_26 : jV cX1_clear jP_26 12 = true := by decide +kernel
theorem jq_26 : ∀ pc r, jP 26 pc = some r → decode (jB 26) pc = .ok r := fun pc r h => jV_ok jv_26 (jV_out (fun _ => rfl)) pc r h
set_option maxRecDepth 100000 in
theorem jv_27 : jV cX1_weigh jP_27 110 = true := by decide +kernel
theorem jq_27 : ∀ pc r, jP 27 pc = some r → decode (jB 27) pc = .ok r := fun pc r h => jV_ok jv_27 (jV_out (fun _ => rfl)) pc r h
set_option maxRecDepth 100000 in
theorem jv_28 : jV cX1_waysOf jP_28 40 = true := by decide +kernel
theorem jq_28 : ∀ pc r, jP 28 pc = some r → decode (jB 28) pc = .ok r := fun pc r h => jV_ok jv_28 (jV_out (fun _ => rfl)) pc r h
set_option maxRecDepth 100000 in
theorem jv_29 : jV cX1_tryWay jP_29 51 = true := by decide +kernel
theorem jq_29 : ∀ pc r, jP 29 pc = some r → decode (jB 29) pc = .ok r := fun pc r h => jV_ok jv_29 (jV_out (fun _ => rfl)) pc r h
set_option maxRecDepth 100000 in
theorem jv_30 : jV cX1_allFit jP_30 79 = true := by decide +kernel
theorem jq_30 : ∀ pc r, jP 30 pc = some r → decode (jB 30) pc = .ok r := fun pc r h => jV_ok jv_30 (jV_out (fun _ => rfl)) pc r h
set_option maxRecDepth 100000 in
theorem jv_31 : jV cX1_takeTruth jP_31 75 = true := by decide +kernel
theorem jq_31 : ∀ pc r, jP 31 pc = some r → decode (jB 31) pc = .ok r := fun pc r h => jV_ok jv_31 (jV_out (fun _ => rfl)) pc r h
set_option maxRecDepth 100000 in
theorem jv_32 : jV cX1_alwaysOfOneKind jP_32 77 = true := by decide +kernel
theorem jq_32 : ∀ pc r, jP 32 pc = some r → decode (jB 32) pc = .ok r := fun pc r h => jV_ok jv_32 (jV_out (fun _ => rfl)) pc r h
set_option maxRecDepth 100000 in
theorem jv_33 : jV cX2_init jP_33 83 = true := by decide +kernel
theorem jq_33 : ∀ pc r, jP 33 pc = some r → decode (jB 33) pc = .ok r := fun pc r h => jV_ok jv_33 (jV_out (fun _ => rfl)) pc r h
set_option maxRecDepth 100000 in
theorem jv_34 : jV cX2_beginIn jP_34 46 = true := by decide +kernel
theorem jq_34 : ∀ pc r, jP 34 pc = some r → decode (jB 34) pc = .ok r := fun pc r h => jV_ok jv_34 (jV_out (fun _ => rfl)) pc r h
set_option maxRecDepth 100000 in
theorem jv_35 : jV cX2_copyFrom jP_35 99 = true := by decide +kernel
theorem jq_35 : ∀ pc r, jP 35 pc = some r → decode (jB 35) pc = .ok r := fun pc r h => jV_ok jv_35 (jV_out (fun _ => rfl)) pc r h
set_option maxRecDepth 100000 in
theorem jv_36 : jV cX2_hasDebt jP_36 18 = true := by decide +kernel
theorem jq_36 : ∀ pc r, jP 36 pc = some r → decode (jB 36) pc = .ok r := fun pc r h => jV_ok jv_36 (jV_out (fun _ => rfl)) pc r h
set_option maxRecDepth 100000 in
theorem jv_37 : jV cX2_addDebt jP_37 62 = true := by decide +kernel
theorem jq_37 : ∀ pc r, jP 37 pc = some r → decode (jB 37) pc = .ok r := fun pc r h => jV_ok jv_37 (jV_out (fun _ => rfl)) pc r h
set_option maxRecDepth 100000 in
theorem jv_38 : jV cX2_addGold jP_38 10 = true := by decide +kernel
theorem jq_38 : ∀ pc r, jP 38 pc = some r → decode (jB 38) pc = .ok r := fun pc r h => jV_ok jv_38 (jV_out (fun _ => rfl)) pc r h
set_option maxRecDepth 100000 in
theorem jv_39 : jV cX2_goldOfAll jP_39 34 = true := by decide +kernel
theorem jq_39 : ∀ pc r, jP 39 pc = some r → decode (jB 39) pc = .ok r := fun pc r h => jV_ok jv_39 (jV_out (fun _ => rfl)) pc r h
set_option maxRecDepth 100000 in
theorem jv_40 : jV cX2_bury jP_40 50 = true := by decide +kernel
theorem jq_40 : ∀ pc r, jP 40 pc = some r → decode (jB 40) pc = .ok r := fun pc r h => jV_ok jv_40 (jV_out (fun _ => rfl)) pc r h
set_option maxRecDepth 100000 in
theorem jv_41 : jV cX3_init jP_41 16 = true := by decide +kernel
theorem jq_41 : ∀ pc r, jP 41 pc = some r → decode (jB 41) pc = .ok r := fun pc r h => jV_ok jv_41 (jV_out (fun _ => rfl)) pc r h
set_option maxRecDepth 100000 in
theorem jv_42 : jV cX3_get jP_42 24 = true := by decide +kernel
theorem jq_42 : ∀ pc r, jP 42 pc = some r → decode (jB 42) pc = .ok r := fun pc r h => jV_ok jv_42 (jV_out (fun _ => rfl)) pc r h
set_option maxRecDepth 100000 in
theorem jv_43 : jV cX3_set jP_43 21 = true := by decide +kernel
theorem jq_43 : ∀ pc r, jP 43 pc = some r → decode (jB 43) pc = .ok r := fun pc r h => jV_ok jv_43 (jV_out (fun _ => rfl)) pc r h
set_option maxRecDepth 100000 in
theorem jv_44 : jV cX3_add jP_44 13 = true := by decide +kernel
theorem jq_44 : ∀ pc r, jP 44 pc = some r → decode (jB 44) pc = .ok r := fun pc r h => jV_ok jv_44 (jV_out (fun _ => rfl)) pc r h
set_option maxRecDepth 100000 in
theorem jv_45 : jV cX3_fill jP_45 25 = true := by decide +kernel
theorem jq_45 : ∀ pc r, jP 45 pc = some r → decode (jB 45) pc = .ok r := fun pc r h => jV_ok jv_45 (jV_out (fun _ => rfl)) pc r h
set_option maxRecDepth 100000 in
theorem jv_46 : jV cX3_copyFrom jP_46 29 = true := by decide +kernel
theorem jq_46 : ∀ pc r, jP 46 pc = some r → decode (jB 46) pc = .ok r := fun pc r h => jV_ok jv_46 (jV_out (fun _ => rfl)) pc r h
set_option maxRecDepth 100000 in
theorem jv_47 : jV cX4_init jP_47 47 = true := by decide +kernel
theorem jq_47 : ∀ pc r, jP 47 pc = some r → decode (jB 47) pc = .ok r := fun pc r h => jV_ok jv_47 (jV_out (fun _ => rfl)) pc r h
set_option maxRecDepth 100000 in
theorem jv_48 : jV cX4_at jP_48 24 = true := by decide +kernel
theorem jq_48 : ∀ pc r, jP 48 pc = some r → decode (jB 48) pc = .ok r := fun pc r h => jV_ok jv_48 (jV_out (fun _ => rfl)) pc r h
set_option maxRecDepth 100000 in
theorem jv_49 : jV cX4_store jP_49 16 = true := by decide +kernel
theorem jq_49 : ∀ pc r, jP 49 pc = some r → decode (jB 49) pc = .ok r := fun pc r h => jV_ok jv_49 (jV_out (fun _ => rfl)) pc r h
set_option maxRecDepth 100000 in
theorem jv_50 : jV cX4_fetch jP_50 16 = true := by decide +kernel
theorem jq_50 : ∀ pc r, jP 50 pc = some r → decode (jB 50) pc = .ok r := fun pc r h => jV_ok jv_50 (jV_out (fun _ => rfl)) pc r h
set_option maxRecDepth 100000 in
theorem jv_51 : jV cX5_init jP_51 24 = true := by decide +kernel
theorem jq_51 : ∀ pc r, jP 51 pc = some r → decode (jB 51) pc = .ok r := fun pc r h => jV_ok jv_51 (jV_out (fun _ => rfl)) pc r h
set_option maxRecDepth 100000 in
theorem jv_52 : jV cX5_append jP_52 36 = true := by decide +kernel
theorem jq_52 : ∀ pc r, jP 52 pc = some r → decode (jB 52) pc = .ok r := fun pc r h => jV_ok jv_52 (jV_out (fun _ => rfl)) pc r h
set_option maxRecDepth 100000 in
theorem jv_53 : jV cX5_clear jP_53 12 = true := by decide +kernel
theorem jq_53 : ∀ pc r, jP 53 pc = some r → decode (jB 53) pc = .ok r := fun pc r h => jV_ok jv_53 (jV_out (fun _ => rfl)) pc r h
set_option maxRecDepth 100000 in
theorem jv_54 : jV cX5_readInto jP_54 62 = true := by decide +kernel
theorem jq_54 : ∀ pc r, jP 54 pc = some r → decode (jB 54) pc = .ok r := fun pc r h => jV_ok jv_54 (jV_out (fun _ => rfl)) pc r h
set_option maxRecDepth 100000 in
theorem jv_55 : jV cX5_readSeparator jP_55 72 = true := by decide +kernel
theorem jq_55 : ∀ pc r, jP 55 pc = some r → decode (jB 55) pc = .ok r := fun pc r h => jV_ok jv_55 (jV_out (fun _ => rfl)) pc r h
set_option maxRecDepth 100000 in
theorem jv_56 : jV cX5_readClause jP_56 188 = true := by decide +kernel
theorem jq_56 : ∀ pc r, jP 56 pc = some r → decode (jB 56) pc = .ok r := fun pc r h => jV_ok jv_56 (jV_out (fun _ => rfl)) pc r h
set_option maxRecDepth 100000 in
theorem jv_57 : jV cX5_cometKindOf jP_57 36 = true := by decide +kernel
theorem jq_57 : ∀ pc r, jP 57 pc = some r → decode (jB 57) pc = .ok r := fun pc r h => jV_ok jv_57 (jV_out (fun _ => rfl)) pc r h
set_option maxRecDepth 100000 in
theorem jv_58 : jV cX5_kindOf jP_58 34 = true := by decide +kernel
theorem jq_58 : ∀ pc r, jP 58 pc = some r → decode (jB 58) pc = .ok r := fun pc r h => jV_ok jv_58 (jV_out (fun _ => rfl)) pc r h
set_option maxRecDepth 100000 in
theorem jv_59 : jV cX5_readParents jP_59 51 = true := by decide +kernel
theorem jq_59 : ∀ pc r, jP 59 pc = some r → decode (jB 59) pc = .ok r := fun pc r h => jV_ok jv_59 (jV_out (fun _ => rfl)) pc r h
set_option maxRecDepth 100000 in
theorem jv_60 : jV cX5_readWord jP_60 97 = true := by decide +kernel
theorem jq_60 : ∀ pc r, jP 60 pc = some r → decode (jB 60) pc = .ok r := fun pc r h => jV_ok jv_60 (jV_out (fun _ => rfl)) pc r h
set_option maxRecDepth 100000 in
theorem jv_61 : jV cX5_canStand jP_61 76 = true := by decide +kernel
theorem jq_61 : ∀ pc r, jP 61 pc = some r → decode (jB 61) pc = .ok r := fun pc r h => jV_ok jv_61 (jV_out (fun _ => rfl)) pc r h
set_option maxRecDepth 100000 in
theorem jv_62 : jV cX5_spelling jP_62 103 = true := by decide +kernel
theorem jq_62 : ∀ pc r, jP 62 pc = some r → decode (jB 62) pc = .ok r := fun pc r h => jV_ok jv_62 (jV_out (fun _ => rfl)) pc r h
set_option maxRecDepth 100000 in
theorem jv_63 : jV cX5_isSpelled jP_63 53 = true := by decide +kernel
theorem jq_63 : ∀ pc r, jP 63 pc = some r → decode (jB 63) pc = .ok r := fun pc r h => jV_ok jv_63 (jV_out (fun _ => rfl)) pc r h
set_option maxRecDepth 100000 in
theorem jv_64 : jV cX5_readNumber jP_64 131 = true := by decide +kernel
theorem jq_64 : ∀ pc r, jP 64 pc = some r → decode (jB 64) pc = .ok r := fun pc r h => jV_ok jv_64 (jV_out (fun _ => rfl)) pc r h
set_option maxRecDepth 100000 in
theorem jv_65 : jV cX5_skipBlanks jP_65 41 = true := by decide +kernel
theorem jq_65 : ∀ pc r, jP 65 pc = some r → decode (jB 65) pc = .ok r := fun pc r h => jV_ok jv_65 (jV_out (fun _ => rfl)) pc r h
set_option maxRecDepth 100000 in
theorem jv_66 : jV cX5_isWithin jP_66 16 = true := by decide +kernel
theorem jq_66 : ∀ pc r, jP 66 pc = some r → decode (jB 66) pc = .ok r := fun pc r h => jV_ok jv_66 (jV_out (fun _ => rfl)) pc r h
set_option maxRecDepth 100000 in
theorem jv_67 : jV cX6_init jP_67 113 = true := by decide +kernel
theorem jq_67 : ∀ pc r, jP 67 pc = some r → decode (jB 67) pc = .ok r := fun pc r h => jV_ok jv_67 (jV_out (fun _ => rfl)) pc r h
set_option maxRecDepth 100000 in
theorem jv_68 : jV cX6_write jP_68 38 = true := by decide +kernel
theorem jq_68 : ∀ pc r, jP 68 pc = some r → decode (jB 68) pc = .ok r := fun pc r h => jV_ok jv_68 (jV_out (fun _ => rfl)) pc r h
set_option maxRecDepth 100000 in
theorem jv_69 : jV cX6_erase jP_69 8 = true := by decide +kernel
theorem jq_69 : ∀ pc r, jP 69 pc = some r → decode (jB 69) pc = .ok r := fun pc r h => jV_ok jv_69 (jV_out (fun _ => rfl)) pc r h
set_option maxRecDepth 100000 in
theorem jv_70 : jV cX6_fault jP_70 30 = true := by decide +kernel
theorem jq_70 : ∀ pc r, jP 70 pc = some r → decode (jB 70) pc = .ok r := fun pc r h => jV_ok jv_70 (jV_out (fun _ => rfl)) pc r h
set_option maxRecDepth 100000 in
theorem jv_71 : jV cX6_land jP_71 92 = true := by decide +kernel
theorem jq_71 : ∀ pc r, jP 71 pc = some r → decode (jB 71) pc = .ok r := fun pc r h => jV_ok jv_71 (jV_out (fun _ => rfl)) pc r h
set_option maxRecDepth 100000 in
theorem jv_72 : jV cX6_one jP_72 151 = true := by decide +kernel
theorem jq_72 : ∀ pc r, jP 72 pc = some r → decode (jB 72) pc = .ok r := fun pc r h => jV_ok jv_72 (jV_out (fun _ => rfl)) pc r h
set_option maxRecDepth 100000 in
theorem jv_73 : jV cX6_comet jP_73 100 = true := by decide +kernel
theorem jq_73 : ∀ pc r, jP 73 pc = some r → decode (jB 73) pc = .ok r := fun pc r h => jV_ok jv_73 (jV_out (fun _ => rfl)) pc r h
set_option maxRecDepth 100000 in
theorem jv_74 : jV cX6_as jP_74 66 = true := by decide +kernel
theorem jq_74 : ∀ pc r, jP 74 pc = some r → decode (jB 74) pc = .ok r := fun pc r h => jV_ok jv_74 (jV_out (fun _ => rfl)) pc r h
set_option maxRecDepth 100000 in
theorem jv_75 : jV cX6_cometAs jP_75 64 = true := by decide +kernel
theorem jq_75 : ∀ pc r, jP 75 pc = some r → decode (jB 75) pc = .ok r := fun pc r h => jV_ok jv_75 (jV_out (fun _ => rfl)) pc r h
set_option maxRecDepth 100000 in
theorem jv_76 : jV cX6_degree jP_76 48 = true := by decide +kernel
theorem jq_76 : ∀ pc r, jP 76 pc = some r → decode (jB 76) pc = .ok r := fun pc r h => jV_ok jv_76 (jV_out (fun _ => rfl)) pc r h
set_option maxRecDepth 100000 in
theorem jv_77 : jV cX6_kin jP_77 36 = true := by decide +kernel
theorem jq_77 : ∀ pc r, jP 77 pc = some r → decode (jB 77) pc = .ok r := fun pc r h => jV_ok jv_77 (jV_out (fun _ => rfl)) pc r h
set_option maxRecDepth 100000 in
theorem jv_78 : jV cX6_go jP_78 56 = true := by decide +kernel
theorem jq_78 : ∀ pc r, jP 78 pc = some r → decode (jB 78) pc = .ok r := fun pc r h => jV_ok jv_78 (jV_out (fun _ => rfl)) pc r h
set_option maxRecDepth 100000 in
theorem jv_79 : jV cX6_may jP_79 30 = true := by decide +kernel
theorem jq_79 : ∀ pc r, jP 79 pc = some r → decode (jB 79) pc = .ok r := fun pc r h => jV_ok jv_79 (jV_out (fun _ => rfl)) pc r h
set_option maxRecDepth 100000 in
theorem jv_80 : jV cX6_wed jP_80 60 = true := by decide +kernel
theorem jq_80 : ∀ pc r, jP 80 pc = some r → decode (jB 80) pc = .ok r := fun pc r h => jV_ok jv_80 (jV_out (fun _ => rfl)) pc r h
set_option maxRecDepth 100000 in
theorem jv_81 : jV cX6_die jP_81 131 = true := by decide +kernel
theorem jq_81 : ∀ pc r, jP 81 pc = some r → decode (jB 81) pc = .ok r := fun pc r h => jV_ok jv_81 (jV_out (fun _ => rfl)) pc r h
set_option maxRecDepth 100000 in
theorem jv_82 : jV cX6_owe jP_82 71 = true := by decide +kernel
theorem jq_82 : ∀ pc r, jP 82 pc = some r → decode (jB 82) pc = .ok r := fun pc r h => jV_ok jv_82 (jV_out (fun _ => rfl)) pc r h
set_option maxRecDepth 100000 in
theorem jv_83 : jV cX6_debt jP_83 129 = true := by decide +kernel
theorem jq_83 : ∀ pc r, jP 83 pc = some r → decode (jB 83) pc = .ok r := fun pc r h => jV_ok jv_83 (jV_out (fun _ => rfl)) pc r h
set_option maxRecDepth 100000 in
theorem jv_84 : jV cX6_pay jP_84 118 = true := by decide +kernel
theorem jq_84 : ∀ pc r, jP 84 pc = some r → decode (jB 84) pc = .ok r := fun pc r h => jV_ok jv_84 (jV_out (fun _ => rfl)) pc r h
set_option maxRecDepth 100000 in
theorem jv_85 : jV cX6_undo jP_85 56 = true := by decide +kernel
theorem jq_85 : ∀ pc r, jP 85 pc = some r → decode (jB 85) pc = .ok r := fun pc r h => jV_ok jv_85 (jV_out (fun _ => rfl)) pc r h
set_option maxRecDepth 100000 in
theorem jv_86 : jV cX6_keep jP_86 45 = true := by decide +kernel
theorem jq_86 : ∀ pc r, jP 86 pc = some r → decode (jB 86) pc = .ok r := fun pc r h => jV_ok jv_86 (jV_out (fun _ => rfl)) pc r h
set_option maxRecDepth 100000 in
theorem jv_87 : jV cX6_back jP_87 51 = true := by decide +kernel
theorem jq_87 : ∀ pc r, jP 87 pc = some r → decode (jB 87) pc = .ok r := fun pc r h => jV_ok jv_87 (jV_out (fun _ => rfl)) pc r h
set_option maxRecDepth 100000 in
theorem jv_88 : jV cX6_first jP_88 67 = true := by decide +kernel
theorem jq_88 : ∀ pc r, jP 88 pc = some r → decode (jB 88) pc = .ok r := fun pc r h => jV_ok jv_88 (jV_out (fun _ => rfl)) pc r h
set_option maxRecDepth 100000 in
theorem jv_89 : jV cX6_last jP_89 56 = true := by decide +kernel
theorem jq_89 : ∀ pc r, jP 89 pc = some r → decode (jB 89) pc = .ok r := fun pc r h => jV_ok jv_89 (jV_out (fun _ => rfl)) pc r h
set_option maxRecDepth 100000 in
theorem jv_90 : jV cX6_bestBorn jP_90 116 = true := by decide +kernel
theorem jq_90 : ∀ pc r, jP 90 pc = some r → decode (jB 90) pc = .ok r := fun pc r h => jV_ok jv_90 (jV_out (fun _ => rfl)) pc r h
set_option maxRecDepth 100000 in
theorem jv_91 : jV cX6_weddings jP_91 88 = true := by decide +kernel
theorem jq_91 : ∀ pc r, jP 91 pc = some r → decode (jB 91) pc = .ok r := fun pc r h => jV_ok jv_91 (jV_out (fun _ => rfl)) pc r h
set_option maxRecDepth 100000 in
theorem jv_92 : jV cX6_makes jP_92 119 = true := by decide +kernel
theorem jq_92 : ∀ pc r, jP 92 pc = some r → decode (jB 92) pc = .ok r := fun pc r h => jV_ok jv_92 (jV_out (fun _ => rfl)) pc r h
set_option maxRecDepth 100000 in
theorem jv_93 : jV cX6_feasted jP_93 64 = true := by decide +kernel
theorem jq_93 : ∀ pc r, jP 93 pc = some r → decode (jB 93) pc = .ok r := fun pc r h => jV_ok jv_93 (jV_out (fun _ => rfl)) pc r h
set_option maxRecDepth 100000 in
theorem jv_94 : jV cX6_forget jP_94 8 = true := by decide +kernel
theorem jq_94 : ∀ pc r, jP 94 pc = some r → decode (jB 94) pc = .ok r := fun pc r h => jV_ok jv_94 (jV_out (fun _ => rfl)) pc r h
set_option maxRecDepth 100000 in
theorem jv_95 : jV cX6_truths jP_95 38 = true := by decide +kernel
theorem jq_95 : ∀ pc r, jP 95 pc = some r → decode (jB 95) pc = .ok r := fun pc r h => jV_ok jv_95 (jV_out (fun _ => rfl)) pc r h
set_option maxRecDepth 100000 in
theorem jv_96 : jV cX6_truth jP_96 44 = true := by decide +kernel
theorem jq_96 : ∀ pc r, jP 96 pc = some r → decode (jB 96) pc = .ok r := fun pc r h => jV_ok jv_96 (jV_out (fun _ => rfl)) pc r h
set_option maxRecDepth 100000 in
theorem jv_97 : jV cX6_left jP_97 174 = true := by decide +kernel
theorem jq_97 : ∀ pc r, jP 97 pc = some r → decode (jB 97) pc = .ok r := fun pc r h => jV_ok jv_97 (jV_out (fun _ => rfl)) pc r h
set_option maxRecDepth 100000 in
theorem jv_98 : jV cX6_count jP_98 171 = true := by decide +kernel
theorem jq_98 : ∀ pc r, jP 98 pc = some r → decode (jB 98) pc = .ok r := fun pc r h => jV_ok jv_98 (jV_out (fun _ => rfl)) pc r h
set_option maxRecDepth 100000 in
theorem jv_99 : jV cX6_isYear jP_99 16 = true := by decide +kernel
theorem jq_99 : ∀ pc r, jP 99 pc = some r → decode (jB 99) pc = .ok r := fun pc r h => jV_ok jv_99 (jV_out (fun _ => rfl)) pc r h
set_option maxRecDepth 100000 in
theorem jv_100 : jV cX6_bit jP_100 18 = true := by decide +kernel
theorem jq_100 : ∀ pc r, jP 100 pc = some r → decode (jB 100) pc = .ok r := fun pc r h => jV_ok jv_100 (jV_out (fun _ => rfl)) pc r h
set_option maxRecDepth 100000 in
theorem jv_101 : jV cX6_has jP_101 24 = true := by decide +kernel
theorem jq_101 : ∀ pc r, jP 101 pc = some r → decode (jB 101) pc = .ok r := fun pc r h => jV_ok jv_101 (jV_out (fun _ => rfl)) pc r h
set_option maxRecDepth 100000 in
theorem jv_102 : jV cX6_lowest jP_102 7 = true := by decide +kernel
theorem jq_102 : ∀ pc r, jP 102 pc = some r → decode (jB 102) pc = .ok r := fun pc r h => jV_ok jv_102 (jV_out (fun _ => rfl)) pc r h
set_option maxRecDepth 100000 in
theorem jv_103 : jV cX6_isSuch jP_103 41 = true := by decide +kernel
theorem jq_103 : ∀ pc r, jP 103 pc = some r → decode (jB 103) pc = .ok r := fun pc r h => jV_ok jv_103 (jV_out (fun _ => rfl)) pc r h
set_option maxRecDepth 100000 in
theorem jv_104 : jV cX6_sightOf jP_104 36 = true := by decide +kernel
theorem jq_104 : ∀ pc r, jP 104 pc = some r → decode (jB 104) pc = .ok r := fun pc r h => jV_ok jv_104 (jV_out (fun _ => rfl)) pc r h
set_option maxRecDepth 100000 in
theorem jv_105 : jV cX6_remember jP_105 44 = true := by decide +kernel
theorem jq_105 : ∀ pc r, jP 105 pc = some r → decode (jB 105) pc = .ok r := fun pc r h => jV_ok jv_105 (jV_out (fun _ => rfl)) pc r h
set_option maxRecDepth 100000 in
theorem jv_106 : jV cX6_bothLive jP_106 34 = true := by decide +kernel
theorem jq_106 : ∀ pc r, jP 106 pc = some r → decode (jB 106) pc = .ok r := fun pc r h => jV_ok jv_106 (jV_out (fun _ => rfl)) pc r h
set_option maxRecDepth 100000 in
theorem jv_107 : jV cX6_areKinWithin jP_107 31 = true := by decide +kernel
theorem jq_107 : ∀ pc r, jP 107 pc = some r → decode (jB 107) pc = .ok r := fun pc r h => jV_ok jv_107 (jV_out (fun _ => rfl)) pc r h
set_option maxRecDepth 100000 in
theorem jv_108 : jV cX6_isFree jP_108 56 = true := by decide +kernel
theorem jq_108 : ∀ pc r, jP 108 pc = some r → decode (jB 108) pc = .ok r := fun pc r h => jV_ok jv_108 (jV_out (fun _ => rfl)) pc r h
set_option maxRecDepth 100000 in
theorem jv_109 : jV cX6_mayMarry jP_109 45 = true := by decide +kernel
theorem jq_109 : ∀ pc r, jP 109 pc = some r → decode (jB 109) pc = .ok r := fun pc r h => jV_ok jv_109 (jV_out (fun _ => rfl)) pc r h
set_option maxRecDepth 100000 in
theorem jv_110 : jV cX6_marriages jP_110 43 = true := by decide +kernel
theorem jq_110 : ∀ pc r, jP 110 pc = some r → decode (jB 110) pc = .ok r := fun pc r h => jV_ok jv_110 (jV_out (fun _ => rfl)) pc r h
set_option maxRecDepth 100000 in
theorem jv_111 : jV cX6_nearestLiving jP_111 107 = true := by decide +kernel
theorem jq_111 : ∀ pc r, jP 111 pc = some r → decode (jB 111) pc = .ok r := fun pc r h => jV_ok jv_111 (jV_out (fun _ => rfl)) pc r h
set_option maxRecDepth 100000 in
theorem jv_112 : jV cX6_shareOut jP_112 55 = true := by decide +kernel
theorem jq_112 : ∀ pc r, jP 112 pc = some r → decode (jB 112) pc = .ok r := fun pc r h => jV_ok jv_112 (jV_out (fun _ => rfl)) pc r h
set_option maxRecDepth 100000 in
theorem jv_113 : jV cX6_dueYear jP_113 58 = true := by decide +kernel
theorem jq_113 : ∀ pc r, jP 113 pc = some r → decode (jB 113) pc = .ok r := fun pc r h => jV_ok jv_113 (jV_out (fun _ => rfl)) pc r h
set_option maxRecDepth 100000 in
theorem jv_114 : jV cX6_canBePaid jP_114 98 = true := by decide +kernel
theorem jq_114 : ∀ pc r, jP 114 pc = some r → decode (jB 114) pc = .ok r := fun pc r h => jV_ok jv_114 (jV_out (fun _ => rfl)) pc r h
set_option maxRecDepth 100000 in
theorem jv_115 : jV cX6_livingKinOfChild jP_115 56 = true := by decide +kernel
theorem jq_115 : ∀ pc r, jP 115 pc = some r → decode (jB 115) pc = .ok r := fun pc r h => jV_ok jv_115 (jV_out (fun _ => rfl)) pc r h
set_option maxRecDepth 100000 in
theorem jv_116 : jV cX6_findMatches jP_116 79 = true := by decide +kernel
theorem jq_116 : ∀ pc r, jP 116 pc = some r → decode (jB 116) pc = .ok r := fun pc r h => jV_ok jv_116 (jV_out (fun _ => rfl)) pc r h
set_option maxRecDepth 100000 in
theorem jv_117 : jV cX6_firstPartner jP_117 87 = true := by decide +kernel
theorem jq_117 : ∀ pc r, jP 117 pc = some r → decode (jB 117) pc = .ok r := fun pc r h => jV_ok jv_117 (jV_out (fun _ => rfl)) pc r h
set_option maxRecDepth 100000 in
theorem jv_118 : jV cX6_mostPairs jP_118 130 = true := by decide +kernel
theorem jq_118 : ∀ pc r, jP 118 pc = some r → decode (jB 118) pc = .ok r := fun pc r h => jV_ok jv_118 (jV_out (fun _ => rfl)) pc r h
set_option maxRecDepth 100000 in
theorem jv_119 : jV cX6_leastOf jP_119 26 = true := by decide +kernel
theorem jq_119 : ∀ pc r, jP 119 pc = some r → decode (jB 119) pc = .ok r := fun pc r h => jV_ok jv_119 (jV_out (fun _ => rfl)) pc r h
set_option maxRecDepth 100000 in
theorem jv_120 : jV cX6_weighFeasts jP_120 23 = true := by decide +kernel
theorem jq_120 : ∀ pc r, jP 120 pc = some r → decode (jB 120) pc = .ok r := fun pc r h => jV_ok jv_120 (jV_out (fun _ => rfl)) pc r h
set_option maxRecDepth 100000 in
theorem jv_121 : jV cX6_waysToChoose jP_121 33 = true := by decide +kernel
theorem jq_121 : ∀ pc r, jP 121 pc = some r → decode (jB 121) pc = .ok r := fun pc r h => jV_ok jv_121 (jV_out (fun _ => rfl)) pc r h
set_option maxRecDepth 100000 in
theorem jv_122 : jV cX6_power jP_122 24 = true := by decide +kernel
theorem jq_122 : ∀ pc r, jP 122 pc = some r → decode (jB 122) pc = .ok r := fun pc r h => jV_ok jv_122 (jV_out (fun _ => rfl)) pc r h
set_option maxRecDepth 100000 in
theorem jv_123 : jV cX6_commonDivisor jP_123 48 = true := by decide +kernel
theorem jq_123 : ∀ pc r, jP 123 pc = some r → decode (jB 123) pc = .ok r := fun pc r h => jV_ok jv_123 (jV_out (fun _ => rfl)) pc r h
set_option maxRecDepth 100000 in
theorem jv_124 : jV cX7_init jP_124 157 = true := by decide +kernel
theorem jq_124 : ∀ pc r, jP 124 pc = some r → decode (jB 124) pc = .ok r := fun pc r h => jV_ok jv_124 (jV_out (fun _ => rfl)) pc r h
set_option maxRecDepth 100000 in
theorem jv_125 : jV cX7_in jP_125 19 = true := by decide +kernel
theorem jq_125 : ∀ pc r, jP 125 pc = some r → decode (jB 125) pc = .ok r := fun pc r h => jV_ok jv_125 (jV_out (fun _ => rfl)) pc r h
set_option maxRecDepth 100000 in
theorem jv_126 : jV cX7_has jP_126 15 = true := by decide +kernel
theorem jq_126 : ∀ pc r, jP 126 pc = some r → decode (jB 126) pc = .ok r := fun pc r h => jV_ok jv_126 (jV_out (fun _ => rfl)) pc r h
set_option maxRecDepth 100000 in
theorem jv_127 : jV cX7_bits jP_127 26 = true := by decide +kernel
theorem jq_127 : ∀ pc r, jP 127 pc = some r → decode (jB 127) pc = .ok r := fun pc r h => jV_ok jv_127 (jV_out (fun _ => rfl)) pc r h
set_option maxRecDepth 100000 in
theorem jv_128 : jV cX7_write jP_128 53 = true := by decide +kernel
theorem jq_128 : ∀ pc r, jP 128 pc = some r → decode (jB 128) pc = .ok r := fun pc r h => jV_ok jv_128 (jV_out (fun _ => rfl)) pc r h
set_option maxRecDepth 100000 in
theorem jv_129 : jV cX7_erase jP_129 12 = true := by decide +kernel
theorem jq_129 : ∀ pc r, jP 129 pc = some r → decode (jB 129) pc = .ok r := fun pc r h => jV_ok jv_129 (jV_out (fun _ => rfl)) pc r h
set_option maxRecDepth 100000 in
theorem jv_130 : jV cX7_sort jP_130 34 = true := by decide +kernel
theorem jq_130 : ∀ pc r, jP 130 pc = some r → decode (jB 130) pc = .ok r := fun pc r h => jV_ok jv_130 (jV_out (fun _ => rfl)) pc r h
set_option maxRecDepth 100000 in
theorem jv_131 : jV cX7_token jP_131 146 = true := by decide +kernel
theorem jq_131 : ∀ pc r, jP 131 pc = some r → decode (jB 131) pc = .ok r := fun pc r h => jV_ok jv_131 (jV_out (fun _ => rfl)) pc r h
set_option maxRecDepth 100000 in
theorem jv_132 : jV cX7_isWord jP_132 88 = true := by decide +kernel
theorem jq_132 : ∀ pc r, jP 132 pc = some r → decode (jB 132) pc = .ok r := fun pc r h => jV_ok jv_132 (jV_out (fun _ => rfl)) pc r h
set_option maxRecDepth 100000 in
theorem jv_133 : jV cX7_cometWord jP_133 63 = true := by decide +kernel
theorem jq_133 : ∀ pc r, jP 133 pc = some r → decode (jB 133) pc = .ok r := fun pc r h => jV_ok jv_133 (jV_out (fun _ => rfl)) pc r h
set_option maxRecDepth 100000 in
theorem jv_134 : jV cX7_folkWord jP_134 49 = true := by decide +kernel
theorem jq_134 : ∀ pc r, jP 134 pc = some r → decode (jB 134) pc = .ok r := fun pc r h => jV_ok jv_134 (jV_out (fun _ => rfl)) pc r h
set_option maxRecDepth 100000 in
theorem jv_135 : jV cX7_wordOf jP_135 129 = true := by decide +kernel
theorem jq_135 : ∀ pc r, jP 135 pc = some r → decode (jB 135) pc = .ok r := fun pc r h => jV_ok jv_135 (jV_out (fun _ => rfl)) pc r h
set_option maxRecDepth 100000 in
theorem jv_136 : jV cX7_reads jP_136 121 = true := by decide +kernel
theorem jq_136 : ∀ pc r, jP 136 pc = some r → decode (jB 136) pc = .ok r := fun pc r h => jV_ok jv_136 (jV_out (fun _ => rfl)) pc r h
set_option maxRecDepth 100000 in
theorem jv_137 : jV cX7_isCometWord jP_137 10 = true := by decide +kernel
theorem jq_137 : ∀ pc r, jP 137 pc = some r → decode (jB 137) pc = .ok r := fun pc r h => jV_ok jv_137 (jV_out (fun _ => rfl)) pc r h
set_option maxRecDepth 100000 in
theorem jv_138 : jV cX7_isFolkWord jP_138 12 = true := by decide +kernel
theorem jq_138 : ∀ pc r, jP 138 pc = some r → decode (jB 138) pc = .ok r := fun pc r h => jV_ok jv_138 (jV_out (fun _ => rfl)) pc r h
set_option maxRecDepth 100000 in
theorem jv_139 : jV cX7_readsRest jP_139 144 = true := by decide +kernel
theorem jq_139 : ∀ pc r, jP 139 pc = some r → decode (jB 139) pc = .ok r := fun pc r h => jV_ok jv_139 (jV_out (fun _ => rfl)) pc r h
set_option maxRecDepth 100000 in
theorem jv_140 : jV cX7_readsClause jP_140 152 = true := by decide +kernel
theorem jq_140 : ∀ pc r, jP 140 pc = some r → decode (jB 140) pc = .ok r := fun pc r h => jV_ok jv_140 (jV_out (fun _ => rfl)) pc r h
set_option maxRecDepth 100000 in
theorem jv_141 : jV cX7_fault jP_141 122 = true := by decide +kernel
theorem jq_141 : ∀ pc r, jP 141 pc = some r → decode (jB 141) pc = .ok r := fun pc r h => jV_ok jv_141 (jV_out (fun _ => rfl)) pc r h
set_option maxRecDepth 100000 in
theorem jv_142 : jV cX7_addOne jP_142 61 = true := by decide +kernel
theorem jq_142 : ∀ pc r, jP 142 pc = some r → decode (jB 142) pc = .ok r := fun pc r h => jV_ok jv_142 (jV_out (fun _ => rfl)) pc r h
set_option maxRecDepth 100000 in
theorem jv_143 : jV cX7_addComet jP_143 31 = true := by decide +kernel
theorem jq_143 : ∀ pc r, jP 143 pc = some r → decode (jB 143) pc = .ok r := fun pc r h => jV_ok jv_143 (jV_out (fun _ => rfl)) pc r h
set_option maxRecDepth 100000 in
theorem jv_144 : jV cX7_tell jP_144 170 = true := by decide +kernel
theorem jq_144 : ∀ pc r, jP 144 pc = some r → decode (jB 144) pc = .ok r := fun pc r h => jV_ok jv_144 (jV_out (fun _ => rfl)) pc r h
set_option maxRecDepth 100000 in
theorem jv_145 : jV cX7_begin jP_145 109 = true := by decide +kernel
theorem jq_145 : ∀ pc r, jP 145 pc = some r → decode (jB 145) pc = .ok r := fun pc r h => jV_ok jv_145 (jV_out (fun _ => rfl)) pc r h
set_option maxRecDepth 100000 in
theorem jv_146 : jV cX7_land jP_146 48 = true := by decide +kernel
theorem jq_146 : ∀ pc r, jP 146 pc = some r → decode (jB 146) pc = .ok r := fun pc r h => jV_ok jv_146 (jV_out (fun _ => rfl)) pc r h
set_option maxRecDepth 100000 in
theorem jv_147 : jV cX7_isAhead jP_147 41 = true := by decide +kernel
theorem jq_147 : ∀ pc r, jP 147 pc = some r → decode (jB 147) pc = .ok r := fun pc r h => jV_ok jv_147 (jV_out (fun _ => rfl)) pc r h
set_option maxRecDepth 100000 in
theorem jv_148 : jV cX7_isThere jP_148 14 = true := by decide +kernel
theorem jq_148 : ∀ pc r, jP 148 pc = some r → decode (jB 148) pc = .ok r := fun pc r h => jV_ok jv_148 (jV_out (fun _ => rfl)) pc r h
set_option maxRecDepth 100000 in
theorem jv_149 : jV cX7_cancelledBy jP_149 79 = true := by decide +kernel
theorem jq_149 : ∀ pc r, jP 149 pc = some r → decode (jB 149) pc = .ok r := fun pc r h => jV_ok jv_149 (jV_out (fun _ => rfl)) pc r h
set_option maxRecDepth 100000 in
theorem jv_150 : jV cX7_isCancelled jP_150 57 = true := by decide +kernel
theorem jq_150 : ∀ pc r, jP 150 pc = some r → decode (jB 150) pc = .ok r := fun pc r h => jV_ok jv_150 (jV_out (fun _ => rfl)) pc r h
set_option maxRecDepth 100000 in
theorem jv_151 : jV cX7_wouldSee jP_151 28 = true := by decide +kernel
theorem jq_151 : ∀ pc r, jP 151 pc = some r → decode (jB 151) pc = .ok r := fun pc r h => jV_ok jv_151 (jV_out (fun _ => rfl)) pc r h
set_option maxRecDepth 100000 in
theorem jv_152 : jV cX7_sees jP_152 49 = true := by decide +kernel
theorem jq_152 : ∀ pc r, jP 152 pc = some r → decode (jB 152) pc = .ok r := fun pc r h => jV_ok jv_152 (jV_out (fun _ => rfl)) pc r h
set_option maxRecDepth 100000 in
theorem jv_153 : jV cX7_laySeen jP_153 46 = true := by decide +kernel
theorem jq_153 : ∀ pc r, jP 153 pc = some r → decode (jB 153) pc = .ok r := fun pc r h => jV_ok jv_153 (jV_out (fun _ => rfl)) pc r h
set_option maxRecDepth 100000 in
theorem jv_154 : jV cX7_counts jP_154 83 = true := by decide +kernel
theorem jq_154 : ∀ pc r, jP 154 pc = some r → decode (jB 154) pc = .ok r := fun pc r h => jV_ok jv_154 (jV_out (fun _ => rfl)) pc r h
set_option maxRecDepth 100000 in
theorem jv_155 : jV cX7_stepFrom jP_155 119 = true := by decide +kernel
theorem jq_155 : ∀ pc r, jP 155 pc = some r → decode (jB 155) pc = .ok r := fun pc r h => jV_ok jv_155 (jV_out (fun _ => rfl)) pc r h
set_option maxRecDepth 100000 in
theorem jv_156 : jV cX7_degreeOf jP_156 68 = true := by decide +kernel
theorem jq_156 : ∀ pc r, jP 156 pc = some r → decode (jB 156) pc = .ok r := fun pc r h => jV_ok jv_156 (jV_out (fun _ => rfl)) pc r h
set_option maxRecDepth 100000 in
theorem jv_157 : jV cX7_kinOf jP_157 51 = true := by decide +kernel
theorem jq_157 : ∀ pc r, jP 157 pc = some r → decode (jB 157) pc = .ok r := fun pc r h => jV_ok jv_157 (jV_out (fun _ => rfl)) pc r h
set_option maxRecDepth 100000 in
theorem jv_158 : jV cX7_areNear jP_158 30 = true := by decide +kernel
theorem jq_158 : ∀ pc r, jP 158 pc = some r → decode (jB 158) pc = .ok r := fun pc r h => jV_ok jv_158 (jV_out (fun _ => rfl)) pc r h
set_option maxRecDepth 100000 in
theorem jv_159 : jV cX7_isOne jP_159 14 = true := by decide +kernel
theorem jq_159 : ∀ pc r, jP 159 pc = some r → decode (jB 159) pc = .ok r := fun pc r h => jV_ok jv_159 (jV_out (fun _ => rfl)) pc r h
set_option maxRecDepth 100000 in
theorem jv_160 : jV cX7_areTwo jP_160 27 = true := by decide +kernel
theorem jq_160 : ∀ pc r, jP 160 pc = some r → decode (jB 160) pc = .ok r := fun pc r h => jV_ok jv_160 (jV_out (fun _ => rfl)) pc r h
set_option maxRecDepth 100000 in
theorem jv_161 : jV cX7_isComet jP_161 14 = true := by decide +kernel
theorem jq_161 : ∀ pc r, jP 161 pc = some r → decode (jB 161) pc = .ok r := fun pc r h => jV_ok jv_161 (jV_out (fun _ => rfl)) pc r h
set_option maxRecDepth 100000 in
theorem jv_162 : jV cX7_isYear jP_162 10 = true := by decide +kernel
theorem jq_162 : ∀ pc r, jP 162 pc = some r → decode (jB 162) pc = .ok r := fun pc r h => jV_ok jv_162 (jV_out (fun _ => rfl)) pc r h
set_option maxRecDepth 100000 in
theorem jv_163 : jV cX7_one jP_163 118 = true := by decide +kernel
theorem jq_163 : ∀ pc r, jP 163 pc = some r → decode (jB 163) pc = .ok r := fun pc r h => jV_ok jv_163 (jV_out (fun _ => rfl)) pc r h
set_option maxRecDepth 100000 in
theorem jv_164 : jV cX7_comet jP_164 112 = true := by decide +kernel
theorem jq_164 : ∀ pc r, jP 164 pc = some r → decode (jB 164) pc = .ok r := fun pc r h => jV_ok jv_164 (jV_out (fun _ => rfl)) pc r h
set_option maxRecDepth 100000 in
theorem jv_165 : jV cX7_as jP_165 131 = true := by decide +kernel
theorem jq_165 : ∀ pc r, jP 165 pc = some r → decode (jB 165) pc = .ok r := fun pc r h => jV_ok jv_165 (jV_out (fun _ => rfl)) pc r h
set_option maxRecDepth 100000 in
theorem jv_166 : jV cX7_cometAs jP_166 104 = true := by decide +kernel
theorem jq_166 : ∀ pc r, jP 166 pc = some r → decode (jB 166) pc = .ok r := fun pc r h => jV_ok jv_166 (jV_out (fun _ => rfl)) pc r h
set_option maxRecDepth 100000 in
theorem jv_167 : jV cX7_degree jP_167 41 = true := by decide +kernel
theorem jq_167 : ∀ pc r, jP 167 pc = some r → decode (jB 167) pc = .ok r := fun pc r h => jV_ok jv_167 (jV_out (fun _ => rfl)) pc r h
set_option maxRecDepth 100000 in
theorem jv_168 : jV cX7_kin jP_168 32 = true := by decide +kernel
theorem jq_168 : ∀ pc r, jP 168 pc = some r → decode (jB 168) pc = .ok r := fun pc r h => jV_ok jv_168 (jV_out (fun _ => rfl)) pc r h
set_option maxRecDepth 100000 in
theorem jv_169 : jV cX7_copy jP_169 31 = true := by decide +kernel
theorem jq_169 : ∀ pc r, jP 169 pc = some r → decode (jB 169) pc = .ok r := fun pc r h => jV_ok jv_169 (jV_out (fun _ => rfl)) pc r h
set_option maxRecDepth 100000 in
theorem jv_170 : jV cX7_keepPast jP_170 97 = true := by decide +kernel
theorem jq_170 : ∀ pc r, jP 170 pc = some r → decode (jB 170) pc = .ok r := fun pc r h => jV_ok jv_170 (jV_out (fun _ => rfl)) pc r h
set_option maxRecDepth 100000 in
theorem jv_171 : jV cX7_go jP_171 52 = true := by decide +kernel
theorem jq_171 : ∀ pc r, jP 171 pc = some r → decode (jB 171) pc = .ok r := fun pc r h => jV_ok jv_171 (jV_out (fun _ => rfl)) pc r h
set_option maxRecDepth 100000 in
theorem jv_172 : jV cX7_isFree jP_172 48 = true := by decide +kernel
theorem jq_172 : ∀ pc r, jP 172 pc = some r → decode (jB 172) pc = .ok r := fun pc r h => jV_ok jv_172 (jV_out (fun _ => rfl)) pc r h
set_option maxRecDepth 100000 in
theorem jv_173 : jV cX7_mayMarry jP_173 37 = true := by decide +kernel
theorem jq_173 : ∀ pc r, jP 173 pc = some r → decode (jB 173) pc = .ok r := fun pc r h => jV_ok jv_173 (jV_out (fun _ => rfl)) pc r h
set_option maxRecDepth 100000 in
theorem jv_174 : jV cX7_may jP_174 29 = true := by decide +kernel
theorem jq_174 : ∀ pc r, jP 174 pc = some r → decode (jB 174) pc = .ok r := fun pc r h => jV_ok jv_174 (jV_out (fun _ => rfl)) pc r h
set_option maxRecDepth 100000 in
theorem jv_175 : jV cX7_marriages jP_175 41 = true := by decide +kernel
theorem jq_175 : ∀ pc r, jP 175 pc = some r → decode (jB 175) pc = .ok r := fun pc r h => jV_ok jv_175 (jV_out (fun _ => rfl)) pc r h
set_option maxRecDepth 100000 in
theorem jv_176 : jV cX7_wed jP_176 53 = true := by decide +kernel
theorem jq_176 : ∀ pc r, jP 176 pc = some r → decode (jB 176) pc = .ok r := fun pc r h => jV_ok jv_176 (jV_out (fun _ => rfl)) pc r h
set_option maxRecDepth 100000 in
theorem jv_177 : jV cX7_heirsOf jP_177 126 = true := by decide +kernel
theorem jq_177 : ∀ pc r, jP 177 pc = some r → decode (jB 177) pc = .ok r := fun pc r h => jV_ok jv_177 (jV_out (fun _ => rfl)) pc r h
set_option maxRecDepth 100000 in
theorem jv_178 : jV cX7_die jP_178 217 = true := by decide +kernel
theorem jq_178 : ∀ pc r, jP 178 pc = some r → decode (jB 178) pc = .ok r := fun pc r h => jV_ok jv_178 (jV_out (fun _ => rfl)) pc r h
set_option maxRecDepth 100000 in
theorem jv_179 : jV cX7_liveBoth jP_179 34 = true := by decide +kernel
theorem jq_179 : ∀ pc r, jP 179 pc = some r → decode (jB 179) pc = .ok r := fun pc r h => jV_ok jv_179 (jV_out (fun _ => rfl)) pc r h
set_option maxRecDepth 100000 in
theorem jv_180 : jV cX7_owe jP_180 146 = true := by decide +kernel
theorem jq_180 : ∀ pc r, jP 180 pc = some r → decode (jB 180) pc = .ok r := fun pc r h => jV_ok jv_180 (jV_out (fun _ => rfl)) pc r h
set_option maxRecDepth 100000 in
theorem jv_181 : jV cX7_dueOf jP_181 149 = true := by decide +kernel
theorem jq_181 : ∀ pc r, jP 181 pc = some r → decode (jB 181) pc = .ok r := fun pc r h => jV_ok jv_181 (jV_out (fun _ => rfl)) pc r h
set_option maxRecDepth 100000 in
theorem jv_182 : jV cX7_isDebt jP_182 17 = true := by decide +kernel
theorem jq_182 : ∀ pc r, jP 182 pc = some r → decode (jB 182) pc = .ok r := fun pc r h => jV_ok jv_182 (jV_out (fun _ => rfl)) pc r h
set_option maxRecDepth 100000 in
theorem jv_183 : jV cX7_debt jP_183 73 = true := by decide +kernel
theorem jq_183 : ∀ pc r, jP 183 pc = some r → decode (jB 183) pc = .ok r := fun pc r h => jV_ok jv_183 (jV_out (fun _ => rfl)) pc r h
set_option maxRecDepth 100000 in
theorem jv_184 : jV cX7_pay jP_184 158 = true := by decide +kernel
theorem jq_184 : ∀ pc r, jP 184 pc = some r → decode (jB 184) pc = .ok r := fun pc r h => jV_ok jv_184 (jV_out (fun _ => rfl)) pc r h
set_option maxRecDepth 100000 in
theorem jv_185 : jV cX7_undo jP_185 41 = true := by decide +kernel
theorem jq_185 : ∀ pc r, jP 185 pc = some r → decode (jB 185) pc = .ok r := fun pc r h => jV_ok jv_185 (jV_out (fun _ => rfl)) pc r h
set_option maxRecDepth 100000 in
theorem jv_186 : jV cX7_keep jP_186 38 = true := by decide +kernel
theorem jq_186 : ∀ pc r, jP 186 pc = some r → decode (jB 186) pc = .ok r := fun pc r h => jV_ok jv_186 (jV_out (fun _ => rfl)) pc r h
set_option maxRecDepth 100000 in
theorem jv_187 : jV cX7_back jP_187 48 = true := by decide +kernel
theorem jq_187 : ∀ pc r, jP 187 pc = some r → decode (jB 187) pc = .ok r := fun pc r h => jV_ok jv_187 (jV_out (fun _ => rfl)) pc r h
set_option maxRecDepth 100000 in
theorem jv_188 : jV cX7_first jP_188 75 = true := by decide +kernel
theorem jq_188 : ∀ pc r, jP 188 pc = some r → decode (jB 188) pc = .ok r := fun pc r h => jV_ok jv_188 (jV_out (fun _ => rfl)) pc r h
set_option maxRecDepth 100000 in
theorem jv_189 : jV cX7_last jP_189 55 = true := by decide +kernel
theorem jq_189 : ∀ pc r, jP 189 pc = some r → decode (jB 189) pc = .ok r := fun pc r h => jV_ok jv_189 (jV_out (fun _ => rfl)) pc r h
set_option maxRecDepth 100000 in
theorem jv_190 : jV cX7_bestBorn jP_190 207 = true := by decide +kernel
theorem jq_190 : ∀ pc r, jP 190 pc = some r → decode (jB 190) pc = .ok r := fun pc r h => jV_ok jv_190 (jV_out (fun _ => rfl)) pc r h
set_option maxRecDepth 100000 in
theorem jv_191 : jV cX7_layMosts jP_191 222 = true := by decide +kernel
theorem jq_191 : ∀ pc r, jP 191 pc = some r → decode (jB 191) pc = .ok r := fun pc r h => jV_ok jv_191 (jV_out (fun _ => rfl)) pc r h
set_option maxRecDepth 100000 in
theorem jv_192 : jV cX7_weddings jP_192 156 = true := by decide +kernel
theorem jq_192 : ∀ pc r, jP 192 pc = some r → decode (jB 192) pc = .ok r := fun pc r h => jV_ok jv_192 (jV_out (fun _ => rfl)) pc r h
set_option maxRecDepth 100000 in
theorem jv_193 : jV cX7_pairsNow jP_193 62 = true := by decide +kernel
theorem jq_193 : ∀ pc r, jP 193 pc = some r → decode (jB 193) pc = .ok r := fun pc r h => jV_ok jv_193 (jV_out (fun _ => rfl)) pc r h
set_option maxRecDepth 100000 in
theorem jv_194 : jV cX7_makes jP_194 110 = true := by decide +kernel
theorem jq_194 : ∀ pc r, jP 194 pc = some r → decode (jB 194) pc = .ok r := fun pc r h => jV_ok jv_194 (jV_out (fun _ => rfl)) pc r h
set_option maxRecDepth 100000 in
theorem jv_195 : jV cX7_feasted jP_195 115 = true := by decide +kernel
theorem jq_195 : ∀ pc r, jP 195 pc = some r → decode (jB 195) pc = .ok r := fun pc r h => jV_ok jv_195 (jV_out (fun _ => rfl)) pc r h
set_option maxRecDepth 100000 in
theorem jv_196 : jV cX7_forget jP_196 12 = true := by decide +kernel
theorem jq_196 : ∀ pc r, jP 196 pc = some r → decode (jB 196) pc = .ok r := fun pc r h => jV_ok jv_196 (jV_out (fun _ => rfl)) pc r h
set_option maxRecDepth 100000 in
theorem jv_197 : jV cX7_isAllSo jP_197 95 = true := by decide +kernel
theorem jq_197 : ∀ pc r, jP 197 pc = some r → decode (jB 197) pc = .ok r := fun pc r h => jV_ok jv_197 (jV_out (fun _ => rfl)) pc r h
set_option maxRecDepth 100000 in
theorem jv_198 : jV cX7_layWay jP_198 43 = true := by decide +kernel
theorem jq_198 : ∀ pc r, jP 198 pc = some r → decode (jB 198) pc = .ok r := fun pc r h => jV_ok jv_198 (jV_out (fun _ => rfl)) pc r h
set_option maxRecDepth 100000 in
theorem jv_199 : jV cX7_layTruths jP_199 220 = true := by decide +kernel
theorem jq_199 : ∀ pc r, jP 199 pc = some r → decode (jB 199) pc = .ok r := fun pc r h => jV_ok jv_199 (jV_out (fun _ => rfl)) pc r h
set_option maxRecDepth 100000 in
theorem jv_200 : jV cX7_truths jP_200 33 = true := by decide +kernel
theorem jq_200 : ∀ pc r, jP 200 pc = some r → decode (jB 200) pc = .ok r := fun pc r h => jV_ok jv_200 (jV_out (fun _ => rfl)) pc r h
set_option maxRecDepth 100000 in
theorem jv_201 : jV cX7_truth jP_201 33 = true := by decide +kernel
theorem jq_201 : ∀ pc r, jP 201 pc = some r → decode (jB 201) pc = .ok r := fun pc r h => jV_ok jv_201 (jV_out (fun _ => rfl)) pc r h
set_option maxRecDepth 100000 in
theorem jv_202 : jV cX7_divisor jP_202 34 = true := by decide +kernel
theorem jq_202 : ∀ pc r, jP 202 pc = some r → decode (jB 202) pc = .ok r := fun pc r h => jV_ok jv_202 (jV_out (fun _ => rfl)) pc r h
set_option maxRecDepth 100000 in
theorem jv_203 : jV cX7_power jP_203 23 = true := by decide +kernel
theorem jq_203 : ∀ pc r, jP 203 pc = some r → decode (jB 203) pc = .ok r := fun pc r h => jV_ok jv_203 (jV_out (fun _ => rfl)) pc r h
set_option maxRecDepth 100000 in
theorem jv_204 : jV cX7_left jP_204 191 = true := by decide +kernel
theorem jq_204 : ∀ pc r, jP 204 pc = some r → decode (jB 204) pc = .ok r := fun pc r h => jV_ok jv_204 (jV_out (fun _ => rfl)) pc r h
set_option maxRecDepth 100000 in
theorem jv_205 : jV cX7_count jP_205 160 = true := by decide +kernel
theorem jq_205 : ∀ pc r, jP 205 pc = some r → decode (jB 205) pc = .ok r := fun pc r h => jV_ok jv_205 (jV_out (fun _ => rfl)) pc r h
set_option maxRecDepth 100000 in
theorem jv_206 : jV cJ6_compare_7cf53 jP_206 20 = true := by decide +kernel
theorem jq_206 : ∀ pc r, jP 206 pc = some r → decode (jB 206) pc = .ok r := fun pc r h => jV_ok jv_206 (jV_out (fun _ => rfl)) pc r h
set_option maxRecDepth 100000 in
theorem jv_207 : jV cJ6_bitCount_0f7a4 jP_207 53 = true := by decide +kernel
theorem jq_207 : ∀ pc r, jP 207 pc = some r → decode (jB 207) pc = .ok r := fun pc r h => jV_ok jv_207 (jV_out (fun _ => rfl)) pc r h
set_option maxRecDepth 100000 in
theorem jv_208 : jV cJ9_max_7cf53 jP_208 11 = true := by decide +kernel
theorem jq_208 : ∀ pc r, jP 208 pc = some r → decode (jB 208) pc = .ok r := fun pc r h => jV_ok jv_208 (jV_out (fun _ => rfl)) pc r h
set_option maxRecDepth 100000 in
theorem jv_209 : jV cJ9_min_7cf53 jP_209 11 = true := by decide +kernel
theorem jq_209 : ∀ pc r, jP 209 pc = some r → decode (jB 209) pc = .ok r := fun pc r h => jV_ok jv_209 (jV_out (fun _ => rfl)) pc r h
set_option maxRecDepth 100000 in
theorem jv_210 : jV cJ0_length_8abf5 jP_210 11 = true := by decide +kernel
theorem jq_210 : ∀ pc r, jP 210 pc = some r → decode (jB 210) pc = .ok r := fun pc r h => jV_ok jv_210 (jV_out (fun _ => rfl)) pc r h
set_option maxRecDepth 100000 in
theorem jv_211 : jV cJ0_charAt_5068e jP_211 25 = true := by decide +kernel
theorem jq_211 : ∀ pc r, jP 211 pc = some r → decode (jB 211) pc = .ok r := fun pc r h => jV_ok jv_211 (jV_out (fun _ => rfl)) pc r h
set_option maxRecDepth 100000 in
theorem jv_212 : jV cJ0_coder_7d493 jP_212 15 = true := by decide +kernel
theorem jq_212 : ∀ pc r, jP 212 pc = some r → decode (jB 212) pc = .ok r := fun pc r h => jV_ok jv_212 (jV_out (fun _ => rfl)) pc r h
set_option maxRecDepth 100000 in
theorem jv_213 : jV cJ0_isLatin1_aae02 jP_213 19 = true := by decide +kernel
theorem jq_213 : ∀ pc r, jP 213 pc = some r → decode (jB 213) pc = .ok r := fun pc r h => jV_ok jv_213 (jV_out (fun _ => rfl)) pc r h
set_option maxRecDepth 100000 in
theorem jv_214 : jV cJ0_checkIndex_df160 jP_214 10 = true := by decide +kernel
theorem jq_214 : ∀ pc r, jP 214 pc = some r → decode (jB 214) pc = .ok r := fun pc r h => jV_ok jv_214 (jV_out (fun _ => rfl)) pc r h
set_option maxRecDepth 100000 in
theorem jv_215 : jV cJ1_charAt_3b067 jP_215 15 = true := by decide +kernel
theorem jq_215 : ∀ pc r, jP 215 pc = some r → decode (jB 215) pc = .ok r := fun pc r h => jV_ok jv_215 (jV_out (fun _ => rfl)) pc r h
set_option maxRecDepth 100000 in
theorem jv_216 : jV cJ3_checkIndex_8e157 jP_216 18 = true := by decide +kernel
theorem jq_216 : ∀ pc r, jP 216 pc = some r → decode (jB 216) pc = .ok r := fun pc r h => jV_ok jv_216 (jV_out (fun _ => rfl)) pc r h
