def jLV (f : Nat → Option (Instr × Nat)) (n : Nat) : Bool := (List.range n).all (fun pc => match f pc with | none => true | some r => jlo r.1 r.2)
theorem jLV_ok {f : Nat → Option (Instr × Nat)} {n : Nat} (h : jLV f n = true) (hn : ∀ pc, n ≤ pc → f pc = none) (pc : Nat) (r : Instr × Nat) (hr : f pc = some r) : jlo r.1 r.2 = true := by
  rcases Nat.lt_or_ge pc n with hl | hl
  · have h1 := List.all_eq_true.mp h pc (List.mem_range.mpr hl)
    rw [hr] at h1
    exact h1
  · rw [hn pc hl] at hr; cases hr
set_option maxRecDepth 100000 in
theorem jlv_0 : jLV jP_0 101 = true := by decide +kernel
theorem jlq_0 : ∀ pc r, jP 0 pc = some r → jlo r.1 r.2 = true := fun pc r h => jLV_ok jlv_0 (jV_out (fun _ => rfl)) pc r h
set_option maxRecDepth 100000 in
theorem jlv_1 : jLV jP_1 134 = true := by decide +kernel
theorem jlq_1 : ∀ pc r, jP 1 pc = some r → jlo r.1 r.2 = true := fun pc r h => jLV_ok jlv_1 (jV_out (fun _ => rfl)) pc r h
set_option maxRecDepth 100000 in
theorem jlv_2 : jLV jP_2 21 = true := by decide +kernel
theorem jlq_2 : ∀ pc r, jP 2 pc = some r → jlo r.1 r.2 = true := fun pc r h => jLV_ok jlv_2 (jV_out (fun _ => rfl)) pc r h
set_option maxRecDepth 100000 in
theorem jlv_3 : jLV jP_3 18 = true := by decide +kernel
theorem jlq_3 : ∀ pc r, jP 3 pc = some r → jlo r.1 r.2 = true := fun pc r h => jLV_ok jlv_3 (jV_out (fun _ => rfl)) pc r h
set_option maxRecDepth 100000 in
theorem jlv_4 : jLV jP_4 27 = true := by decide +kernel
theorem jlq_4 : ∀ pc r, jP 4 pc = some r → jlo r.1 r.2 = true := fun pc r h => jLV_ok jlv_4 (jV_out (fun _ => rfl)) pc r h
set_option maxRecDepth 100000 in
theorem jlv_5 : jLV jP_5 18 = true := by decide +kernel
theorem jlq_5 : ∀ pc r, jP 5 pc = some r → jlo r.1 r.2 = true := fun pc r h => jLV_ok jlv_5 (jV_out (fun _ => rfl)) pc r h
set_option maxRecDepth 100000 in
theorem jlv_6 : jLV jP_6 76 = true := by decide +kernel
theorem jlq_6 : ∀ pc r, jP 6 pc = some r → jlo r.1 r.2 = true := fun pc r h => jLV_ok jlv_6 (jV_out (fun _ => rfl)) pc r h
set_option maxRecDepth 100000 in
theorem jlv_7 : jLV jP_7 19 = true := by decide +kernel
theorem jlq_7 : ∀ pc r, jP 7 pc = some r → jlo r.1 r.2 = true := fun pc r h => jLV_ok jlv_7 (jV_out (fun _ => rfl)) pc r h
set_option maxRecDepth 100000 in
theorem jlv_8 : jLV jP_8 35 = true := by decide +kernel
theorem jlq_8 : ∀ pc r, jP 8 pc = some r → jlo r.1 r.2 = true := fun pc r h => jLV_ok jlv_8 (jV_out (fun _ => rfl)) pc r h
set_option maxRecDepth 100000 in
theorem jlv_9 : jLV jP_9 71 = true := by decide +kernel
theorem jlq_9 : ∀ pc r, jP 9 pc = some r → jlo r.1 r.2 = true := fun pc r h => jLV_ok jlv_9 (jV_out (fun _ => rfl)) pc r h
set_option maxRecDepth 100000 in
theorem jlv_10 : jLV jP_10 51 = true := by decide +kernel
theorem jlq_10 : ∀ pc r, jP 10 pc = some r → jlo r.1 r.2 = true := fun pc r h => jLV_ok jlv_10 (jV_out (fun _ => rfl)) pc r h
set_option maxRecDepth 100000 in
theorem jlv_11 : jLV jP_11 57 = true := by decide +kernel
theorem jlq_11 : ∀ pc r, jP 11 pc = some r → jlo r.1 r.2 = true := fun pc r h => jLV_ok jlv_11 (jV_out (fun _ => rfl)) pc r h
set_option maxRecDepth 100000 in
theorem jlv_12 : jLV jP_12 39 = true := by decide +kernel
theorem jlq_12 : ∀ pc r, jP 12 pc = some r → jlo r.1 r.2 = true := fun pc r h => jLV_ok jlv_12 (jV_out (fun _ => rfl)) pc r h
set_option maxRecDepth 100000 in
theorem jlv_13 : jLV jP_13 100 = true := by decide +kernel
theorem jlq_13 : ∀ pc r, jP 13 pc = some r → jlo r.1 r.2 = true := fun pc r h => jLV_ok jlv_13 (jV_out (fun _ => rfl)) pc r h
set_option maxRecDepth 100000 in
theorem jlv_14 : jLV jP_14 23 = true := by decide +kernel
theorem jlq_14 : ∀ pc r, jP 14 pc = some r → jlo r.1 r.2 = true := fun pc r h => jLV_ok jlv_14 (jV_out (fun _ => rfl)) pc r h
set_option maxRecDepth 100000 in
theorem jlv_15 : jLV jP_15 52 = true := by decide +kernel
theorem jlq_15 : ∀ pc r, jP 15 pc = some r → jlo r.1 r.2 = true := fun pc r h => jLV_ok jlv_15 (jV_out (fun _ => rfl)) pc r h
set_option maxRecDepth 100000 in
theorem jlv_16 : jLV jP_16 57 = true := by decide +kernel
theorem jlq_16 : ∀ pc r, jP 16 pc = some r → jlo r.1 r.2 = true := fun pc r h => jLV_ok jlv_16 (jV_out (fun _ => rfl)) pc r h
set_option maxRecDepth 100000 in
theorem jlv_17 : jLV jP_17 92 = true := by decide +kernel
theorem jlq_17 : ∀ pc r, jP 17 pc = some r → jlo r.1 r.2 = true := fun pc r h => jLV_ok jlv_17 (jV_out (fun _ => rfl)) pc r h
set_option maxRecDepth 100000 in
theorem jlv_18 : jLV jP_18 99 = true := by decide +kernel
theorem jlq_18 : ∀ pc r, jP 18 pc = some r → jlo r.1 r.2 = true := fun pc r h => jLV_ok jlv_18 (jV_out (fun _ => rfl)) pc r h
set_option maxRecDepth 100000 in
theorem jlv_19 : jLV jP_19 44 = true := by decide +kernel
theorem jlq_19 : ∀ pc r, jP 19 pc = some r → jlo r.1 r.2 = true := fun pc r h => jLV_ok jlv_19 (jV_out (fun _ => rfl)) pc r h
set_option maxRecDepth 100000 in
theorem jlv_20 : jLV jP_20 79 = true := by decide +kernel
theorem jlq_20 : ∀ pc r, jP 20 pc = some r → jlo r.1 r.2 = true := fun pc r h => jLV_ok jlv_20 (jV_out (fun _ => rfl)) pc r h
set_option maxRecDepth 100000 in
theorem jlv_21 : jLV jP_21 67 = true := by decide +kernel
theorem jlq_21 : ∀ pc r, jP 21 pc = some r → jlo r.1 r.2 = true := fun pc r h => jLV_ok jlv_21 (jV_out (fun _ => rfl)) pc r h
set_option maxRecDepth 100000 in
theorem jlv_22 : jLV jP_22 34 = true := by decide +kernel
theorem jlq_22 : ∀ pc r, jP 22 pc = some r → jlo r.1 r.2 = true := fun pc r h => jLV_ok jlv_22 (jV_out (fun _ => rfl)) pc r h
set_option maxRecDepth 100000 in
theorem jlv_23 : jLV jP_23 65 = true := by decide +kernel
theorem jlq_23 : ∀ pc r, jP 23 pc = some r → jlo r.1 r.2 = true := fun pc r h => jLV_ok jlv_23 (jV_out (fun _ => rfl)) pc r h
set_option maxRecDepth 100000 in
theorem jlv_24 : jLV jP_24 95 = true := by decide +kernel
theorem jlq_24 : ∀ pc r, jP 24 pc = some r → jlo r.1 r.2 = true := fun pc r h => jLV_ok jlv_24 (jV_out (fun _ => rfl)) pc r h
set_option maxRecDepth 100000 in
theorem jlv_25 : jLV jP_25 72 = true := by decide +kernel
theorem jlq_25 : ∀ pc r, jP 25 pc = some r → jlo r.1 r.2 = true := fun pc r h => jLV_ok jlv_25 (jV_out (fun _ => rfl)) pc r h
set_option maxRecDepth 100000 in
theorem jlv_26 : jLV jP_26 12 = true := by decide +kernel
theorem jlq_26 : ∀ pc r, jP 26 pc = some r → jlo r.1 r.2 = true := fun pc r h => jLV_ok jlv_26 (jV_out (fun _ => rfl)) pc r h
set_option maxRecDepth 100000 in
theorem jlv_27 : jLV jP_27 110 = true := by decide +kernel
theorem jlq_27 : ∀ pc r, jP 27 pc = some r → jlo r.1 r.2 = true := fun pc r h => jLV_ok jlv_27 (jV_out (fun _ => rfl)) pc r h
set_option maxRecDepth 100000 in
theorem jlv_28 : jLV jP_28 40 = true := by decide +kernel
theorem jlq_28 : ∀ pc r, jP 28 pc = some r → jlo r.1 r.2 = true := fun pc r h => jLV_ok jlv_28 (jV_out (fun _ => rfl)) pc r h
set_option maxRecDepth 100000 in
theorem jlv_29 : jLV jP_29 51 = true := by decide +kernel
theorem jlq_29 : ∀ pc r, jP 29 pc = some r → jlo r.1 r.2 = true := fun pc r h => jLV_ok jlv_29 (jV_out (fun _ => rfl)) pc r h
set_option maxRecDepth 100000 in
theorem jlv_30 : jLV jP_30 79 = true := by decide +kernel
theorem jlq_30 : ∀ pc r, jP 30 pc = some r → jlo r.1 r.2 = true := fun pc r h => jLV_ok jlv_30 (jV_out (fun _ => rfl)) pc r h
set_option maxRecDepth 100000 in
theorem jlv_31 : jLV jP_31 75 = true := by decide +kernel
theorem jlq_31 : ∀ pc r, jP 31 pc = some r → jlo r.1 r.2 = true := fun pc r h => jLV_ok jlv_31 (jV_out (fun _ => rfl)) pc r h
set_option maxRecDepth 100000 in
theorem jlv_32 : jLV jP_32 77 = true := by decide +kernel
theorem jlq_32 : ∀ pc r, jP 32 pc = some r → jlo r.1 r.2 = true := fun pc r h => jLV_ok jlv_32 (jV_out (fun _ => rfl)) pc r h
set_option maxRecDepth 100000 in
theorem jlv_33 : jLV jP_33 83 = true := by decide +kernel
theorem jlq_33 : ∀ pc r, jP 33 pc = some r → jlo r.1 r.2 = true := fun pc r h => jLV_ok jlv_33 (jV_out (fun _ => rfl)) pc r h
set_option maxRecDepth 100000 in
theorem jlv_34 : jLV jP_34 46 = true := by decide +kernel
theorem jlq_34 : ∀ pc r, jP 34 pc = some r → jlo r.1 r.2 = true := fun pc r h => jLV_ok jlv_34 (jV_out (fun _ => rfl)) pc r h
set_option maxRecDepth 100000 in
theorem jlv_35 : jLV jP_35 99 = true := by decide +kernel
theorem jlq_35 : ∀ pc r, jP 35 pc = some r → jlo r.1 r.2 = true := fun pc r h => jLV_ok jlv_35 (jV_out (fun _ => rfl)) pc r h
set_option maxRecDepth 100000 in
theorem jlv_36 : jLV jP_36 18 = true := by decide +kernel
theorem jlq_36 : ∀ pc r, jP 36 pc = some r → jlo r.1 r.2 = true := fun pc r h => jLV_ok jlv_36 (jV_out (fun _ => rfl)) pc r h
set_option maxRecDepth 100000 in
theorem jlv_37 : jLV jP_37 62 = true := by decide +kernel
theorem jlq_37 : ∀ pc r, jP 37 pc = some r → jlo r.1 r.2 = true := fun pc r h => jLV_ok jlv_37 (jV_out (fun _ => rfl)) pc r h
set_option maxRecDepth 100000 in
theorem jlv_38 : jLV jP_38 10 = true := by decide +kernel
theorem jlq_38 : ∀ pc r, jP 38 pc = some r → jlo r.1 r.2 = true := fun pc r h => jLV_ok jlv_38 (jV_out (fun _ => rfl)) pc r h
set_option maxRecDepth 100000 in
theorem jlv_39 : jLV jP_39 34 = true := by decide +kernel
theorem jlq_39 : ∀ pc r, jP 39 pc = some r → jlo r.1 r.2 = true := fun pc r h => jLV_ok jlv_39 (jV_out (fun _ => rfl)) pc r h
set_option maxRecDepth 100000 in
theorem jlv_40 : jLV jP_40 50 = true := by decide +kernel
theorem jlq_40 : ∀ pc r, jP 40 pc = some r → jlo r.1 r.2 = true := fun pc r h => jLV_ok jlv_40 (jV_out (fun _ => rfl)) pc r h
set_option maxRecDepth 100000 in
theorem jlv_41 : jLV jP_41 16 = true := by decide +kernel
theorem jlq_41 : ∀ pc r, jP 41 pc = some r → jlo r.1 r.2 = true := fun pc r h => jLV_ok jlv_41 (jV_out (fun _ => rfl)) pc r h
set_option maxRecDepth 100000 in
theorem jlv_42 : jLV jP_42 24 = true := by decide +kernel
theorem jlq_42 : ∀ pc r, jP 42 pc = some r → jlo r.1 r.2 = true := fun pc r h => jLV_ok jlv_42 (jV_out (fun _ => rfl)) pc r h
set_option maxRecDepth 100000 in
theorem jlv_43 : jLV jP_43 21 = true := by decide +kernel
theorem jlq_43 : ∀ pc r, jP 43 pc = some r → jlo r.1 r.2 = true := fun pc r h => jLV_ok jlv_43 (jV_out (fun _ => rfl)) pc r h
set_option maxRecDepth 100000 in
theorem jlv_44 : jLV jP_44 13 = true := by decide +kernel
theorem jlq_44 : ∀ pc r, jP 44 pc = some r → jlo r.1 r.2 = true := fun pc r h => jLV_ok jlv_44 (jV_out (fun _ => rfl)) pc r h
set_option maxRecDepth 100000 in
theorem jlv_45 : jLV jP_45 25 = true := by decide +kernel
theorem jlq_45 : ∀ pc r, jP 45 pc = some r → jlo r.1 r.2 = true := fun pc r h => jLV_ok jlv_45 (jV_out (fun _ => rfl)) pc r h
set_option maxRecDepth 100000 in
theorem jlv_46 : jLV jP_46 29 = true := by decide +kernel
theorem jlq_46 : ∀ pc r, jP 46 pc = some r → jlo r.1 r.2 = true := fun pc r h => jLV_ok jlv_46 (jV_out (fun _ => rfl)) pc r h
set_option maxRecDepth 100000 in
theorem jlv_47 : jLV jP_47 47 = true := by decide +kernel
theorem jlq_47 : ∀ pc r, jP 47 pc = some r → jlo r.1 r.2 = true := fun pc r h => jLV_ok jlv_47 (jV_out (fun _ => rfl)) pc r h
set_option maxRecDepth 100000 in
theorem jlv_48 : jLV jP_48 24 = true := by decide +kernel
theorem jlq_48 : ∀ pc r, jP 48 pc = some r → jlo r.1 r.2 = true := fun pc r h => jLV_ok jlv_48 (jV_out (fun _ => rfl)) pc r h
set_option maxRecDepth 100000 in
theorem jlv_49 : jLV jP_49 16 = true := by decide +kernel
theorem jlq_49 : ∀ pc r, jP 49 pc = some r → jlo r.1 r.2 = true := fun pc r h => jLV_ok jlv_49 (jV_out (fun _ => rfl)) pc r h
set_option maxRecDepth 100000 in
theorem jlv_50 : jLV jP_50 16 = true := by decide +kernel
theorem jlq_50 : ∀ pc r, jP 50 pc = some r → jlo r.1 r.2 = true := fun pc r h => jLV_ok jlv_50 (jV_out (fun _ => rfl)) pc r h
set_option maxRecDepth 100000 in
theorem jlv_51 : jLV jP_51 24 = true := by decide +kernel
theorem jlq_51 : ∀ pc r, jP 51 pc = some r → jlo r.1 r.2 = true := fun pc r h => jLV_ok jlv_51 (jV_out (fun _ => rfl)) pc r h
set_option maxRecDepth 100000 in
theorem jlv_52 : jLV jP_52 36 = true := by decide +kernel
theorem jlq_52 : ∀ pc r, jP 52 pc = some r → jlo r.1 r.2 = true := fun pc r h => jLV_ok jlv_52 (jV_out (fun _ => rfl)) pc r h
set_option maxRecDepth 100000 in
theorem jlv_53 : jLV jP_53 12 = true := by decide +kernel
theorem jlq_53 : ∀ pc r, jP 53 pc = some r → jlo r.1 r.2 = true := fun pc r h => jLV_ok jlv_53 (jV_out (fun _ => rfl)) pc r h
set_option maxRecDepth 100000 in
theorem jlv_54 : jLV jP_54 62 = true := by decide +kernel
theorem jlq_54 : ∀ pc r, jP 54 pc = some r → jlo r.1 r.2 = true := fun pc r h => jLV_ok jlv_54 (jV_out (fun _ => rfl)) pc r h
set_option maxRecDepth 100000 in
theorem jlv_55 : jLV jP_55 72 = true := by decide +kernel
theorem jlq_55 : ∀ pc r, jP 55 pc = some r → jlo r.1 r.2 = true := fun pc r h => jLV_ok jlv_55 (jV_out (fun _ => rfl)) pc r h
set_option maxRecDepth 100000 in
theorem jlv_56 : jLV jP_56 188 = true := by decide +kernel
theorem jlq_56 : ∀ pc r, jP 56 pc = some r → jlo r.1 r.2 = true := fun pc r h => jLV_ok jlv_56 (jV_out (fun _ => rfl)) pc r h
set_option maxRecDepth 100000 in
theorem jlv_57 : jLV jP_57 36 = true := by decide +kernel
theorem jlq_57 : ∀ pc r, jP 57 pc = some r → jlo r.1 r.2 = true := fun pc r h => jLV_ok jlv_57 (jV_out (fun _ => rfl)) pc r h
set_option maxRecDepth 100000 in
theorem jlv_58 : jLV jP_58 34 = true := by decide +kernel
theorem jlq_58 : ∀ pc r, jP 58 pc = some r → jlo r.1 r.2 = true := fun pc r h => jLV_ok jlv_58 (jV_out (fun _ => rfl)) pc r h
set_option maxRecDepth 100000 in
theorem jlv_59 : jLV jP_59 51 = true := by decide +kernel
theorem jlq_59 : ∀ pc r, jP 59 pc = some r → jlo r.1 r.2 = true := fun pc r h => jLV_ok jlv_59 (jV_out (fun _ => rfl)) pc r h
set_option maxRecDepth 100000 in
theorem jlv_60 : jLV jP_60 97 = true := by decide +kernel
theorem jlq_60 : ∀ pc r, jP 60 pc = some r → jlo r.1 r.2 = true := fun pc r h => jLV_ok jlv_60 (jV_out (fun _ => rfl)) pc r h
set_option maxRecDepth 100000 in
theorem jlv_61 : jLV jP_61 76 = true := by decide +kernel
theorem jlq_61 : ∀ pc r, jP 61 pc = some r → jlo r.1 r.2 = true := fun pc r h => jLV_ok jlv_61 (jV_out (fun _ => rfl)) pc r h
set_option maxRecDepth 100000 in
theorem jlv_62 : jLV jP_62 103 = true := by decide +kernel
theorem jlq_62 : ∀ pc r, jP 62 pc = some r → jlo r.1 r.2 = true := fun pc r h => jLV_ok jlv_62 (jV_out (fun _ => rfl)) pc r h
set_option maxRecDepth 100000 in
theorem jlv_63 : jLV jP_63 53 = true := by decide +kernel
theorem jlq_63 : ∀ pc r, jP 63 pc = some r → jlo r.1 r.2 = true := fun pc r h => jLV_ok jlv_63 (jV_out (fun _ => rfl)) pc r h
set_option maxRecDepth 100000 in
theorem jlv_64 : jLV jP_64 131 = true := by decide +kernel
theorem jlq_64 : ∀ pc r, jP 64 pc = some r → jlo r.1 r.2 = true := fun pc r h => jLV_ok jlv_64 (jV_out (fun _ => rfl)) pc r h
set_option maxRecDepth 100000 in
theorem jlv_65 : jLV jP_65 41 = true := by decide +kernel
theorem jlq_65 : ∀ pc r, jP 65 pc = some r → jlo r.1 r.2 = true := fun pc r h => jLV_ok jlv_65 (jV_out (fun _ => rfl)) pc r h
set_option maxRecDepth 100000 in
theorem jlv_66 : jLV jP_66 16 = true := by decide +kernel
theorem jlq_66 : ∀ pc r, jP 66 pc = some r → jlo r.1 r.2 = true := fun pc r h => jLV_ok jlv_66 (jV_out (fun _ => rfl)) pc r h
set_option maxRecDepth 100000 in
theorem jlv_67 : jLV jP_67 113 = true := by decide +kernel
theorem jlq_67 : ∀ pc r, jP 67 pc = some r → jlo r.1 r.2 = true := fun pc r h => jLV_ok jlv_67 (jV_out (fun _ => rfl)) pc r h
set_option maxRecDepth 100000 in
theorem jlv_68 : jLV jP_68 38 = true := by decide +kernel
theorem jlq_68 : ∀ pc r, jP 68 pc = some r → jlo r.1 r.2 = true := fun pc r h => jLV_ok jlv_68 (jV_out (fun _ => rfl)) pc r h
set_option maxRecDepth 100000 in
theorem jlv_69 : jLV jP_69 8 = true := by decide +kernel
theorem jlq_69 : ∀ pc r, jP 69 pc = some r → jlo r.1 r.2 = true := fun pc r h => jLV_ok jlv_69 (jV_out (fun _ => rfl)) pc r h
set_option maxRecDepth 100000 in
theorem jlv_70 : jLV jP_70 30 = true := by decide +kernel
theorem jlq_70 : ∀ pc r, jP 70 pc = some r → jlo r.1 r.2 = true := fun pc r h => jLV_ok jlv_70 (jV_out (fun _ => rfl)) pc r h
set_option maxRecDepth 100000 in
theorem jlv_71 : jLV jP_71 92 = true := by decide +kernel
theorem jlq_71 : ∀ pc r, jP 71 pc = some r → jlo r.1 r.2 = true := fun pc r h => jLV_ok jlv_71 (jV_out (fun _ => rfl)) pc r h
set_option maxRecDepth 100000 in
theorem jlv_72 : jLV jP_72 151 = true := by decide +kernel
theorem jlq_72 : ∀ pc r, jP 72 pc = some r → jlo r.1 r.2 = true := fun pc r h => jLV_ok jlv_72 (jV_out (fun _ => rfl)) pc r h
set_option maxRecDepth 100000 in
theorem jlv_73 : jLV jP_73 100 = true := by decide +kernel
theorem jlq_73 : ∀ pc r, jP 73 pc = some r → jlo r.1 r.2 = true := fun pc r h => jLV_ok jlv_73 (jV_out (fun _ => rfl)) pc r h
set_option maxRecDepth 100000 in
theorem jlv_74 : jLV jP_74 66 = true := by decide +kernel
theorem jlq_74 : ∀ pc r, jP 74 pc = some r → jlo r.1 r.2 = true := fun pc r h => jLV_ok jlv_74 (jV_out (fun _ => rfl)) pc r h
set_option maxRecDepth 100000 in
theorem jlv_75 : jLV jP_75 64 = true := by decide +kernel
theorem jlq_75 : ∀ pc r, jP 75 pc = some r → jlo r.1 r.2 = true := fun pc r h => jLV_ok jlv_75 (jV_out (fun _ => rfl)) pc r h
set_option maxRecDepth 100000 in
theorem jlv_76 : jLV jP_76 48 = true := by decide +kernel
theorem jlq_76 : ∀ pc r, jP 76 pc = some r → jlo r.1 r.2 = true := fun pc r h => jLV_ok jlv_76 (jV_out (fun _ => rfl)) pc r h
set_option maxRecDepth 100000 in
theorem jlv_77 : jLV jP_77 36 = true := by decide +kernel
theorem jlq_77 : ∀ pc r, jP 77 pc = some r → jlo r.1 r.2 = true := fun pc r h => jLV_ok jlv_77 (jV_out (fun _ => rfl)) pc r h
set_option maxRecDepth 100000 in
theorem jlv_78 : jLV jP_78 56 = true := by decide +kernel
theorem jlq_78 : ∀ pc r, jP 78 pc = some r → jlo r.1 r.2 = true := fun pc r h => jLV_ok jlv_78 (jV_out (fun _ => rfl)) pc r h
set_option maxRecDepth 100000 in
theorem jlv_79 : jLV jP_79 30 = true := by decide +kernel
theorem jlq_79 : ∀ pc r, jP 79 pc = some r → jlo r.1 r.2 = true := fun pc r h => jLV_ok jlv_79 (jV_out (fun _ => rfl)) pc r h
set_option maxRecDepth 100000 in
theorem jlv_80 : jLV jP_80 60 = true := by decide +kernel
theorem jlq_80 : ∀ pc r, jP 80 pc = some r → jlo r.1 r.2 = true := fun pc r h => jLV_ok jlv_80 (jV_out (fun _ => rfl)) pc r h
set_option maxRecDepth 100000 in
theorem jlv_81 : jLV jP_81 131 = true := by decide +kernel
theorem jlq_81 : ∀ pc r, jP 81 pc = some r → jlo r.1 r.2 = true := fun pc r h => jLV_ok jlv_81 (jV_out (fun _ => rfl)) pc r h
set_option maxRecDepth 100000 in
theorem jlv_82 : jLV jP_82 71 = true := by decide +kernel
theorem jlq_82 : ∀ pc r, jP 82 pc = some r → jlo r.1 r.2 = true := fun pc r h => jLV_ok jlv_82 (jV_out (fun _ => rfl)) pc r h
set_option maxRecDepth 100000 in
theorem jlv_83 : jLV jP_83 129 = true := by decide +kernel
theorem jlq_83 : ∀ pc r, jP 83 pc = some r → jlo r.1 r.2 = true := fun pc r h => jLV_ok jlv_83 (jV_out (fun _ => rfl)) pc r h
set_option maxRecDepth 100000 in
theorem jlv_84 : jLV jP_84 118 = true := by decide +kernel
theorem jlq_84 : ∀ pc r, jP 84 pc = some r → jlo r.1 r.2 = true := fun pc r h => jLV_ok jlv_84 (jV_out (fun _ => rfl)) pc r h
set_option maxRecDepth 100000 in
theorem jlv_85 : jLV jP_85 56 = true := by decide +kernel
theorem jlq_85 : ∀ pc r, jP 85 pc = some r → jlo r.1 r.2 = true := fun pc r h => jLV_ok jlv_85 (jV_out (fun _ => rfl)) pc r h
set_option maxRecDepth 100000 in
theorem jlv_86 : jLV jP_86 45 = true := by decide +kernel
theorem jlq_86 : ∀ pc r, jP 86 pc = some r → jlo r.1 r.2 = true := fun pc r h => jLV_ok jlv_86 (jV_out (fun _ => rfl)) pc r h
set_option maxRecDepth 100000 in
theorem jlv_87 : jLV jP_87 51 = true := by decide +kernel
theorem jlq_87 : ∀ pc r, jP 87 pc = some r → jlo r.1 r.2 = true := fun pc r h => jLV_ok jlv_87 (jV_out (fun _ => rfl)) pc r h
set_option maxRecDepth 100000 in
theorem jlv_88 : jLV jP_88 67 = true := by decide +kernel
theorem jlq_88 : ∀ pc r, jP 88 pc = some r → jlo r.1 r.2 = true := fun pc r h => jLV_ok jlv_88 (jV_out (fun _ => rfl)) pc r h
set_option maxRecDepth 100000 in
theorem jlv_89 : jLV jP_89 56 = true := by decide +kernel
theorem jlq_89 : ∀ pc r, jP 89 pc = some r → jlo r.1 r.2 = true := fun pc r h => jLV_ok jlv_89 (jV_out (fun _ => rfl)) pc r h
set_option maxRecDepth 100000 in
theorem jlv_90 : jLV jP_90 116 = true := by decide +kernel
theorem jlq_90 : ∀ pc r, jP 90 pc = some r → jlo r.1 r.2 = true := fun pc r h => jLV_ok jlv_90 (jV_out (fun _ => rfl)) pc r h
set_option maxRecDepth 100000 in
theorem jlv_91 : jLV jP_91 88 = true := by decide +kernel
theorem jlq_91 : ∀ pc r, jP 91 pc = some r → jlo r.1 r.2 = true := fun pc r h => jLV_ok jlv_91 (jV_out (fun _ => rfl)) pc r h
set_option maxRecDepth 100000 in
theorem jlv_92 : jLV jP_92 119 = true := by decide +kernel
theorem jlq_92 : ∀ pc r, jP 92 pc = some r → jlo r.1 r.2 = true := fun pc r h => jLV_ok jlv_92 (jV_out (fun _ => rfl)) pc r h
set_option maxRecDepth 100000 in
theorem jlv_93 : jLV jP_93 64 = true := by decide +kernel
theorem jlq_93 : ∀ pc r, jP 93 pc = some r → jlo r.1 r.2 = true := fun pc r h => jLV_ok jlv_93 (jV_out (fun _ => rfl)) pc r h
set_option maxRecDepth 100000 in
theorem jlv_94 : jLV jP_94 8 = true := by decide +kernel
theorem jlq_94 : ∀ pc r, jP 94 pc = some r → jlo r.1 r.2 = true := fun pc r h => jLV_ok jlv_94 (jV_out (fun _ => rfl)) pc r h
set_option maxRecDepth 100000 in
theorem jlv_95 : jLV jP_95 38 = true := by decide +kernel
theorem jlq_95 : ∀ pc r, jP 95 pc = some r → jlo r.1 r.2 = true := fun pc r h => jLV_ok jlv_95 (jV_out (fun _ => rfl)) pc r h
set_option maxRecDepth 100000 in
theorem jlv_96 : jLV jP_96 44 = true := by decide +kernel
theorem jlq_96 : ∀ pc r, jP 96 pc = some r → jlo r.1 r.2 = true := fun pc r h => jLV_ok jlv_96 (jV_out (fun _ => rfl)) pc r h
set_option maxRecDepth 100000 in
theorem jlv_97 : jLV jP_97 174 = true := by decide +kernel
theorem jlq_97 : ∀ pc r, jP 97 pc = some r → jlo r.1 r.2 = true := fun pc r h => jLV_ok jlv_97 (jV_out (fun _ => rfl)) pc r h
set_option maxRecDepth 100000 in
theorem jlv_98 : jLV jP_98 171 = true := by decide +kernel
theorem jlq_98 : ∀ pc r, jP 98 pc = some r → jlo r.1 r.2 = true := fun pc r h => jLV_ok jlv_98 (jV_out (fun _ => rfl)) pc r h
set_option maxRecDepth 100000 in
theorem jlv_99 : jLV jP_99 16 = true := by decide +kernel
theorem jlq_99 : ∀ pc r, jP 99 pc = some r → jlo r.1 r.2 = true := fun pc r h => jLV_ok jlv_99 (jV_out (fun _ => rfl)) pc r h
set_option maxRecDepth 100000 in
theorem jlv_100 : jLV jP_100 18 = true := by decide +kernel
theorem jlq_100 : ∀ pc r, jP 100 pc = some r → jlo r.1 r.2 = true := fun pc r h => jLV_ok jlv_100 (jV_out (fun _ => rfl)) pc r h
set_option maxRecDepth 100000 in
theorem jlv_101 : jLV jP_101 24 = true := by decide +kernel
theorem jlq_101 : ∀ pc r, jP 101 pc = some r → jlo r.1 r.2 = true := fun pc r h => jLV_ok jlv_101 (jV_out (fun _ => rfl)) pc r h
set_option maxRecDepth 100000 in
theorem jlv_102 : jLV jP_102 7 = true := by decide +kernel
theorem jlq_102 : ∀ pc r, jP 102 pc = some r → jlo r.1 r.2 = true := fun pc r h => jLV_ok jlv_102 (jV_out (fun _ => rfl)) pc r h
set_option maxRecDepth 100000 in
theorem jlv_103 : jLV jP_103 41 = true := by decide +kernel
theorem jlq_103 : ∀ pc r, jP 103 pc = some r → jlo r.1 r.2 = true := fun pc r h => jLV_ok jlv_103 (jV_out (fun _ => rfl)) pc r h
set_option maxRecDepth 100000 in
theorem jlv_104 : jLV jP_104 36 = true := by decide +kernel
theorem jlq_104 : ∀ pc r, jP 104 pc = some r → jlo r.1 r.2 = true := fun pc r h => jLV_ok jlv_104 (jV_out (fun _ => rfl)) pc r h
set_option maxRecDepth 100000 in
theorem jlv_105 : jLV jP_105 44 = true := by decide +kernel
theorem jlq_105 : ∀ pc r, jP 105 pc = some r → jlo r.1 r.2 = true := fun pc r h => jLV_ok jlv_105 (jV_out (fun _ => rfl)) pc r h
set_option maxRecDepth 100000 in
theorem jlv_106 : jLV jP_106 34 = true := by decide +kernel
theorem jlq_106 : ∀ pc r, jP 106 pc = some r → jlo r.1 r.2 = true := fun pc r h => jLV_ok jlv_106 (jV_out (fun _ => rfl)) pc r h
set_option maxRecDepth 100000 in
theorem jlv_107 : jLV jP_107 31 = true := by decide +kernel
theorem jlq_107 : ∀ pc r, jP 107 pc = some r → jlo r.1 r.2 = true := fun pc r h => jLV_ok jlv_107 (jV_out (fun _ => rfl)) pc r h
set_option maxRecDepth 100000 in
theorem jlv_108 : jLV jP_108 56 = true := by decide +kernel
theorem jlq_108 : ∀ pc r, jP 108 pc = some r → jlo r.1 r.2 = true := fun pc r h => jLV_ok jlv_108 (jV_out (fun _ => rfl)) pc r h
set_option maxRecDepth 100000 in
theorem jlv_109 : jLV jP_109 45 = true := by decide +kernel
theorem jlq_109 : ∀ pc r, jP 109 pc = some r → jlo r.1 r.2 = true := fun pc r h => jLV_ok jlv_109 (jV_out (fun _ => rfl)) pc r h
set_option maxRecDepth 100000 in
theorem jlv_110 : jLV jP_110 43 = true := by decide +kernel
theorem jlq_110 : ∀ pc r, jP 110 pc = some r → jlo r.1 r.2 = true := fun pc r h => jLV_ok jlv_110 (jV_out (fun _ => rfl)) pc r h
set_option maxRecDepth 100000 in
theorem jlv_111 : jLV jP_111 107 = true := by decide +kernel
theorem jlq_111 : ∀ pc r, jP 111 pc = some r → jlo r.1 r.2 = true := fun pc r h => jLV_ok jlv_111 (jV_out (fun _ => rfl)) pc r h
set_option maxRecDepth 100000 in
theorem jlv_112 : jLV jP_112 55 = true := by decide +kernel
theorem jlq_112 : ∀ pc r, jP 112 pc = some r → jlo r.1 r.2 = true := fun pc r h => jLV_ok jlv_112 (jV_out (fun _ => rfl)) pc r h
set_option maxRecDepth 100000 in
theorem jlv_113 : jLV jP_113 58 = true := by decide +kernel
theorem jlq_113 : ∀ pc r, jP 113 pc = some r → jlo r.1 r.2 = true := fun pc r h => jLV_ok jlv_113 (jV_out (fun _ => rfl)) pc r h
set_option maxRecDepth 100000 in
theorem jlv_114 : jLV jP_114 98 = true := by decide +kernel
theorem jlq_114 : ∀ pc r, jP 114 pc = some r → jlo r.1 r.2 = true := fun pc r h => jLV_ok jlv_114 (jV_out (fun _ => rfl)) pc r h
set_option maxRecDepth 100000 in
theorem jlv_115 : jLV jP_115 56 = true := by decide +kernel
theorem jlq_115 : ∀ pc r, jP 115 pc = some r → jlo r.1 r.2 = true := fun pc r h => jLV_ok jlv_115 (jV_out (fun _ => rfl)) pc r h
set_option maxRecDepth 100000 in
theorem jlv_116 : jLV jP_116 79 = true := by decide +kernel
theorem jlq_116 : ∀ pc r, jP 116 pc = some r → jlo r.1 r.2 = true := fun pc r h => jLV_ok jlv_116 (jV_out (fun _ => rfl)) pc r h
set_option maxRecDepth 100000 in
theorem jlv_117 : jLV jP_117 87 = true := by decide +kernel
theorem jlq_117 : ∀ pc r, jP 117 pc = some r → jlo r.1 r.2 = true := fun pc r h => jLV_ok jlv_117 (jV_out (fun _ => rfl)) pc r h
set_option maxRecDepth 100000 in
theorem jlv_118 : jLV jP_118 130 = true := by decide +kernel
theorem jlq_118 : ∀ pc r, jP 118 pc = some r → jlo r.1 r.2 = true := fun pc r h => jLV_ok jlv_118 (jV_out (fun _ => rfl)) pc r h
set_option maxRecDepth 100000 in
theorem jlv_119 : jLV jP_119 26 = true := by decide +kernel
theorem jlq_119 : ∀ pc r, jP 119 pc = some r → jlo r.1 r.2 = true := fun pc r h => jLV_ok jlv_119 (jV_out (fun _ => rfl)) pc r h
set_option maxRecDepth 100000 in
theorem jlv_120 : jLV jP_120 23 = true := by decide +kernel
theorem jlq_120 : ∀ pc r, jP 120 pc = some r → jlo r.1 r.2 = true := fun pc r h => jLV_ok jlv_120 (jV_out (fun _ => rfl)) pc r h
set_option maxRecDepth 100000 in
theorem jlv_121 : jLV jP_121 33 = true := by decide +kernel
theorem jlq_121 : ∀ pc r, jP 121 pc = some r → jlo r.1 r.2 = true := fun pc r h => jLV_ok jlv_121 (jV_out (fun _ => rfl)) pc r h
set_option maxRecDepth 100000 in
theorem jlv_122 : jLV jP_122 24 = true := by decide +kernel
theorem jlq_122 : ∀ pc r, jP 122 pc = some r → jlo r.1 r.2 = true := fun pc r h => jLV_ok jlv_122 (jV_out (fun _ => rfl)) pc r h
set_option maxRecDepth 100000 in
theorem jlv_123 : jLV jP_123 48 = true := by decide +kernel
theorem jlq_123 : ∀ pc r, jP 123 pc = some r → jlo r.1 r.2 = true := fun pc r h => jLV_ok jlv_123 (jV_out (fun _ => rfl)) pc r h
set_option maxRecDepth 100000 in
theorem jlv_124 : jLV jP_124 157 = true := by decide +kernel
theorem jlq_124 : ∀ pc r, jP 124 pc = some r → jlo r.1 r.2 = true := fun pc r h => jLV_ok jlv_124 (jV_out (fun _ => rfl)) pc r h
set_option maxRecDepth 100000 in
theorem jlv_125 : jLV jP_125 19 = true := by decide +kernel
theorem jlq_125 : ∀ pc r, jP 125 pc = some r → jlo r.1 r.2 = true := fun pc r h => jLV_ok jlv_125 (jV_out (fun _ => rfl)) pc r h
set_option maxRecDepth 100000 in
theorem jlv_126 : jLV jP_126 15 = true := by decide +kernel
theorem jlq_126 : ∀ pc r, jP 126 pc = some r → jlo r.1 r.2 = true := fun pc r h => jLV_ok jlv_126 (jV_out (fun _ => rfl)) pc r h
set_option maxRecDepth 100000 in
theorem jlv_127 : jLV jP_127 26 = true := by decide +kernel
theorem jlq_127 : ∀ pc r, jP 127 pc = some r → jlo r.1 r.2 = true := fun pc r h => jLV_ok jlv_127 (jV_out (fun _ => rfl)) pc r h
set_option maxRecDepth 100000 in
theorem jlv_128 : jLV jP_128 53 = true := by decide +kernel
theorem jlq_128 : ∀ pc r, jP 128 pc = some r → jlo r.1 r.2 = true := fun pc r h => jLV_ok jlv_128 (jV_out (fun _ => rfl)) pc r h
set_option maxRecDepth 100000 in
theorem jlv_129 : jLV jP_129 12 = true := by decide +kernel
theorem jlq_129 : ∀ pc r, jP 129 pc = some r → jlo r.1 r.2 = true := fun pc r h => jLV_ok jlv_129 (jV_out (fun _ => rfl)) pc r h
set_option maxRecDepth 100000 in
theorem jlv_130 : jLV jP_130 34 = true := by decide +kernel
theorem jlq_130 : ∀ pc r, jP 130 pc = some r → jlo r.1 r.2 = true := fun pc r h => jLV_ok jlv_130 (jV_out (fun _ => rfl)) pc r h
set_option maxRecDepth 100000 in
theorem jlv_131 : jLV jP_131 146 = true := by decide +kernel
theorem jlq_131 : ∀ pc r, jP 131 pc = some r → jlo r.1 r.2 = true := fun pc r h => jLV_ok jlv_131 (jV_out (fun _ => rfl)) pc r h
set_option maxRecDepth 100000 in
theorem jlv_132 : jLV jP_132 88 = true := by decide +kernel
theorem jlq_132 : ∀ pc r, jP 132 pc = some r → jlo r.1 r.2 = true := fun pc r h => jLV_ok jlv_132 (jV_out (fun _ => rfl)) pc r h
set_option maxRecDepth 100000 in
theorem jlv_133 : jLV jP_133 63 = true := by decide +kernel
theorem jlq_133 : ∀ pc r, jP 133 pc = some r → jlo r.1 r.2 = true := fun pc r h => jLV_ok jlv_133 (jV_out (fun _ => rfl)) pc r h
set_option maxRecDepth 100000 in
theorem jlv_134 : jLV jP_134 49 = true := by decide +kernel
theorem jlq_134 : ∀ pc r, jP 134 pc = some r → jlo r.1 r.2 = true := fun pc r h => jLV_ok jlv_134 (jV_out (fun _ => rfl)) pc r h
set_option maxRecDepth 100000 in
theorem jlv_135 : jLV jP_135 129 = true := by decide +kernel
theorem jlq_135 : ∀ pc r, jP 135 pc = some r → jlo r.1 r.2 = true := fun pc r h => jLV_ok jlv_135 (jV_out (fun _ => rfl)) pc r h
set_option maxRecDepth 100000 in
theorem jlv_136 : jLV jP_136 121 = true := by decide +kernel
theorem jlq_136 : ∀ pc r, jP 136 pc = some r → jlo r.1 r.2 = true := fun pc r h => jLV_ok jlv_136 (jV_out (fun _ => rfl)) pc r h
set_option maxRecDepth 100000 in
theorem jlv_137 : jLV jP_137 10 = true := by decide +kernel
theorem jlq_137 : ∀ pc r, jP 137 pc = some r → jlo r.1 r.2 = true := fun pc r h => jLV_ok jlv_137 (jV_out (fun _ => rfl)) pc r h
set_option maxRecDepth 100000 in
theorem jlv_138 : jLV jP_138 12 = true := by decide +kernel
theorem jlq_138 : ∀ pc r, jP 138 pc = some r → jlo r.1 r.2 = true := fun pc r h => jLV_ok jlv_138 (jV_out (fun _ => rfl)) pc r h
set_option maxRecDepth 100000 in
theorem jlv_139 : jLV jP_139 144 = true := by decide +kernel
theorem jlq_139 : ∀ pc r, jP 139 pc = some r → jlo r.1 r.2 = true := fun pc r h => jLV_ok jlv_139 (jV_out (fun _ => rfl)) pc r h
set_option maxRecDepth 100000 in
theorem jlv_140 : jLV jP_140 152 = true := by decide +kernel
theorem jlq_140 : ∀ pc r, jP 140 pc = some r → jlo r.1 r.2 = true := fun pc r h => jLV_ok jlv_140 (jV_out (fun _ => rfl)) pc r h
set_option maxRecDepth 100000 in
theorem jlv_141 : jLV jP_141 122 = true := by decide +kernel
theorem jlq_141 : ∀ pc r, jP 141 pc = some r → jlo r.1 r.2 = true := fun pc r h => jLV_ok jlv_141 (jV_out (fun _ => rfl)) pc r h
set_option maxRecDepth 100000 in
theorem jlv_142 : jLV jP_142 61 = true := by decide +kernel
theorem jlq_142 : ∀ pc r, jP 142 pc = some r → jlo r.1 r.2 = true := fun pc r h => jLV_ok jlv_142 (jV_out (fun _ => rfl)) pc r h
set_option maxRecDepth 100000 in
theorem jlv_143 : jLV jP_143 31 = true := by decide +kernel
theorem jlq_143 : ∀ pc r, jP 143 pc = some r → jlo r.1 r.2 = true := fun pc r h => jLV_ok jlv_143 (jV_out (fun _ => rfl)) pc r h
set_option maxRecDepth 100000 in
theorem jlv_144 : jLV jP_144 170 = true := by decide +kernel
theorem jlq_144 : ∀ pc r, jP 144 pc = some r → jlo r.1 r.2 = true := fun pc r h => jLV_ok jlv_144 (jV_out (fun _ => rfl)) pc r h
set_option maxRecDepth 100000 in
theorem jlv_145 : jLV jP_145 109 = true := by decide +kernel
theorem jlq_145 : ∀ pc r, jP 145 pc = some r → jlo r.1 r.2 = true := fun pc r h => jLV_ok jlv_145 (jV_out (fun _ => rfl)) pc r h
set_option maxRecDepth 100000 in
theorem jlv_146 : jLV jP_146 48 = true := by decide +kernel
theorem jlq_146 : ∀ pc r, jP 146 pc = some r → jlo r.1 r.2 = true := fun pc r h => jLV_ok jlv_146 (jV_out (fun _ => rfl)) pc r h
set_option maxRecDepth 100000 in
theorem jlv_147 : jLV jP_147 41 = true := by decide +kernel
theorem jlq_147 : ∀ pc r, jP 147 pc = some r → jlo r.1 r.2 = true := fun pc r h => jLV_ok jlv_147 (jV_out (fun _ => rfl)) pc r h
set_option maxRecDepth 100000 in
theorem jlv_148 : jLV jP_148 14 = true := by decide +kernel
theorem jlq_148 : ∀ pc r, jP 148 pc = some r → jlo r.1 r.2 = true := fun pc r h => jLV_ok jlv_148 (jV_out (fun _ => rfl)) pc r h
set_option maxRecDepth 100000 in
theorem jlv_149 : jLV jP_149 79 = true := by decide +kernel
theorem jlq_149 : ∀ pc r, jP 149 pc = some r → jlo r.1 r.2 = true := fun pc r h => jLV_ok jlv_149 (jV_out (fun _ => rfl)) pc r h
set_option maxRecDepth 100000 in
theorem jlv_150 : jLV jP_150 57 = true := by decide +kernel
theorem jlq_150 : ∀ pc r, jP 150 pc = some r → jlo r.1 r.2 = true := fun pc r h => jLV_ok jlv_150 (jV_out (fun _ => rfl)) pc r h
set_option maxRecDepth 100000 in
theorem jlv_151 : jLV jP_151 28 = true := by decide +kernel
theorem jlq_151 : ∀ pc r, jP 151 pc = some r → jlo r.1 r.2 = true := fun pc r h => jLV_ok jlv_151 (jV_out (fun _ => rfl)) pc r h
set_option maxRecDepth 100000 in
theorem jlv_152 : jLV jP_152 49 = true := by decide +kernel
theorem jlq_152 : ∀ pc r, jP 152 pc = some r → jlo r.1 r.2 = true := fun pc r h => jLV_ok jlv_152 (jV_out (fun _ => rfl)) pc r h
set_option maxRecDepth 100000 in
theorem jlv_153 : jLV jP_153 46 = true := by decide +kernel
theorem jlq_153 : ∀ pc r, jP 153 pc = some r → jlo r.1 r.2 = true := fun pc r h => jLV_ok jlv_153 (jV_out (fun _ => rfl)) pc r h
set_option maxRecDepth 100000 in
theorem jlv_154 : jLV jP_154 83 = true := by decide +kernel
theorem jlq_154 : ∀ pc r, jP 154 pc = some r → jlo r.1 r.2 = true := fun pc r h => jLV_ok jlv_154 (jV_out (fun _ => rfl)) pc r h
set_option maxRecDepth 100000 in
theorem jlv_155 : jLV jP_155 119 = true := by decide +kernel
theorem jlq_155 : ∀ pc r, jP 155 pc = some r → jlo r.1 r.2 = true := fun pc r h => jLV_ok jlv_155 (jV_out (fun _ => rfl)) pc r h
set_option maxRecDepth 100000 in
theorem jlv_156 : jLV jP_156 68 = true := by decide +kernel
theorem jlq_156 : ∀ pc r, jP 156 pc = some r → jlo r.1 r.2 = true := fun pc r h => jLV_ok jlv_156 (jV_out (fun _ => rfl)) pc r h
set_option maxRecDepth 100000 in
theorem jlv_157 : jLV jP_157 51 = true := by decide +kernel
theorem jlq_157 : ∀ pc r, jP 157 pc = some r → jlo r.1 r.2 = true := fun pc r h => jLV_ok jlv_157 (jV_out (fun _ => rfl)) pc r h
set_option maxRecDepth 100000 in
theorem jlv_158 : jLV jP_158 30 = true := by decide +kernel
theorem jlq_158 : ∀ pc r, jP 158 pc = some r → jlo r.1 r.2 = true := fun pc r h => jLV_ok jlv_158 (jV_out (fun _ => rfl)) pc r h
set_option maxRecDepth 100000 in
theorem jlv_159 : jLV jP_159 14 = true := by decide +kernel
theorem jlq_159 : ∀ pc r, jP 159 pc = some r → jlo r.1 r.2 = true := fun pc r h => jLV_ok jlv_159 (jV_out (fun _ => rfl)) pc r h
set_option maxRecDepth 100000 in
theorem jlv_160 : jLV jP_160 27 = true := by decide +kernel
theorem jlq_160 : ∀ pc r, jP 160 pc = some r → jlo r.1 r.2 = true := fun pc r h => jLV_ok jlv_160 (jV_out (fun _ => rfl)) pc r h
set_option maxRecDepth 100000 in
theorem jlv_161 : jLV jP_161 14 = true := by decide +kernel
theorem jlq_161 : ∀ pc r, jP 161 pc = some r → jlo r.1 r.2 = true := fun pc r h => jLV_ok jlv_161 (jV_out (fun _ => rfl)) pc r h
set_option maxRecDepth 100000 in
theorem jlv_162 : jLV jP_162 10 = true := by decide +kernel
theorem jlq_162 : ∀ pc r, jP 162 pc = some r → jlo r.1 r.2 = true := fun pc r h => jLV_ok jlv_162 (jV_out (fun _ => rfl)) pc r h
set_option maxRecDepth 100000 in
theorem jlv_163 : jLV jP_163 118 = true := by decide +kernel
theorem jlq_163 : ∀ pc r, jP 163 pc = some r → jlo r.1 r.2 = true := fun pc r h => jLV_ok jlv_163 (jV_out (fun _ => rfl)) pc r h
set_option maxRecDepth 100000 in
theorem jlv_164 : jLV jP_164 112 = true := by decide +kernel
theorem jlq_164 : ∀ pc r, jP 164 pc = some r → jlo r.1 r.2 = true := fun pc r h => jLV_ok jlv_164 (jV_out (fun _ => rfl)) pc r h
set_option maxRecDepth 100000 in
theorem jlv_165 : jLV jP_165 131 = true := by decide +kernel
theorem jlq_165 : ∀ pc r, jP 165 pc = some r → jlo r.1 r.2 = true := fun pc r h => jLV_ok jlv_165 (jV_out (fun _ => rfl)) pc r h
set_option maxRecDepth 100000 in
theorem jlv_166 : jLV jP_166 104 = true := by decide +kernel
theorem jlq_166 : ∀ pc r, jP 166 pc = some r → jlo r.1 r.2 = true := fun pc r h => jLV_ok jlv_166 (jV_out (fun _ => rfl)) pc r h
set_option maxRecDepth 100000 in
theorem jlv_167 : jLV jP_167 41 = true := by decide +kernel
theorem jlq_167 : ∀ pc r, jP 167 pc = some r → jlo r.1 r.2 = true := fun pc r h => jLV_ok jlv_167 (jV_out (fun _ => rfl)) pc r h
set_option maxRecDepth 100000 in
theorem jlv_168 : jLV jP_168 32 = true := by decide +kernel
theorem jlq_168 : ∀ pc r, jP 168 pc = some r → jlo r.1 r.2 = true := fun pc r h => jLV_ok jlv_168 (jV_out (fun _ => rfl)) pc r h
set_option maxRecDepth 100000 in
theorem jlv_169 : jLV jP_169 31 = true := by decide +kernel
theorem jlq_169 : ∀ pc r, jP 169 pc = some r → jlo r.1 r.2 = true := fun pc r h => jLV_ok jlv_169 (jV_out (fun _ => rfl)) pc r h
set_option maxRecDepth 100000 in
theorem jlv_170 : jLV jP_170 97 = true := by decide +kernel
theorem jlq_170 : ∀ pc r, jP 170 pc = some r → jlo r.1 r.2 = true := fun pc r h => jLV_ok jlv_170 (jV_out (fun _ => rfl)) pc r h
set_option maxRecDepth 100000 in
theorem jlv_171 : jLV jP_171 52 = true := by decide +kernel
theorem jlq_171 : ∀ pc r, jP 171 pc = some r → jlo r.1 r.2 = true := fun pc r h => jLV_ok jlv_171 (jV_out (fun _ => rfl)) pc r h
set_option maxRecDepth 100000 in
theorem jlv_172 : jLV jP_172 48 = true := by decide +kernel
theorem jlq_172 : ∀ pc r, jP 172 pc = some r → jlo r.1 r.2 = true := fun pc r h => jLV_ok jlv_172 (jV_out (fun _ => rfl)) pc r h
set_option maxRecDepth 100000 in
theorem jlv_173 : jLV jP_173 37 = true := by decide +kernel
theorem jlq_173 : ∀ pc r, jP 173 pc = some r → jlo r.1 r.2 = true := fun pc r h => jLV_ok jlv_173 (jV_out (fun _ => rfl)) pc r h
set_option maxRecDepth 100000 in
theorem jlv_174 : jLV jP_174 29 = true := by decide +kernel
theorem jlq_174 : ∀ pc r, jP 174 pc = some r → jlo r.1 r.2 = true := fun pc r h => jLV_ok jlv_174 (jV_out (fun _ => rfl)) pc r h
set_option maxRecDepth 100000 in
theorem jlv_175 : jLV jP_175 41 = true := by decide +kernel
theorem jlq_175 : ∀ pc r, jP 175 pc = some r → jlo r.1 r.2 = true := fun pc r h => jLV_ok jlv_175 (jV_out (fun _ => rfl)) pc r h
set_option maxRecDepth 100000 in
theorem jlv_176 : jLV jP_176 53 = true := by decide +kernel
theorem jlq_176 : ∀ pc r, jP 176 pc = some r → jlo r.1 r.2 = true := fun pc r h => jLV_ok jlv_176 (jV_out (fun _ => rfl)) pc r h
set_option maxRecDepth 100000 in
theorem jlv_177 : jLV jP_177 126 = true := by decide +kernel
theorem jlq_177 : ∀ pc r, jP 177 pc = some r → jlo r.1 r.2 = true := fun pc r h => jLV_ok jlv_177 (jV_out (fun _ => rfl)) pc r h
set_option maxRecDepth 100000 in
theorem jlv_178 : jLV jP_178 217 = true := by decide +kernel
theorem jlq_178 : ∀ pc r, jP 178 pc = some r → jlo r.1 r.2 = true := fun pc r h => jLV_ok jlv_178 (jV_out (fun _ => rfl)) pc r h
set_option maxRecDepth 100000 in
theorem jlv_179 : jLV jP_179 34 = true := by decide +kernel
theorem jlq_179 : ∀ pc r, jP 179 pc = some r → jlo r.1 r.2 = true := fun pc r h => jLV_ok jlv_179 (jV_out (fun _ => rfl)) pc r h
set_option maxRecDepth 100000 in
theorem jlv_180 : jLV jP_180 146 = true := by decide +kernel
theorem jlq_180 : ∀ pc r, jP 180 pc = some r → jlo r.1 r.2 = true := fun pc r h => jLV_ok jlv_180 (jV_out (fun _ => rfl)) pc r h
set_option maxRecDepth 100000 in
theorem jlv_181 : jLV jP_181 149 = true := by decide +kernel
theorem jlq_181 : ∀ pc r, jP 181 pc = some r → jlo r.1 r.2 = true := fun pc r h => jLV_ok jlv_181 (jV_out (fun _ => rfl)) pc r h
set_option maxRecDepth 100000 in
theorem jlv_182 : jLV jP_182 17 = true := by decide +kernel
theorem jlq_182 : ∀ pc r, jP 182 pc = some r → jlo r.1 r.2 = true := fun pc r h => jLV_ok jlv_182 (jV_out (fun _ => rfl)) pc r h
set_option maxRecDepth 100000 in
theorem jlv_183 : jLV jP_183 73 = true := by decide +kernel
theorem jlq_183 : ∀ pc r, jP 183 pc = some r → jlo r.1 r.2 = true := fun pc r h => jLV_ok jlv_183 (jV_out (fun _ => rfl)) pc r h
set_option maxRecDepth 100000 in
theorem jlv_184 : jLV jP_184 158 = true := by decide +kernel
theorem jlq_184 : ∀ pc r, jP 184 pc = some r → jlo r.1 r.2 = true := fun pc r h => jLV_ok jlv_184 (jV_out (fun _ => rfl)) pc r h
set_option maxRecDepth 100000 in
theorem jlv_185 : jLV jP_185 41 = true := by decide +kernel
theorem jlq_185 : ∀ pc r, jP 185 pc = some r → jlo r.1 r.2 = true := fun pc r h => jLV_ok jlv_185 (jV_out (fun _ => rfl)) pc r h
set_option maxRecDepth 100000 in
theorem jlv_186 : jLV jP_186 38 = true := by decide +kernel
theorem jlq_186 : ∀ pc r, jP 186 pc = some r → jlo r.1 r.2 = true := fun pc r h => jLV_ok jlv_186 (jV_out (fun _ => rfl)) pc r h
set_option maxRecDepth 100000 in
theorem jlv_187 : jLV jP_187 48 = true := by decide +kernel
theorem jlq_187 : ∀ pc r, jP 187 pc = some r → jlo r.1 r.2 = true := fun pc r h => jLV_ok jlv_187 (jV_out (fun _ => rfl)) pc r h
set_option maxRecDepth 100000 in
theorem jlv_188 : jLV jP_188 75 = true := by decide +kernel
theorem jlq_188 : ∀ pc r, jP 188 pc = some r → jlo r.1 r.2 = true := fun pc r h => jLV_ok jlv_188 (jV_out (fun _ => rfl)) pc r h
set_option maxRecDepth 100000 in
theorem jlv_189 : jLV jP_189 55 = true := by decide +kernel
theorem jlq_189 : ∀ pc r, jP 189 pc = some r → jlo r.1 r.2 = true := fun pc r h => jLV_ok jlv_189 (jV_out (fun _ => rfl)) pc r h
set_option maxRecDepth 100000 in
theorem jlv_190 : jLV jP_190 207 = true := by decide +kernel
theorem jlq_190 : ∀ pc r, jP 190 pc = some r → jlo r.1 r.2 = true := fun pc r h => jLV_ok jlv_190 (jV_out (fun _ => rfl)) pc r h
set_option maxRecDepth 100000 in
theorem jlv_191 : jLV jP_191 222 = true := by decide +kernel
theorem jlq_191 : ∀ pc r, jP 191 pc = some r → jlo r.1 r.2 = true := fun pc r h => jLV_ok jlv_191 (jV_out (fun _ => rfl)) pc r h
set_option maxRecDepth 100000 in
theorem jlv_192 : jLV jP_192 156 = true := by decide +kernel
theorem jlq_192 : ∀ pc r, jP 192 pc = some r → jlo r.1 r.2 = true := fun pc r h => jLV_ok jlv_192 (jV_out (fun _ => rfl)) pc r h
set_option maxRecDepth 100000 in
theorem jlv_193 : jLV jP_193 62 = true := by decide +kernel
theorem jlq_193 : ∀ pc r, jP 193 pc = some r → jlo r.1 r.2 = true := fun pc r h => jLV_ok jlv_193 (jV_out (fun _ => rfl)) pc r h
set_option maxRecDepth 100000 in
theorem jlv_194 : jLV jP_194 110 = true := by decide +kernel
theorem jlq_194 : ∀ pc r, jP 194 pc = some r → jlo r.1 r.2 = true := fun pc r h => jLV_ok jlv_194 (jV_out (fun _ => rfl)) pc r h
set_option maxRecDepth 100000 in
theorem jlv_195 : jLV jP_195 115 = true := by decide +kernel
theorem jlq_195 : ∀ pc r, jP 195 pc = some r → jlo r.1 r.2 = true := fun pc r h => jLV_ok jlv_195 (jV_out (fun _ => rfl)) pc r h
set_option maxRecDepth 100000 in
theorem jlv_196 : jLV jP_196 12 = true := by decide +kernel
theorem jlq_196 : ∀ pc r, jP 196 pc = some r → jlo r.1 r.2 = true := fun pc r h => jLV_ok jlv_196 (jV_out (fun _ => rfl)) pc r h
set_option maxRecDepth 100000 in
theorem jlv_197 : jLV jP_197 95 = true := by decide +kernel
theorem jlq_197 : ∀ pc r, jP 197 pc = some r → jlo r.1 r.2 = true := fun pc r h => jLV_ok jlv_197 (jV_out (fun _ => rfl)) pc r h
set_option maxRecDepth 100000 in
theorem jlv_198 : jLV jP_198 43 = true := by decide +kernel
theorem jlq_198 : ∀ pc r, jP 198 pc = some r → jlo r.1 r.2 = true := fun pc r h => jLV_ok jlv_198 (jV_out (fun _ => rfl)) pc r h
set_option maxRecDepth 100000 in
theorem jlv_199 : jLV jP_199 220 = true := by decide +kernel
theorem jlq_199 : ∀ pc r, jP 199 pc = some r → jlo r.1 r.2 = true := fun pc r h => jLV_ok jlv_199 (jV_out (fun _ => rfl)) pc r h
set_option maxRecDepth 100000 in
theorem jlv_200 : jLV jP_200 33 = true := by decide +kernel
theorem jlq_200 : ∀ pc r, jP 200 pc = some r → jlo r.1 r.2 = true := fun pc r h => jLV_ok jlv_200 (jV_out (fun _ => rfl)) pc r h
set_option maxRecDepth 100000 in
theorem jlv_201 : jLV jP_201 33 = true := by decide +kernel
theorem jlq_201 : ∀ pc r, jP 201 pc = some r → jlo r.1 r.2 = true := fun pc r h => jLV_ok jlv_201 (jV_out (fun _ => rfl)) pc r h
set_option maxRecDepth 100000 in
theorem jlv_202 : jLV jP_202 34 = true := by decide +kernel
theorem jlq_202 : ∀ pc r, jP 202 pc = some r → jlo r.1 r.2 = true := fun pc r h => jLV_ok jlv_202 (jV_out (fun _ => rfl)) pc r h
set_option maxRecDepth 100000 in
theorem jlv_203 : jLV jP_203 23 = true := by decide +kernel
theorem jlq_203 : ∀ pc r, jP 203 pc = some r → jlo r.1 r.2 = true := fun pc r h => jLV_ok jlv_203 (jV_out (fun _ => rfl)) pc r h
set_option maxRecDepth 100000 in
theorem jlv_204 : jLV jP_204 191 = true := by decide +kernel
theorem jlq_204 : ∀ pc r, jP 204 pc = some r → jlo r.1 r.2 = true := fun pc r h => jLV_ok jlv_204 (jV_out (fun _ => rfl)) pc r h
set_option maxRecDepth 100000 in
theorem jlv_205 : jLV jP_205 160 = true := by decide +kernel
theorem jlq_205 : ∀ pc r, jP 205 pc = some r → jlo r.1 r.2 = true := fun pc r h => jLV_ok jlv_205 (jV_out (fun _ => rfl)) pc r h
set_option maxRecDepth 100000 in
theorem jlv_206 : jLV jP_206 20 = true := by decide +kernel
theorem jlq_206 : ∀ pc r, jP 206 pc = some r → jlo r.1 r.2 = true := fun pc r h => jLV_ok jlv_206 (jV_out (fun _ => rfl)) pc r h
set_option maxRecDepth 100000 in
theorem jlv_207 : jLV jP_207 53 = true := by decide +kernel
theorem jlq_207 : ∀ pc r, jP 207 pc = some r → jlo r.1 r.2 = true := fun pc r h => jLV_ok jlv_207 (jV_out (fun _ => rfl)) pc r h
set_option maxRecDepth 100000 in
theorem jlv_208 : jLV jP_208 11 = true := by decide +kernel
theorem jlq_208 : ∀ pc r, jP 208 pc = some r → jlo r.1 r.2 = true := fun pc r h => jLV_ok jlv_208 (jV_out (fun _ => rfl)) pc r h
set_option maxRecDepth 100000 in
theorem jlv_209 : jLV jP_209 11 = true := by decide +kernel
theorem jlq_209 : ∀ pc r, jP 209 pc = some r → jlo r.1 r.2 = true := fun pc r h => jLV_ok jlv_209 (jV_out (fun _ => rfl)) pc r h
set_option maxRecDepth 100000 in
theorem jlv_210 : jLV jP_210 11 = true := by decide +kernel
theorem jlq_210 : ∀ pc r, jP 210 pc = some r → jlo r.1 r.2 = true := fun pc r h => jLV_ok jlv_210 (jV_out (fun _ => rfl)) pc r h
set_option maxRecDepth 100000 in
theorem jlv_211 : jLV jP_211 25 = true := by decide +kernel
theorem jlq_211 : ∀ pc r, jP 211 pc = some r → jlo r.1 r.2 = true := fun pc r h => jLV_ok jlv_211 (jV_out (fun _ => rfl)) pc r h
set_option maxRecDepth 100000 in
theorem jlv_212 : jLV jP_212 15 = true := by decide +kernel
theorem jlq_212 : ∀ pc r, jP 212 pc = some r → jlo r.1 r.2 = true := fun pc r h => jLV_ok jlv_212 (jV_out (fun _ => rfl)) pc r h
set_option maxRecDepth 100000 in
theorem jlv_213 : jLV jP_213 19 = true := by decide +kernel
theorem jlq_213 : ∀ pc r, jP 213 pc = some r → jlo r.1 r.2 = true := fun pc r h => jLV_ok jlv_213 (jV_out (fun _ => rfl)) pc r h
set_option maxRecDepth 100000 in
theorem jlv_214 : jLV jP_214 10 = true := by decide +kernel
theorem jlq_214 : ∀ pc r, jP 214 pc = some r → jlo r.1 r.2 = true := fun pc r h => jLV_ok jlv_214 (jV_out (fun _ => rfl)) pc r h
set_option maxRecDepth 100000 in
theorem jlv_215 : jLV jP_215 15 = true := by decide +kernel
theorem jlq_215 : ∀ pc r, jP 215 pc = some r → jlo r.1 r.2 = true := fun pc r h => jLV_ok jlv_215 (jV_out (fun _ => rfl)) pc r h
set_option maxRecDepth 100000 in
theorem jlv_216 : jLV jP_216 18 = true := by decide +kernel
theorem jlq_216 : ∀ pc r, jP 216 pc = some r → jlo r.1 r.2 = true := fun pc r h => jLV_ok jlv_216 (jV_out (fun _ => rfl)) pc r h
set_option maxRecDepth 100000 in
theorem jlv_217 : jLV jP_217 1084 = true := by decide +kernel
theorem jlq_217 : ∀ pc r, jP 217 pc = some r → jlo r.1 r.2 = true := fun pc r h => jLV_ok jlv_217 (jV_out (fun _ => rfl)) pc r h
theorem jlqs_0 : ∀ mi ∈ jIx_0, ∀ pc r, jP mi pc = some r → jlo r.1 r.2 = true := List.forall_mem_cons.mpr ⟨jlq_0, List.forall_mem_cons.mpr ⟨jlq_1, List.forall_mem_cons.mpr ⟨jlq_2, List.forall_mem_cons.mpr ⟨jlq_3, List.forall_mem_cons.mpr ⟨jlq_4, List.forall_mem_cons.mpr ⟨jlq_5, List.forall_mem_cons.mpr ⟨jlq_6, List.forall_mem_cons.mpr ⟨jlq_7, List.forall_mem_cons.mpr ⟨jlq_8, List.forall_mem_cons.mpr ⟨jlq_9, List.forall_mem_cons.mpr ⟨jlq_10, List.forall_mem_cons.mpr ⟨jlq_11, List.forall_mem_cons.mpr ⟨jlq_12, List.forall_mem_cons.mpr ⟨jlq_13, List.forall_mem_cons.mpr ⟨jlq_14, List.forall_mem_cons.mpr ⟨jlq_15, List.forall_mem_cons.mpr ⟨jlq_16, List.forall_mem_cons.mpr ⟨jlq_17, List.forall_mem_cons.mpr ⟨jlq_18, List.forall_mem_cons.mpr ⟨jlq_19, List.forall_mem_cons.mpr ⟨jlq_20, List.forall_mem_cons.mpr ⟨jlq_21, List.forall_mem_cons.mpr ⟨jlq_22, List.forall_mem_cons.mpr ⟨jlq_23, List.forall_mem_cons.mpr ⟨jlq_24, List.forall_mem_cons.mpr ⟨jlq_25, List.forall_mem_cons.mpr ⟨jlq_26, List.forall_mem_cons.mpr ⟨jlq_27, List.forall_mem_cons.mpr ⟨jlq_28, List.forall_mem_cons.mpr ⟨jlq_29, List.forall_mem_cons.mpr ⟨jlq_30, List.forall_mem_cons.mpr ⟨jlq_31, List.forall_mem_cons.mpr ⟨jlq_32, List.forall_mem_cons.mpr ⟨jlq_33, List.forall_mem_cons.mpr ⟨jlq_34, List.forall_mem_cons.mpr ⟨jlq_35, List.forall_mem_cons.mpr ⟨jlq_36, List.forall_mem_cons.mpr ⟨jlq_37, List.forall_mem_cons.mpr ⟨jlq_38, List.forall_mem_cons.mpr ⟨jlq_39, fun _ h => absurd h List.not_mem_nil⟩⟩⟩⟩⟩⟩⟩⟩⟩⟩⟩⟩⟩⟩⟩⟩⟩⟩⟩⟩⟩⟩⟩⟩⟩⟩⟩⟩⟩⟩⟩⟩⟩⟩⟩⟩⟩⟩⟩⟩
theorem jlqs_1 : ∀ mi ∈ jIx_1, ∀ pc r, jP mi pc = some r → jlo r.1 r.2 = true := List.forall_mem_cons.mpr ⟨jlq_40, List.forall_mem_cons.mpr ⟨jlq_41, List.forall_mem_cons.mpr ⟨jlq_42, List.forall_mem_cons.mpr ⟨jlq_43, List.forall_mem_cons.mpr ⟨jlq_44, List.forall_mem_cons.mpr ⟨jlq_45, List.forall_mem_cons.mpr ⟨jlq_46, List.forall_mem_cons.mpr ⟨jlq_47, List.forall_mem_cons.mpr ⟨jlq_48, List.forall_mem_cons.mpr ⟨jlq_49, List.forall_mem_cons.mpr ⟨jlq_50, List.forall_mem_cons.mpr ⟨jlq_51, List.forall_mem_cons.mpr ⟨jlq_52, List.forall_mem_cons.mpr ⟨jlq_53, List.forall_mem_cons.mpr ⟨jlq_54, List.forall_mem_cons.mpr ⟨jlq_55, List.forall_mem_cons.mpr ⟨jlq_56, List.forall_mem_cons.mpr ⟨jlq_57, List.forall_mem_cons.mpr ⟨jlq_58, List.forall_mem_cons.mpr ⟨jlq_59, List.forall_mem_cons.mpr ⟨jlq_60, List.forall_mem_cons.mpr ⟨jlq_61, List.forall_mem_cons.mpr ⟨jlq_62, List.forall_mem_cons.mpr ⟨jlq_63, List.forall_mem_cons.mpr ⟨jlq_64, List.forall_mem_cons.mpr ⟨jlq_65, List.forall_mem_cons.mpr ⟨jlq_66, List.forall_mem_cons.mpr ⟨jlq_67, List.forall_mem_cons.mpr ⟨jlq_68, List.forall_mem_cons.mpr ⟨jlq_69, List.forall_mem_cons.mpr ⟨jlq_70, List.forall_mem_cons.mpr ⟨jlq_71, List.forall_mem_cons.mpr ⟨jlq_72, List.forall_mem_cons.mpr ⟨jlq_73, List.forall_mem_cons.mpr ⟨jlq_74, List.forall_mem_cons.mpr ⟨jlq_75, List.forall_mem_cons.mpr ⟨jlq_76, List.forall_mem_cons.mpr ⟨jlq_77, List.forall_mem_cons.mpr ⟨jlq_78, List.forall_mem_cons.mpr ⟨jlq_79, fun _ h => absurd h List.not_mem_nil⟩⟩⟩⟩⟩⟩⟩⟩⟩⟩⟩⟩⟩⟩⟩⟩⟩⟩⟩⟩⟩⟩⟩⟩⟩⟩⟩⟩⟩⟩⟩⟩⟩⟩⟩⟩⟩⟩⟩⟩
theorem jlqs_2 : ∀ mi ∈ jIx_2, ∀ pc r, jP mi pc = some r → jlo r.1 r.2 = true := List.forall_mem_cons.mpr ⟨jlq_80, List.forall_mem_cons.mpr ⟨jlq_81, List.forall_mem_cons.mpr ⟨jlq_82, List.forall_mem_cons.mpr ⟨jlq_83, List.forall_mem_cons.mpr ⟨jlq_84, List.forall_mem_cons.mpr ⟨jlq_85, List.forall_mem_cons.mpr ⟨jlq_86, List.forall_mem_cons.mpr ⟨jlq_87, List.forall_mem_cons.mpr ⟨jlq_88, List.forall_mem_cons.mpr ⟨jlq_89, List.forall_mem_cons.mpr ⟨jlq_90, List.forall_mem_cons.mpr ⟨jlq_91, List.forall_mem_cons.mpr ⟨jlq_92, List.forall_mem_cons.mpr ⟨jlq_93, List.forall_mem_cons.mpr ⟨jlq_94, List.forall_mem_cons.mpr ⟨jlq_95, List.forall_mem_cons.mpr ⟨jlq_96, List.forall_mem_cons.mpr ⟨jlq_97, List.forall_mem_cons.mpr ⟨jlq_98, List.forall_mem_cons.mpr ⟨jlq_99, List.forall_mem_cons.mpr ⟨jlq_100, List.forall_mem_cons.mpr ⟨jlq_101, List.forall_mem_cons.mpr ⟨jlq_102, List.forall_mem_cons.mpr ⟨jlq_103, List.forall_mem_cons.mpr ⟨jlq_104, List.forall_mem_cons.mpr ⟨jlq_105, List.forall_mem_cons.mpr ⟨jlq_106, List.forall_mem_cons.mpr ⟨jlq_107, List.forall_mem_cons.mpr ⟨jlq_108, List.forall_mem_cons.mpr ⟨jlq_109, List.forall_mem_cons.mpr ⟨jlq_110, List.forall_mem_cons.mpr ⟨jlq_111, List.forall_mem_cons.mpr ⟨jlq_112, List.forall_mem_cons.mpr ⟨jlq_113, List.forall_mem_cons.mpr ⟨jlq_114, List.forall_mem_cons.mpr ⟨jlq_115, List.forall_mem_cons.mpr ⟨jlq_116, List.forall_mem_cons.mpr ⟨jlq_117, List.forall_mem_cons.mpr ⟨jlq_118, List.forall_mem_cons.mpr ⟨jlq_119, fun _ h => absurd h List.not_mem_nil⟩⟩⟩⟩⟩⟩⟩⟩⟩⟩⟩⟩⟩⟩⟩⟩⟩⟩⟩⟩⟩⟩⟩⟩⟩⟩⟩⟩⟩⟩⟩⟩⟩⟩⟩⟩⟩⟩⟩⟩
theorem jlqs_3 : ∀ mi ∈ jIx_3, ∀ pc r, jP mi pc = some r → jlo r.1 r.2 = true := List.forall_mem_cons.mpr ⟨jlq_120, List.forall_mem_cons.mpr ⟨jlq_121, List.forall_mem_cons.mpr ⟨jlq_122, List.forall_mem_cons.mpr ⟨jlq_123, List.forall_mem_cons.mpr ⟨jlq_124, List.forall_mem_cons.mpr ⟨jlq_125, List.forall_mem_cons.mpr ⟨jlq_126, List.forall_mem_cons.mpr ⟨jlq_127, List.forall_mem_cons.mpr ⟨jlq_128, List.forall_mem_cons.mpr ⟨jlq_129, List.forall_mem_cons.mpr ⟨jlq_130, List.forall_mem_cons.mpr ⟨jlq_131, List.forall_mem_cons.mpr ⟨jlq_132, List.forall_mem_cons.mpr ⟨jlq_133, List.forall_mem_cons.mpr ⟨jlq_134, List.forall_mem_cons.mpr ⟨jlq_135, List.forall_mem_cons.mpr ⟨jlq_136, List.forall_mem_cons.mpr ⟨jlq_137, List.forall_mem_cons.mpr ⟨jlq_138, List.forall_mem_cons.mpr ⟨jlq_139, List.forall_mem_cons.mpr ⟨jlq_140, List.forall_mem_cons.mpr ⟨jlq_141, List.forall_mem_cons.mpr ⟨jlq_142, List.forall_mem_cons.mpr ⟨jlq_143, List.forall_mem_cons.mpr ⟨jlq_144, List.forall_mem_cons.mpr ⟨jlq_145, List.forall_mem_cons.mpr ⟨jlq_146, List.forall_mem_cons.mpr ⟨jlq_147, List.forall_mem_cons.mpr ⟨jlq_148, List.forall_mem_cons.mpr ⟨jlq_149, List.forall_mem_cons.mpr ⟨jlq_150, List.forall_mem_cons.mpr ⟨jlq_151, List.forall_mem_cons.mpr ⟨jlq_152, List.forall_mem_cons.mpr ⟨jlq_153, List.forall_mem_cons.mpr ⟨jlq_154, List.forall_mem_cons.mpr ⟨jlq_155, List.forall_mem_cons.mpr ⟨jlq_156, List.forall_mem_cons.mpr ⟨jlq_157, List.forall_mem_cons.mpr ⟨jlq_158, List.forall_mem_cons.mpr ⟨jlq_159, fun _ h => absurd h List.not_mem_nil⟩⟩⟩⟩⟩⟩⟩⟩⟩⟩⟩⟩⟩⟩⟩⟩⟩⟩⟩⟩⟩⟩⟩⟩⟩⟩⟩⟩⟩⟩⟩⟩⟩⟩⟩⟩⟩⟩⟩⟩
theorem jlqs_4 : ∀ mi ∈ jIx_4, ∀ pc r, jP mi pc = some r → jlo r.1 r.2 = true := List.forall_mem_cons.mpr ⟨jlq_160, List.forall_mem_cons.mpr ⟨jlq_161, List.forall_mem_cons.mpr ⟨jlq_162, List.forall_mem_cons.mpr ⟨jlq_163, List.forall_mem_cons.mpr ⟨jlq_164, List.forall_mem_cons.mpr ⟨jlq_165, List.forall_mem_cons.mpr ⟨jlq_166, List.forall_mem_cons.mpr ⟨jlq_167, List.forall_mem_cons.mpr ⟨jlq_168, List.forall_mem_cons.mpr ⟨jlq_169, List.forall_mem_cons.mpr ⟨jlq_170, List.forall_mem_cons.mpr ⟨jlq_171, List.forall_mem_cons.mpr ⟨jlq_172, List.forall_mem_cons.mpr ⟨jlq_173, List.forall_mem_cons.mpr ⟨jlq_174, List.forall_mem_cons.mpr ⟨jlq_175, List.forall_mem_cons.mpr ⟨jlq_176, List.forall_mem_cons.mpr ⟨jlq_177, List.forall_mem_cons.mpr ⟨jlq_178, List.forall_mem_cons.mpr ⟨jlq_179, List.forall_mem_cons.mpr ⟨jlq_180, List.forall_mem_cons.mpr ⟨jlq_181, List.forall_mem_cons.mpr ⟨jlq_182, List.forall_mem_cons.mpr ⟨jlq_183, List.forall_mem_cons.mpr ⟨jlq_184, List.forall_mem_cons.mpr ⟨jlq_185, List.forall_mem_cons.mpr ⟨jlq_186, List.forall_mem_cons.mpr ⟨jlq_187, List.forall_mem_cons.mpr ⟨jlq_188, List.forall_mem_cons.mpr ⟨jlq_189, List.forall_mem_cons.mpr ⟨jlq_190, List.forall_mem_cons.mpr ⟨jlq_191, List.forall_mem_cons.mpr ⟨jlq_192, List.forall_mem_cons.mpr ⟨jlq_193, List.forall_mem_cons.mpr ⟨jlq_194, List.forall_mem_cons.mpr ⟨jlq_195, List.forall_mem_cons.mpr ⟨jlq_196, List.forall_mem_cons.mpr ⟨jlq_197, List.forall_mem_cons.mpr ⟨jlq_198, List.forall_mem_cons.mpr ⟨jlq_199, fun _ h => absurd h List.not_mem_nil⟩⟩⟩⟩⟩⟩⟩⟩⟩⟩⟩⟩⟩⟩⟩⟩⟩⟩⟩⟩⟩⟩⟩⟩⟩⟩⟩⟩⟩⟩⟩⟩⟩⟩⟩⟩⟩⟩⟩⟩
theorem jlqs_5 : ∀ mi ∈ jIx_5, ∀ pc r, jP mi pc = some r → jlo r.1 r.2 = true := List.forall_mem_cons.mpr ⟨jlq_200, List.forall_mem_cons.mpr ⟨jlq_201, List.forall_mem_cons.mpr ⟨jlq_202, List.forall_mem_cons.mpr ⟨jlq_203, List.forall_mem_cons.mpr ⟨jlq_204, List.forall_mem_cons.mpr ⟨jlq_205, List.forall_mem_cons.mpr ⟨jlq_206, List.forall_mem_cons.mpr ⟨jlq_207, List.forall_mem_cons.mpr ⟨jlq_208, List.forall_mem_cons.mpr ⟨jlq_209, List.forall_mem_cons.mpr ⟨jlq_210, List.forall_mem_cons.mpr ⟨jlq_211, List.forall_mem_cons.mpr ⟨jlq_212, List.forall_mem_cons.mpr ⟨jlq_213, List.forall_mem_cons.mpr ⟨jlq_214, List.forall_mem_cons.mpr ⟨jlq_215, List.forall_mem_cons.mpr ⟨jlq_216, List.forall_mem_cons.mpr ⟨jlq_217, fun _ h => absurd h List.not_mem_nil⟩⟩⟩⟩⟩⟩⟩⟩⟩⟩⟩⟩⟩⟩⟩⟩⟩⟩
theorem jlo_ok (mi pc : Nat) (r : Instr × Nat) (h : jP mi pc = some r) : jlo r.1 r.2 = true := by
  rcases Nat.lt_or_ge mi 218 with hl | hl
  · rcases jIx_all mi hl with q | q | q | q | q | q
    · exact jlqs_0 mi q pc r h
    · exact jlqs_1 mi q pc r h
    · exact jlqs_2 mi q pc r h
    · exact jlqs_3 mi q pc r h
    · exact jlqs_4 mi q pc r h
    · exact jlqs_5 mi q pc r h
  · have h0 : jP mi pc = none := by unfold jP; rw [show Nat.ble 218 mi = true from Nat.ble_eq.mpr hl]; rfl
    rw [h0] at h; cases h
