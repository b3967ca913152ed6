/-! the tables agree with the code: a program decides, a row a method -/
set_option maxRecDepth 100000 in
theorem ck_0 : chkAll 0 16 tr_0 = true := by decide +kernel
theorem ok_0 : ∀ e pc, tr_0 pc = some e → chk 0 pc e = true := chkAll_ok ck_0 (fun pc h => by show (bif Nat.ble 16 pc then none else _) = none; rw [Nat.ble_eq_true_of_le h]; rfl)
set_option maxRecDepth 100000 in
theorem ck_1 : chkAll 1 24 tr_1 = true := by decide +kernel
theorem ok_1 : ∀ e pc, tr_1 pc = some e → chk 1 pc e = true := chkAll_ok ck_1 (fun pc h => by show (bif Nat.ble 24 pc then none else _) = none; rw [Nat.ble_eq_true_of_le h]; rfl)
set_option maxRecDepth 100000 in
theorem ck_2 : chkAll 2 21 tr_2 = true := by decide +kernel
theorem ok_2 : ∀ e pc, tr_2 pc = some e → chk 2 pc e = true := chkAll_ok ck_2 (fun pc h => by show (bif Nat.ble 21 pc then none else _) = none; rw [Nat.ble_eq_true_of_le h]; rfl)
set_option maxRecDepth 100000 in
theorem ck_3 : chkAll 3 29 tr_3 = true := by decide +kernel
theorem ok_3 : ∀ e pc, tr_3 pc = some e → chk 3 pc e = true := chkAll_ok ck_3 (fun pc h => by show (bif Nat.ble 29 pc then none else _) = none; rw [Nat.ble_eq_true_of_le h]; rfl)
set_option maxRecDepth 100000 in
theorem ck_4 : chkAll 4 49 tr_4 = true := by decide +kernel
theorem ok_4 : ∀ e pc, tr_4 pc = some e → chk 4 pc e = true := chkAll_ok ck_4 (fun pc h => by show (bif Nat.ble 49 pc then none else _) = none; rw [Nat.ble_eq_true_of_le h]; rfl)
set_option maxRecDepth 100000 in
theorem ck_5 : chkAll 5 6 tr_5 = true := by decide +kernel
theorem ok_5 : ∀ e pc, tr_5 pc = some e → chk 5 pc e = true := chkAll_ok ck_5 (fun pc h => by show (bif Nat.ble 6 pc then none else _) = none; rw [Nat.ble_eq_true_of_le h]; rfl)
set_option maxRecDepth 100000 in
theorem ck_6 : chkAll 6 60 tr_6 = true := by decide +kernel
theorem ok_6 : ∀ e pc, tr_6 pc = some e → chk 6 pc e = true := chkAll_ok ck_6 (fun pc h => by show (bif Nat.ble 60 pc then none else _) = none; rw [Nat.ble_eq_true_of_le h]; rfl)
set_option maxRecDepth 100000 in
theorem ck_7 : chkAll 7 75 tr_7 = true := by decide +kernel
theorem ok_7 : ∀ e pc, tr_7 pc = some e → chk 7 pc e = true := chkAll_ok ck_7 (fun pc h => by show (bif Nat.ble 75 pc then none else _) = none; rw [Nat.ble_eq_true_of_le h]; rfl)
set_option maxRecDepth 100000 in
theorem ck_8 : chkAll 8 125 tr_8 = true := by decide +kernel
theorem ok_8 : ∀ e pc, tr_8 pc = some e → chk 8 pc e = true := chkAll_ok ck_8 (fun pc h => by show (bif Nat.ble 125 pc then none else _) = none; rw [Nat.ble_eq_true_of_le h]; rfl)
set_option maxRecDepth 100000 in
theorem ck_9 : chkAll 9 36 tr_9 = true := by decide +kernel
theorem ok_9 : ∀ e pc, tr_9 pc = some e → chk 9 pc e = true := chkAll_ok ck_9 (fun pc h => by show (bif Nat.ble 36 pc then none else _) = none; rw [Nat.ble_eq_true_of_le h]; rfl)
set_option maxRecDepth 100000 in
theorem ck_10 : chkAll 10 53 tr_10 = true := by decide +kernel
theorem ok_10 : ∀ e pc, tr_10 pc = some e → chk 10 pc e = true := chkAll_ok ck_10 (fun pc h => by show (bif Nat.ble 53 pc then none else _) = none; rw [Nat.ble_eq_true_of_le h]; rfl)
set_option maxRecDepth 100000 in
theorem ck_11 : chkAll 11 60 tr_11 = true := by decide +kernel
theorem ok_11 : ∀ e pc, tr_11 pc = some e → chk 11 pc e = true := chkAll_ok ck_11 (fun pc h => by show (bif Nat.ble 60 pc then none else _) = none; rw [Nat.ble_eq_true_of_le h]; rfl)
set_option maxRecDepth 100000 in
theorem ck_12 : chkAll 12 7 tr_12 = true := by decide +kernel
theorem ok_12 : ∀ e pc, tr_12 pc = some e → chk 12 pc e = true := chkAll_ok ck_12 (fun pc h => by show (bif Nat.ble 7 pc then none else _) = none; rw [Nat.ble_eq_true_of_le h]; rfl)
set_option maxRecDepth 100000 in
theorem ck_13 : chkAll 13 22 tr_13 = true := by decide +kernel
theorem ok_13 : ∀ e pc, tr_13 pc = some e → chk 13 pc e = true := chkAll_ok ck_13 (fun pc h => by show (bif Nat.ble 22 pc then none else _) = none; rw [Nat.ble_eq_true_of_le h]; rfl)
set_option maxRecDepth 100000 in
theorem ck_14 : chkAll 14 13 tr_14 = true := by decide +kernel
theorem ok_14 : ∀ e pc, tr_14 pc = some e → chk 14 pc e = true := chkAll_ok ck_14 (fun pc h => by show (bif Nat.ble 13 pc then none else _) = none; rw [Nat.ble_eq_true_of_le h]; rfl)
set_option maxRecDepth 100000 in
theorem ck_15 : chkAll 15 13 tr_15 = true := by decide +kernel
theorem ok_15 : ∀ e pc, tr_15 pc = some e → chk 15 pc e = true := chkAll_ok ck_15 (fun pc h => by show (bif Nat.ble 13 pc then none else _) = none; rw [Nat.ble_eq_true_of_le h]; rfl)
set_option maxRecDepth 100000 in
theorem ck_16 : chkAll 16 28 tr_16 = true := by decide +kernel
theorem ok_16 : ∀ e pc, tr_16 pc = some e → chk 16 pc e = true := chkAll_ok ck_16 (fun pc h => by show (bif Nat.ble 28 pc then none else _) = none; rw [Nat.ble_eq_true_of_le h]; rfl)
set_option maxRecDepth 100000 in
theorem ck_17 : chkAll 17 13 tr_17 = true := by decide +kernel
theorem ok_17 : ∀ e pc, tr_17 pc = some e → chk 17 pc e = true := chkAll_ok ck_17 (fun pc h => by show (bif Nat.ble 13 pc then none else _) = none; rw [Nat.ble_eq_true_of_le h]; rfl)
set_option maxRecDepth 100000 in
theorem ck_18 : chkAll 18 59 tr_18 = true := by decide +kernel
theorem ok_18 : ∀ e pc, tr_18 pc = some e → chk 18 pc e = true := chkAll_ok ck_18 (fun pc h => by show (bif Nat.ble 59 pc then none else _) = none; rw [Nat.ble_eq_true_of_le h]; rfl)
set_option maxRecDepth 100000 in
theorem ck_19 : chkAll 19 29 tr_19 = true := by decide +kernel
theorem ok_19 : ∀ e pc, tr_19 pc = some e → chk 19 pc e = true := chkAll_ok ck_19 (fun pc h => by show (bif Nat.ble 29 pc then none else _) = none; rw [Nat.ble_eq_true_of_le h]; rfl)
set_option maxRecDepth 100000 in
theorem ck_20 : chkAll 20 58 tr_20 = true := by decide +kernel
theorem ok_20 : ∀ e pc, tr_20 pc = some e → chk 20 pc e = true := chkAll_ok ck_20 (fun pc h => by show (bif Nat.ble 58 pc then none else _) = none; rw [Nat.ble_eq_true_of_le h]; rfl)
set_option maxRecDepth 100000 in
theorem ck_21 : chkAll 21 86 tr_21 = true := by decide +kernel
theorem ok_21 : ∀ e pc, tr_21 pc = some e → chk 21 pc e = true := chkAll_ok ck_21 (fun pc h => by show (bif Nat.ble 86 pc then none else _) = none; rw [Nat.ble_eq_true_of_le h]; rfl)
set_option maxRecDepth 100000 in
theorem ck_22 : chkAll 22 88 tr_22 = true := by decide +kernel
theorem ok_22 : ∀ e pc, tr_22 pc = some e → chk 22 pc e = true := chkAll_ok ck_22 (fun pc h => by show (bif Nat.ble 88 pc then none else _) = none; rw [Nat.ble_eq_true_of_le h]; rfl)
set_option maxRecDepth 100000 in
theorem ck_23 : chkAll 23 58 tr_23 = true := by decide +kernel
theorem ok_23 : ∀ e pc, tr_23 pc = some e → chk 23 pc e = true := chkAll_ok ck_23 (fun pc h => by show (bif Nat.ble 58 pc then none else _) = none; rw [Nat.ble_eq_true_of_le h]; rfl)
set_option maxRecDepth 100000 in
theorem ck_24 : chkAll 24 41 tr_24 = true := by decide +kernel
theorem ok_24 : ∀ e pc, tr_24 pc = some e → chk 24 pc e = true := chkAll_ok ck_24 (fun pc h => by show (bif Nat.ble 41 pc then none else _) = none; rw [Nat.ble_eq_true_of_le h]; rfl)
set_option maxRecDepth 100000 in
theorem ck_25 : chkAll 25 11 tr_25 = true := by decide +kernel
theorem ok_25 : ∀ e pc, tr_25 pc = some e → chk 25 pc e = true := chkAll_ok ck_25 (fun pc h => by show (bif Nat.ble 11 pc then none else _) = none; rw [Nat.ble_eq_true_of_le h]; rfl)
set_option maxRecDepth 100000 in
theorem ck_26 : chkAll 26 125 tr_26 = true := by decide +kernel
theorem ok_26 : ∀ e pc, tr_26 pc = some e → chk 26 pc e = true := chkAll_ok ck_26 (fun pc h => by show (bif Nat.ble 125 pc then none else _) = none; rw [Nat.ble_eq_true_of_le h]; rfl)
set_option maxRecDepth 100000 in
theorem ck_27 : chkAll 27 105 tr_27 = true := by decide +kernel
theorem ok_27 : ∀ e pc, tr_27 pc = some e → chk 27 pc e = true := chkAll_ok ck_27 (fun pc h => by show (bif Nat.ble 105 pc then none else _) = none; rw [Nat.ble_eq_true_of_le h]; rfl)
set_option maxRecDepth 100000 in
theorem ck_28 : chkAll 28 16 tr_28 = true := by decide +kernel
theorem ok_28 : ∀ e pc, tr_28 pc = some e → chk 28 pc e = true := chkAll_ok ck_28 (fun pc h => by show (bif Nat.ble 16 pc then none else _) = none; rw [Nat.ble_eq_true_of_le h]; rfl)
set_option maxRecDepth 100000 in
theorem ck_29 : chkAll 29 43 tr_29 = true := by decide +kernel
theorem ok_29 : ∀ e pc, tr_29 pc = some e → chk 29 pc e = true := chkAll_ok ck_29 (fun pc h => by show (bif Nat.ble 43 pc then none else _) = none; rw [Nat.ble_eq_true_of_le h]; rfl)
set_option maxRecDepth 100000 in
theorem ck_30 : chkAll 30 52 tr_30 = true := by decide +kernel
theorem ok_30 : ∀ e pc, tr_30 pc = some e → chk 30 pc e = true := chkAll_ok ck_30 (fun pc h => by show (bif Nat.ble 52 pc then none else _) = none; rw [Nat.ble_eq_true_of_le h]; rfl)
set_option maxRecDepth 100000 in
theorem ck_31 : chkAll 31 29 tr_31 = true := by decide +kernel
theorem ok_31 : ∀ e pc, tr_31 pc = some e → chk 31 pc e = true := chkAll_ok ck_31 (fun pc h => by show (bif Nat.ble 29 pc then none else _) = none; rw [Nat.ble_eq_true_of_le h]; rfl)
set_option maxRecDepth 100000 in
theorem ck_32 : chkAll 32 7 tr_32 = true := by decide +kernel
theorem ok_32 : ∀ e pc, tr_32 pc = some e → chk 32 pc e = true := chkAll_ok ck_32 (fun pc h => by show (bif Nat.ble 7 pc then none else _) = none; rw [Nat.ble_eq_true_of_le h]; rfl)
set_option maxRecDepth 100000 in
theorem ck_33 : chkAll 33 98 tr_33 = true := by decide +kernel
theorem ok_33 : ∀ e pc, tr_33 pc = some e → chk 33 pc e = true := chkAll_ok ck_33 (fun pc h => by show (bif Nat.ble 98 pc then none else _) = none; rw [Nat.ble_eq_true_of_le h]; rfl)
set_option maxRecDepth 100000 in
theorem ck_34 : chkAll 34 135 tr_34 = true := by decide +kernel
theorem ok_34 : ∀ e pc, tr_34 pc = some e → chk 34 pc e = true := chkAll_ok ck_34 (fun pc h => by show (bif Nat.ble 135 pc then none else _) = none; rw [Nat.ble_eq_true_of_le h]; rfl)
set_option maxRecDepth 100000 in
theorem ck_35 : chkAll 35 37 tr_35 = true := by decide +kernel
theorem ok_35 : ∀ e pc, tr_35 pc = some e → chk 35 pc e = true := chkAll_ok ck_35 (fun pc h => by show (bif Nat.ble 37 pc then none else _) = none; rw [Nat.ble_eq_true_of_le h]; rfl)
set_option maxRecDepth 100000 in
theorem ck_36 : chkAll 36 43 tr_36 = true := by decide +kernel
theorem ok_36 : ∀ e pc, tr_36 pc = some e → chk 36 pc e = true := chkAll_ok ck_36 (fun pc h => by show (bif Nat.ble 43 pc then none else _) = none; rw [Nat.ble_eq_true_of_le h]; rfl)
set_option maxRecDepth 100000 in
theorem ck_37 : chkAll 37 55 tr_37 = true := by decide +kernel
theorem ok_37 : ∀ e pc, tr_37 pc = some e → chk 37 pc e = true := chkAll_ok ck_37 (fun pc h => by show (bif Nat.ble 55 pc then none else _) = none; rw [Nat.ble_eq_true_of_le h]; rfl)
set_option maxRecDepth 100000 in
theorem ck_38 : chkAll 38 80 tr_38 = true := by decide +kernel
theorem ok_38 : ∀ e pc, tr_38 pc = some e → chk 38 pc e = true := chkAll_ok ck_38 (fun pc h => by show (bif Nat.ble 80 pc then none else _) = none; rw [Nat.ble_eq_true_of_le h]; rfl)
set_option maxRecDepth 100000 in
theorem ck_39 : chkAll 39 23 tr_39 = true := by decide +kernel
theorem ok_39 : ∀ e pc, tr_39 pc = some e → chk 39 pc e = true := chkAll_ok ck_39 (fun pc h => by show (bif Nat.ble 23 pc then none else _) = none; rw [Nat.ble_eq_true_of_le h]; rfl)
set_option maxRecDepth 100000 in
theorem ck_40 : chkAll 40 23 tr_40 = true := by decide +kernel
theorem ok_40 : ∀ e pc, tr_40 pc = some e → chk 40 pc e = true := chkAll_ok ck_40 (fun pc h => by show (bif Nat.ble 23 pc then none else _) = none; rw [Nat.ble_eq_true_of_le h]; rfl)
set_option maxRecDepth 100000 in
theorem ck_41 : chkAll 41 81 tr_41 = true := by decide +kernel
theorem ok_41 : ∀ e pc, tr_41 pc = some e → chk 41 pc e = true := chkAll_ok ck_41 (fun pc h => by show (bif Nat.ble 81 pc then none else _) = none; rw [Nat.ble_eq_true_of_le h]; rfl)
set_option maxRecDepth 100000 in
theorem ck_42 : chkAll 42 99 tr_42 = true := by decide +kernel
theorem ok_42 : ∀ e pc, tr_42 pc = some e → chk 42 pc e = true := chkAll_ok ck_42 (fun pc h => by show (bif Nat.ble 99 pc then none else _) = none; rw [Nat.ble_eq_true_of_le h]; rfl)
set_option maxRecDepth 100000 in
theorem ck_43 : chkAll 43 54 tr_43 = true := by decide +kernel
theorem ok_43 : ∀ e pc, tr_43 pc = some e → chk 43 pc e = true := chkAll_ok ck_43 (fun pc h => by show (bif Nat.ble 54 pc then none else _) = none; rw [Nat.ble_eq_true_of_le h]; rfl)
set_option maxRecDepth 100000 in
theorem ck_44 : chkAll 44 101 tr_44 = true := by decide +kernel
theorem ok_44 : ∀ e pc, tr_44 pc = some e → chk 44 pc e = true := chkAll_ok ck_44 (fun pc h => by show (bif Nat.ble 101 pc then none else _) = none; rw [Nat.ble_eq_true_of_le h]; rfl)
set_option maxRecDepth 100000 in
theorem ck_45 : chkAll 45 20 tr_45 = true := by decide +kernel
theorem ok_45 : ∀ e pc, tr_45 pc = some e → chk 45 pc e = true := chkAll_ok ck_45 (fun pc h => by show (bif Nat.ble 20 pc then none else _) = none; rw [Nat.ble_eq_true_of_le h]; rfl)
set_option maxRecDepth 100000 in
theorem ck_46 : chkAll 46 66 tr_46 = true := by decide +kernel
theorem ok_46 : ∀ e pc, tr_46 pc = some e → chk 46 pc e = true := chkAll_ok ck_46 (fun pc h => by show (bif Nat.ble 66 pc then none else _) = none; rw [Nat.ble_eq_true_of_le h]; rfl)
set_option maxRecDepth 100000 in
theorem ck_47 : chkAll 47 43 tr_47 = true := by decide +kernel
theorem ok_47 : ∀ e pc, tr_47 pc = some e → chk 47 pc e = true := chkAll_ok ck_47 (fun pc h => by show (bif Nat.ble 43 pc then none else _) = none; rw [Nat.ble_eq_true_of_le h]; rfl)
set_option maxRecDepth 100000 in
theorem ck_48 : chkAll 48 14 tr_48 = true := by decide +kernel
theorem ok_48 : ∀ e pc, tr_48 pc = some e → chk 48 pc e = true := chkAll_ok ck_48 (fun pc h => by show (bif Nat.ble 14 pc then none else _) = none; rw [Nat.ble_eq_true_of_le h]; rfl)
set_option maxRecDepth 100000 in
theorem ck_49 : chkAll 49 12 tr_49 = true := by decide +kernel
theorem ok_49 : ∀ e pc, tr_49 pc = some e → chk 49 pc e = true := chkAll_ok ck_49 (fun pc h => by show (bif Nat.ble 12 pc then none else _) = none; rw [Nat.ble_eq_true_of_le h]; rfl)
set_option maxRecDepth 100000 in
theorem ck_50 : chkAll 50 17 tr_50 = true := by decide +kernel
theorem ok_50 : ∀ e pc, tr_50 pc = some e → chk 50 pc e = true := chkAll_ok ck_50 (fun pc h => by show (bif Nat.ble 17 pc then none else _) = none; rw [Nat.ble_eq_true_of_le h]; rfl)
set_option maxRecDepth 100000 in
theorem ck_51 : chkAll 51 45 tr_51 = true := by decide +kernel
theorem ok_51 : ∀ e pc, tr_51 pc = some e → chk 51 pc e = true := chkAll_ok ck_51 (fun pc h => by show (bif Nat.ble 45 pc then none else _) = none; rw [Nat.ble_eq_true_of_le h]; rfl)
set_option maxRecDepth 100000 in
theorem ck_52 : chkAll 52 23 tr_52 = true := by decide +kernel
theorem ok_52 : ∀ e pc, tr_52 pc = some e → chk 52 pc e = true := chkAll_ok ck_52 (fun pc h => by show (bif Nat.ble 23 pc then none else _) = none; rw [Nat.ble_eq_true_of_le h]; rfl)
set_option maxRecDepth 100000 in
theorem ck_53 : chkAll 53 34 tr_53 = true := by decide +kernel
theorem ok_53 : ∀ e pc, tr_53 pc = some e → chk 53 pc e = true := chkAll_ok ck_53 (fun pc h => by show (bif Nat.ble 34 pc then none else _) = none; rw [Nat.ble_eq_true_of_le h]; rfl)
set_option maxRecDepth 100000 in
theorem ck_54 : chkAll 54 16 tr_54 = true := by decide +kernel
theorem ok_54 : ∀ e pc, tr_54 pc = some e → chk 54 pc e = true := chkAll_ok ck_54 (fun pc h => by show (bif Nat.ble 16 pc then none else _) = none; rw [Nat.ble_eq_true_of_le h]; rfl)
set_option maxRecDepth 100000 in
theorem ck_55 : chkAll 55 50 tr_55 = true := by decide +kernel
theorem ok_55 : ∀ e pc, tr_55 pc = some e → chk 55 pc e = true := chkAll_ok ck_55 (fun pc h => by show (bif Nat.ble 50 pc then none else _) = none; rw [Nat.ble_eq_true_of_le h]; rfl)
set_option maxRecDepth 100000 in
theorem ck_56 : chkAll 56 28 tr_56 = true := by decide +kernel
theorem ok_56 : ∀ e pc, tr_56 pc = some e → chk 56 pc e = true := chkAll_ok ck_56 (fun pc h => by show (bif Nat.ble 28 pc then none else _) = none; rw [Nat.ble_eq_true_of_le h]; rfl)
set_option maxRecDepth 100000 in
theorem ck_57 : chkAll 57 206 tr_57 = true := by decide +kernel
theorem ok_57 : ∀ e pc, tr_57 pc = some e → chk 57 pc e = true := chkAll_ok ck_57 (fun pc h => by show (bif Nat.ble 206 pc then none else _) = none; rw [Nat.ble_eq_true_of_le h]; rfl)
set_option maxRecDepth 100000 in
theorem ck_58 : chkAll 58 32 tr_58 = true := by decide +kernel
theorem ok_58 : ∀ e pc, tr_58 pc = some e → chk 58 pc e = true := chkAll_ok ck_58 (fun pc h => by show (bif Nat.ble 32 pc then none else _) = none; rw [Nat.ble_eq_true_of_le h]; rfl)
set_option maxRecDepth 100000 in
theorem ck_59 : chkAll 59 17 tr_59 = true := by decide +kernel
theorem ok_59 : ∀ e pc, tr_59 pc = some e → chk 59 pc e = true := chkAll_ok ck_59 (fun pc h => by show (bif Nat.ble 17 pc then none else _) = none; rw [Nat.ble_eq_true_of_le h]; rfl)
set_option maxRecDepth 100000 in
theorem ck_60 : chkAll 60 177 tr_60 = true := by decide +kernel
theorem ok_60 : ∀ e pc, tr_60 pc = some e → chk 60 pc e = true := chkAll_ok ck_60 (fun pc h => by show (bif Nat.ble 177 pc then none else _) = none; rw [Nat.ble_eq_true_of_le h]; rfl)
set_option maxRecDepth 100000 in
theorem ck_61 : chkAll 61 64 tr_61 = true := by decide +kernel
theorem ok_61 : ∀ e pc, tr_61 pc = some e → chk 61 pc e = true := chkAll_ok ck_61 (fun pc h => by show (bif Nat.ble 64 pc then none else _) = none; rw [Nat.ble_eq_true_of_le h]; rfl)
set_option maxRecDepth 100000 in
theorem ck_62 : chkAll 62 55 tr_62 = true := by decide +kernel
theorem ok_62 : ∀ e pc, tr_62 pc = some e → chk 62 pc e = true := chkAll_ok ck_62 (fun pc h => by show (bif Nat.ble 55 pc then none else _) = none; rw [Nat.ble_eq_true_of_le h]; rfl)
set_option maxRecDepth 100000 in
theorem ck_63 : chkAll 63 59 tr_63 = true := by decide +kernel
theorem ok_63 : ∀ e pc, tr_63 pc = some e → chk 63 pc e = true := chkAll_ok ck_63 (fun pc h => by show (bif Nat.ble 59 pc then none else _) = none; rw [Nat.ble_eq_true_of_le h]; rfl)
set_option maxRecDepth 100000 in
theorem ck_64 : chkAll 64 120 tr_64 = true := by decide +kernel
theorem ok_64 : ∀ e pc, tr_64 pc = some e → chk 64 pc e = true := chkAll_ok ck_64 (fun pc h => by show (bif Nat.ble 120 pc then none else _) = none; rw [Nat.ble_eq_true_of_le h]; rfl)
set_option maxRecDepth 100000 in
theorem ck_65 : chkAll 65 39 tr_65 = true := by decide +kernel
theorem ok_65 : ∀ e pc, tr_65 pc = some e → chk 65 pc e = true := chkAll_ok ck_65 (fun pc h => by show (bif Nat.ble 39 pc then none else _) = none; rw [Nat.ble_eq_true_of_le h]; rfl)
set_option maxRecDepth 100000 in
theorem ck_66 : chkAll 66 111 tr_66 = true := by decide +kernel
theorem ok_66 : ∀ e pc, tr_66 pc = some e → chk 66 pc e = true := chkAll_ok ck_66 (fun pc h => by show (bif Nat.ble 111 pc then none else _) = none; rw [Nat.ble_eq_true_of_le h]; rfl)
set_option maxRecDepth 100000 in
theorem ck_67 : chkAll 67 112 tr_67 = true := by decide +kernel
theorem ok_67 : ∀ e pc, tr_67 pc = some e → chk 67 pc e = true := chkAll_ok ck_67 (fun pc h => by show (bif Nat.ble 112 pc then none else _) = none; rw [Nat.ble_eq_true_of_le h]; rfl)
set_option maxRecDepth 100000 in
theorem ck_68 : chkAll 68 61 tr_68 = true := by decide +kernel
theorem ok_68 : ∀ e pc, tr_68 pc = some e → chk 68 pc e = true := chkAll_ok ck_68 (fun pc h => by show (bif Nat.ble 61 pc then none else _) = none; rw [Nat.ble_eq_true_of_le h]; rfl)
set_option maxRecDepth 100000 in
theorem ck_69 : chkAll 69 42 tr_69 = true := by decide +kernel
theorem ok_69 : ∀ e pc, tr_69 pc = some e → chk 69 pc e = true := chkAll_ok ck_69 (fun pc h => by show (bif Nat.ble 42 pc then none else _) = none; rw [Nat.ble_eq_true_of_le h]; rfl)
set_option maxRecDepth 100000 in
theorem ck_70 : chkAll 70 36 tr_70 = true := by decide +kernel
theorem ok_70 : ∀ e pc, tr_70 pc = some e → chk 70 pc e = true := chkAll_ok ck_70 (fun pc h => by show (bif Nat.ble 36 pc then none else _) = none; rw [Nat.ble_eq_true_of_le h]; rfl)
set_option maxRecDepth 100000 in
theorem ck_71 : chkAll 71 164 tr_71 = true := by decide +kernel
theorem ok_71 : ∀ e pc, tr_71 pc = some e → chk 71 pc e = true := chkAll_ok ck_71 (fun pc h => by show (bif Nat.ble 164 pc then none else _) = none; rw [Nat.ble_eq_true_of_le h]; rfl)
set_option maxRecDepth 100000 in
theorem ck_72 : chkAll 72 104 tr_72 = true := by decide +kernel
theorem ok_72 : ∀ e pc, tr_72 pc = some e → chk 72 pc e = true := chkAll_ok ck_72 (fun pc h => by show (bif Nat.ble 104 pc then none else _) = none; rw [Nat.ble_eq_true_of_le h]; rfl)
set_option maxRecDepth 100000 in
theorem ck_73 : chkAll 73 104 tr_73 = true := by decide +kernel
theorem ok_73 : ∀ e pc, tr_73 pc = some e → chk 73 pc e = true := chkAll_ok ck_73 (fun pc h => by show (bif Nat.ble 104 pc then none else _) = none; rw [Nat.ble_eq_true_of_le h]; rfl)
set_option maxRecDepth 100000 in
theorem ck_74 : chkAll 74 85 tr_74 = true := by decide +kernel
theorem ok_74 : ∀ e pc, tr_74 pc = some e → chk 74 pc e = true := chkAll_ok ck_74 (fun pc h => by show (bif Nat.ble 85 pc then none else _) = none; rw [Nat.ble_eq_true_of_le h]; rfl)
set_option maxRecDepth 100000 in
theorem ck_75 : chkAll 75 84 tr_75 = true := by decide +kernel
theorem ok_75 : ∀ e pc, tr_75 pc = some e → chk 75 pc e = true := chkAll_ok ck_75 (fun pc h => by show (bif Nat.ble 84 pc then none else _) = none; rw [Nat.ble_eq_true_of_le h]; rfl)
set_option maxRecDepth 100000 in
theorem ck_76 : chkAll 76 91 tr_76 = true := by decide +kernel
theorem ok_76 : ∀ e pc, tr_76 pc = some e → chk 76 pc e = true := chkAll_ok ck_76 (fun pc h => by show (bif Nat.ble 91 pc then none else _) = none; rw [Nat.ble_eq_true_of_le h]; rfl)
set_option maxRecDepth 100000 in
theorem ck_77 : chkAll 77 52 tr_77 = true := by decide +kernel
theorem ok_77 : ∀ e pc, tr_77 pc = some e → chk 77 pc e = true := chkAll_ok ck_77 (fun pc h => by show (bif Nat.ble 52 pc then none else _) = none; rw [Nat.ble_eq_true_of_le h]; rfl)
set_option maxRecDepth 100000 in
theorem ck_78 : chkAll 78 121 tr_78 = true := by decide +kernel
theorem ok_78 : ∀ e pc, tr_78 pc = some e → chk 78 pc e = true := chkAll_ok ck_78 (fun pc h => by show (bif Nat.ble 121 pc then none else _) = none; rw [Nat.ble_eq_true_of_le h]; rfl)
set_option maxRecDepth 100000 in
theorem ck_79 : chkAll 79 120 tr_79 = true := by decide +kernel
theorem ok_79 : ∀ e pc, tr_79 pc = some e → chk 79 pc e = true := chkAll_ok ck_79 (fun pc h => by show (bif Nat.ble 120 pc then none else _) = none; rw [Nat.ble_eq_true_of_le h]; rfl)
set_option maxRecDepth 100000 in
theorem ck_80 : chkAll 80 122 tr_80 = true := by decide +kernel
theorem ok_80 : ∀ e pc, tr_80 pc = some e → chk 80 pc e = true := chkAll_ok ck_80 (fun pc h => by show (bif Nat.ble 122 pc then none else _) = none; rw [Nat.ble_eq_true_of_le h]; rfl)
set_option maxRecDepth 100000 in
theorem ck_81 : chkAll 81 114 tr_81 = true := by decide +kernel
theorem ok_81 : ∀ e pc, tr_81 pc = some e → chk 81 pc e = true := chkAll_ok ck_81 (fun pc h => by show (bif Nat.ble 114 pc then none else _) = none; rw [Nat.ble_eq_true_of_le h]; rfl)
set_option maxRecDepth 100000 in
theorem ck_82 : chkAll 82 101 tr_82 = true := by decide +kernel
theorem ok_82 : ∀ e pc, tr_82 pc = some e → chk 82 pc e = true := chkAll_ok ck_82 (fun pc h => by show (bif Nat.ble 101 pc then none else _) = none; rw [Nat.ble_eq_true_of_le h]; rfl)
set_option maxRecDepth 100000 in
theorem ck_83 : chkAll 83 98 tr_83 = true := by decide +kernel
theorem ok_83 : ∀ e pc, tr_83 pc = some e → chk 83 pc e = true := chkAll_ok ck_83 (fun pc h => by show (bif Nat.ble 98 pc then none else _) = none; rw [Nat.ble_eq_true_of_le h]; rfl)
set_option maxRecDepth 100000 in
theorem ck_84 : chkAll 84 195 tr_84 = true := by decide +kernel
theorem ok_84 : ∀ e pc, tr_84 pc = some e → chk 84 pc e = true := chkAll_ok ck_84 (fun pc h => by show (bif Nat.ble 195 pc then none else _) = none; rw [Nat.ble_eq_true_of_le h]; rfl)
set_option maxRecDepth 100000 in
theorem ck_85 : chkAll 85 199 tr_85 = true := by decide +kernel
theorem ok_85 : ∀ e pc, tr_85 pc = some e → chk 85 pc e = true := chkAll_ok ck_85 (fun pc h => by show (bif Nat.ble 199 pc then none else _) = none; rw [Nat.ble_eq_true_of_le h]; rfl)
set_option maxRecDepth 100000 in
theorem ck_86 : chkAll 86 133 tr_86 = true := by decide +kernel
theorem ok_86 : ∀ e pc, tr_86 pc = some e → chk 86 pc e = true := chkAll_ok ck_86 (fun pc h => by show (bif Nat.ble 133 pc then none else _) = none; rw [Nat.ble_eq_true_of_le h]; rfl)
set_option maxRecDepth 100000 in
theorem ck_87 : chkAll 87 172 tr_87 = true := by decide +kernel
theorem ok_87 : ∀ e pc, tr_87 pc = some e → chk 87 pc e = true := chkAll_ok ck_87 (fun pc h => by show (bif Nat.ble 172 pc then none else _) = none; rw [Nat.ble_eq_true_of_le h]; rfl)
set_option maxRecDepth 100000 in
theorem ck_88 : chkAll 88 82 tr_88 = true := by decide +kernel
theorem ok_88 : ∀ e pc, tr_88 pc = some e → chk 88 pc e = true := chkAll_ok ck_88 (fun pc h => by show (bif Nat.ble 82 pc then none else _) = none; rw [Nat.ble_eq_true_of_le h]; rfl)
set_option maxRecDepth 100000 in
theorem ck_89 : chkAll 89 93 tr_89 = true := by decide +kernel
theorem ok_89 : ∀ e pc, tr_89 pc = some e → chk 89 pc e = true := chkAll_ok ck_89 (fun pc h => by show (bif Nat.ble 93 pc then none else _) = none; rw [Nat.ble_eq_true_of_le h]; rfl)
set_option maxRecDepth 100000 in
theorem ck_90 : chkAll 90 76 tr_90 = true := by decide +kernel
theorem ok_90 : ∀ e pc, tr_90 pc = some e → chk 90 pc e = true := chkAll_ok ck_90 (fun pc h => by show (bif Nat.ble 76 pc then none else _) = none; rw [Nat.ble_eq_true_of_le h]; rfl)
set_option maxRecDepth 100000 in
theorem ck_91 : chkAll 91 61 tr_91 = true := by decide +kernel
theorem ok_91 : ∀ e pc, tr_91 pc = some e → chk 91 pc e = true := chkAll_ok ck_91 (fun pc h => by show (bif Nat.ble 61 pc then none else _) = none; rw [Nat.ble_eq_true_of_le h]; rfl)
set_option maxRecDepth 100000 in
theorem ck_92 : chkAll 92 58 tr_92 = true := by decide +kernel
theorem ok_92 : ∀ e pc, tr_92 pc = some e → chk 92 pc e = true := chkAll_ok ck_92 (fun pc h => by show (bif Nat.ble 58 pc then none else _) = none; rw [Nat.ble_eq_true_of_le h]; rfl)
set_option maxRecDepth 100000 in
theorem ck_93 : chkAll 93 76 tr_93 = true := by decide +kernel
theorem ok_93 : ∀ e pc, tr_93 pc = some e → chk 93 pc e = true := chkAll_ok ck_93 (fun pc h => by show (bif Nat.ble 76 pc then none else _) = none; rw [Nat.ble_eq_true_of_le h]; rfl)
set_option maxRecDepth 100000 in
theorem ck_94 : chkAll 94 42 tr_94 = true := by decide +kernel
theorem ok_94 : ∀ e pc, tr_94 pc = some e → chk 94 pc e = true := chkAll_ok ck_94 (fun pc h => by show (bif Nat.ble 42 pc then none else _) = none; rw [Nat.ble_eq_true_of_le h]; rfl)
set_option maxRecDepth 100000 in
theorem ck_95 : chkAll 95 42 tr_95 = true := by decide +kernel
theorem ok_95 : ∀ e pc, tr_95 pc = some e → chk 95 pc e = true := chkAll_ok ck_95 (fun pc h => by show (bif Nat.ble 42 pc then none else _) = none; rw [Nat.ble_eq_true_of_le h]; rfl)
set_option maxRecDepth 100000 in
theorem ck_96 : chkAll 96 71 tr_96 = true := by decide +kernel
theorem ok_96 : ∀ e pc, tr_96 pc = some e → chk 96 pc e = true := chkAll_ok ck_96 (fun pc h => by show (bif Nat.ble 71 pc then none else _) = none; rw [Nat.ble_eq_true_of_le h]; rfl)
set_option maxRecDepth 100000 in
theorem ck_97 : chkAll 97 12 tr_97 = true := by decide +kernel
theorem ok_97 : ∀ e pc, tr_97 pc = some e → chk 97 pc e = true := chkAll_ok ck_97 (fun pc h => by show (bif Nat.ble 12 pc then none else _) = none; rw [Nat.ble_eq_true_of_le h]; rfl)
set_option maxRecDepth 100000 in
theorem ck_98 : chkAll 98 81 tr_98 = true := by decide +kernel
theorem ok_98 : ∀ e pc, tr_98 pc = some e → chk 98 pc e = true := chkAll_ok ck_98 (fun pc h => by show (bif Nat.ble 81 pc then none else _) = none; rw [Nat.ble_eq_true_of_le h]; rfl)
set_option maxRecDepth 100000 in
theorem ck_99 : chkAll 99 76 tr_99 = true := by decide +kernel
theorem ok_99 : ∀ e pc, tr_99 pc = some e → chk 99 pc e = true := chkAll_ok ck_99 (fun pc h => by show (bif Nat.ble 76 pc then none else _) = none; rw [Nat.ble_eq_true_of_le h]; rfl)
set_option maxRecDepth 100000 in
theorem ck_100 : chkAll 100 41 tr_100 = true := by decide +kernel
theorem ok_100 : ∀ e pc, tr_100 pc = some e → chk 100 pc e = true := chkAll_ok ck_100 (fun pc h => by show (bif Nat.ble 41 pc then none else _) = none; rw [Nat.ble_eq_true_of_le h]; rfl)
set_option maxRecDepth 100000 in
theorem ck_101 : chkAll 101 123 tr_101 = true := by decide +kernel
theorem ok_101 : ∀ e pc, tr_101 pc = some e → chk 101 pc e = true := chkAll_ok ck_101 (fun pc h => by show (bif Nat.ble 123 pc then none else _) = none; rw [Nat.ble_eq_true_of_le h]; rfl)
set_option maxRecDepth 100000 in
theorem ck_102 : chkAll 102 141 tr_102 = true := by decide +kernel
theorem ok_102 : ∀ e pc, tr_102 pc = some e → chk 102 pc e = true := chkAll_ok ck_102 (fun pc h => by show (bif Nat.ble 141 pc then none else _) = none; rw [Nat.ble_eq_true_of_le h]; rfl)
set_option maxRecDepth 100000 in
theorem ck_103 : chkAll 103 146 tr_103 = true := by decide +kernel
theorem ok_103 : ∀ e pc, tr_103 pc = some e → chk 103 pc e = true := chkAll_ok ck_103 (fun pc h => by show (bif Nat.ble 146 pc then none else _) = none; rw [Nat.ble_eq_true_of_le h]; rfl)
set_option maxRecDepth 100000 in
theorem ck_104 : chkAll 104 136 tr_104 = true := by decide +kernel
theorem ok_104 : ∀ e pc, tr_104 pc = some e → chk 104 pc e = true := chkAll_ok ck_104 (fun pc h => by show (bif Nat.ble 136 pc then none else _) = none; rw [Nat.ble_eq_true_of_le h]; rfl)
set_option maxRecDepth 100000 in
theorem ck_105 : chkAll 105 213 tr_105 = true := by decide +kernel
theorem ok_105 : ∀ e pc, tr_105 pc = some e → chk 105 pc e = true := chkAll_ok ck_105 (fun pc h => by show (bif Nat.ble 213 pc then none else _) = none; rw [Nat.ble_eq_true_of_le h]; rfl)
set_option maxRecDepth 100000 in
theorem ck_106 : chkAll 106 108 tr_106 = true := by decide +kernel
theorem ok_106 : ∀ e pc, tr_106 pc = some e → chk 106 pc e = true := chkAll_ok ck_106 (fun pc h => by show (bif Nat.ble 108 pc then none else _) = none; rw [Nat.ble_eq_true_of_le h]; rfl)
set_option maxRecDepth 100000 in
theorem ck_107 : chkAll 107 99 tr_107 = true := by decide +kernel
theorem ok_107 : ∀ e pc, tr_107 pc = some e → chk 107 pc e = true := chkAll_ok ck_107 (fun pc h => by show (bif Nat.ble 99 pc then none else _) = none; rw [Nat.ble_eq_true_of_le h]; rfl)
set_option maxRecDepth 100000 in
theorem ck_108 : chkAll 108 71 tr_108 = true := by decide +kernel
theorem ok_108 : ∀ e pc, tr_108 pc = some e → chk 108 pc e = true := chkAll_ok ck_108 (fun pc h => by show (bif Nat.ble 71 pc then none else _) = none; rw [Nat.ble_eq_true_of_le h]; rfl)
set_option maxRecDepth 100000 in
theorem ck_109 : chkAll 109 114 tr_109 = true := by decide +kernel
theorem ok_109 : ∀ e pc, tr_109 pc = some e → chk 109 pc e = true := chkAll_ok ck_109 (fun pc h => by show (bif Nat.ble 114 pc then none else _) = none; rw [Nat.ble_eq_true_of_le h]; rfl)
set_option maxRecDepth 100000 in
theorem ck_110 : chkAll 110 150 tr_110 = true := by decide +kernel
theorem ok_110 : ∀ e pc, tr_110 pc = some e → chk 110 pc e = true := chkAll_ok ck_110 (fun pc h => by show (bif Nat.ble 150 pc then none else _) = none; rw [Nat.ble_eq_true_of_le h]; rfl)
set_option maxRecDepth 100000 in
theorem ck_111 : chkAll 111 246 tr_111 = true := by decide +kernel
theorem ok_111 : ∀ e pc, tr_111 pc = some e → chk 111 pc e = true := chkAll_ok ck_111 (fun pc h => by show (bif Nat.ble 246 pc then none else _) = none; rw [Nat.ble_eq_true_of_le h]; rfl)
set_option maxRecDepth 100000 in
theorem ck_112 : chkAll 112 24 tr_112 = true := by decide +kernel
theorem ok_112 : ∀ e pc, tr_112 pc = some e → chk 112 pc e = true := chkAll_ok ck_112 (fun pc h => by show (bif Nat.ble 24 pc then none else _) = none; rw [Nat.ble_eq_true_of_le h]; rfl)
set_option maxRecDepth 100000 in
theorem ck_113 : chkAll 113 40 tr_113 = true := by decide +kernel
theorem ok_113 : ∀ e pc, tr_113 pc = some e → chk 113 pc e = true := chkAll_ok ck_113 (fun pc h => by show (bif Nat.ble 40 pc then none else _) = none; rw [Nat.ble_eq_true_of_le h]; rfl)
set_option maxRecDepth 100000 in
theorem ck_114 : chkAll 114 126 tr_114 = true := by decide +kernel
theorem ok_114 : ∀ e pc, tr_114 pc = some e → chk 114 pc e = true := chkAll_ok ck_114 (fun pc h => by show (bif Nat.ble 126 pc then none else _) = none; rw [Nat.ble_eq_true_of_le h]; rfl)
set_option maxRecDepth 100000 in
theorem ck_115 : chkAll 115 22 tr_115 = true := by decide +kernel
theorem ok_115 : ∀ e pc, tr_115 pc = some e → chk 115 pc e = true := chkAll_ok ck_115 (fun pc h => by show (bif Nat.ble 22 pc then none else _) = none; rw [Nat.ble_eq_true_of_le h]; rfl)
set_option maxRecDepth 100000 in
theorem ck_116 : chkAll 116 28 tr_116 = true := by decide +kernel
theorem ok_116 : ∀ e pc, tr_116 pc = some e → chk 116 pc e = true := chkAll_ok ck_116 (fun pc h => by show (bif Nat.ble 28 pc then none else _) = none; rw [Nat.ble_eq_true_of_le h]; rfl)
set_option maxRecDepth 100000 in
theorem ck_117 : chkAll 117 19 tr_117 = true := by decide +kernel
theorem ok_117 : ∀ e pc, tr_117 pc = some e → chk 117 pc e = true := chkAll_ok ck_117 (fun pc h => by show (bif Nat.ble 19 pc then none else _) = none; rw [Nat.ble_eq_true_of_le h]; rfl)
set_option maxRecDepth 100000 in
theorem ck_118 : chkAll 118 15 tr_118 = true := by decide +kernel
theorem ok_118 : ∀ e pc, tr_118 pc = some e → chk 118 pc e = true := chkAll_ok ck_118 (fun pc h => by show (bif Nat.ble 15 pc then none else _) = none; rw [Nat.ble_eq_true_of_le h]; rfl)
set_option maxRecDepth 100000 in
theorem ck_119 : chkAll 119 15 tr_119 = true := by decide +kernel
theorem ok_119 : ∀ e pc, tr_119 pc = some e → chk 119 pc e = true := chkAll_ok ck_119 (fun pc h => by show (bif Nat.ble 15 pc then none else _) = none; rw [Nat.ble_eq_true_of_le h]; rfl)
set_option maxRecDepth 100000 in
theorem ck_120 : chkAll 120 17 tr_120 = true := by decide +kernel
theorem ok_120 : ∀ e pc, tr_120 pc = some e → chk 120 pc e = true := chkAll_ok ck_120 (fun pc h => by show (bif Nat.ble 17 pc then none else _) = none; rw [Nat.ble_eq_true_of_le h]; rfl)
set_option maxRecDepth 100000 in
theorem ck_121 : chkAll 121 21 tr_121 = true := by decide +kernel
theorem ok_121 : ∀ e pc, tr_121 pc = some e → chk 121 pc e = true := chkAll_ok ck_121 (fun pc h => by show (bif Nat.ble 21 pc then none else _) = none; rw [Nat.ble_eq_true_of_le h]; rfl)
set_option maxRecDepth 100000 in
theorem ck_122 : chkAll 122 27 tr_122 = true := by decide +kernel
theorem ok_122 : ∀ e pc, tr_122 pc = some e → chk 122 pc e = true := chkAll_ok ck_122 (fun pc h => by show (bif Nat.ble 27 pc then none else _) = none; rw [Nat.ble_eq_true_of_le h]; rfl)
set_option maxRecDepth 100000 in
theorem ck_123 : chkAll 123 47 tr_123 = true := by decide +kernel
theorem ok_123 : ∀ e pc, tr_123 pc = some e → chk 123 pc e = true := chkAll_ok ck_123 (fun pc h => by show (bif Nat.ble 47 pc then none else _) = none; rw [Nat.ble_eq_true_of_le h]; rfl)
set_option maxRecDepth 100000 in
theorem ck_124 : chkAll 124 21 tr_124 = true := by decide +kernel
theorem ok_124 : ∀ e pc, tr_124 pc = some e → chk 124 pc e = true := chkAll_ok ck_124 (fun pc h => by show (bif Nat.ble 21 pc then none else _) = none; rw [Nat.ble_eq_true_of_le h]; rfl)
set_option maxRecDepth 100000 in
theorem ck_125 : chkAll 125 19 tr_125 = true := by decide +kernel
theorem ok_125 : ∀ e pc, tr_125 pc = some e → chk 125 pc e = true := chkAll_ok ck_125 (fun pc h => by show (bif Nat.ble 19 pc then none else _) = none; rw [Nat.ble_eq_true_of_le h]; rfl)
set_option maxRecDepth 100000 in
theorem ck_126 : chkAll 126 22 tr_126 = true := by decide +kernel
theorem ok_126 : ∀ e pc, tr_126 pc = some e → chk 126 pc e = true := chkAll_ok ck_126 (fun pc h => by show (bif Nat.ble 22 pc then none else _) = none; rw [Nat.ble_eq_true_of_le h]; rfl)
set_option maxRecDepth 100000 in
theorem ck_127 : chkAll 127 19 tr_127 = true := by decide +kernel
theorem ok_127 : ∀ e pc, tr_127 pc = some e → chk 127 pc e = true := chkAll_ok ck_127 (fun pc h => by show (bif Nat.ble 19 pc then none else _) = none; rw [Nat.ble_eq_true_of_le h]; rfl)
set_option maxRecDepth 100000 in
theorem ck_128 : chkAll 128 22 tr_128 = true := by decide +kernel
theorem ok_128 : ∀ e pc, tr_128 pc = some e → chk 128 pc e = true := chkAll_ok ck_128 (fun pc h => by show (bif Nat.ble 22 pc then none else _) = none; rw [Nat.ble_eq_true_of_le h]; rfl)
set_option maxRecDepth 100000 in
theorem ck_129 : chkAll 129 13 tr_129 = true := by decide +kernel
theorem ok_129 : ∀ e pc, tr_129 pc = some e → chk 129 pc e = true := chkAll_ok ck_129 (fun pc h => by show (bif Nat.ble 13 pc then none else _) = none; rw [Nat.ble_eq_true_of_le h]; rfl)
set_option maxRecDepth 100000 in
theorem ck_130 : chkAll 130 22 tr_130 = true := by decide +kernel
theorem ok_130 : ∀ e pc, tr_130 pc = some e → chk 130 pc e = true := chkAll_ok ck_130 (fun pc h => by show (bif Nat.ble 22 pc then none else _) = none; rw [Nat.ble_eq_true_of_le h]; rfl)
set_option maxRecDepth 100000 in
theorem ck_131 : chkAll 131 15 tr_131 = true := by decide +kernel
theorem ok_131 : ∀ e pc, tr_131 pc = some e → chk 131 pc e = true := chkAll_ok ck_131 (fun pc h => by show (bif Nat.ble 15 pc then none else _) = none; rw [Nat.ble_eq_true_of_le h]; rfl)
set_option maxRecDepth 100000 in
theorem ck_132 : chkAll 132 39 tr_132 = true := by decide +kernel
theorem ok_132 : ∀ e pc, tr_132 pc = some e → chk 132 pc e = true := chkAll_ok ck_132 (fun pc h => by show (bif Nat.ble 39 pc then none else _) = none; rw [Nat.ble_eq_true_of_le h]; rfl)
set_option maxRecDepth 100000 in
theorem ck_133 : chkAll 133 35 tr_133 = true := by decide +kernel
theorem ok_133 : ∀ e pc, tr_133 pc = some e → chk 133 pc e = true := chkAll_ok ck_133 (fun pc h => by show (bif Nat.ble 35 pc then none else _) = none; rw [Nat.ble_eq_true_of_le h]; rfl)
set_option maxRecDepth 100000 in
theorem ck_134 : chkAll 134 98 tr_134 = true := by decide +kernel
theorem ok_134 : ∀ e pc, tr_134 pc = some e → chk 134 pc e = true := chkAll_ok ck_134 (fun pc h => by show (bif Nat.ble 98 pc then none else _) = none; rw [Nat.ble_eq_true_of_le h]; rfl)
set_option maxRecDepth 100000 in
theorem ck_135 : chkAll 135 111 tr_135 = true := by decide +kernel
theorem ok_135 : ∀ e pc, tr_135 pc = some e → chk 135 pc e = true := chkAll_ok ck_135 (fun pc h => by show (bif Nat.ble 111 pc then none else _) = none; rw [Nat.ble_eq_true_of_le h]; rfl)
set_option maxRecDepth 100000 in
theorem ck_136 : chkAll 136 47 tr_136 = true := by decide +kernel
theorem ok_136 : ∀ e pc, tr_136 pc = some e → chk 136 pc e = true := chkAll_ok ck_136 (fun pc h => by show (bif Nat.ble 47 pc then none else _) = none; rw [Nat.ble_eq_true_of_le h]; rfl)
set_option maxRecDepth 100000 in
theorem ck_137 : chkAll 137 81 tr_137 = true := by decide +kernel
theorem ok_137 : ∀ e pc, tr_137 pc = some e → chk 137 pc e = true := chkAll_ok ck_137 (fun pc h => by show (bif Nat.ble 81 pc then none else _) = none; rw [Nat.ble_eq_true_of_le h]; rfl)
set_option maxRecDepth 100000 in
theorem ck_138 : chkAll 138 105 tr_138 = true := by decide +kernel
theorem ok_138 : ∀ e pc, tr_138 pc = some e → chk 138 pc e = true := chkAll_ok ck_138 (fun pc h => by show (bif Nat.ble 105 pc then none else _) = none; rw [Nat.ble_eq_true_of_le h]; rfl)
set_option maxRecDepth 100000 in
theorem ck_139 : chkAll 139 134 tr_139 = true := by decide +kernel
theorem ok_139 : ∀ e pc, tr_139 pc = some e → chk 139 pc e = true := chkAll_ok ck_139 (fun pc h => by show (bif Nat.ble 134 pc then none else _) = none; rw [Nat.ble_eq_true_of_le h]; rfl)
set_option maxRecDepth 100000 in
theorem ck_140 : chkAll 140 8 tr_140 = true := by decide +kernel
theorem ok_140 : ∀ e pc, tr_140 pc = some e → chk 140 pc e = true := chkAll_ok ck_140 (fun pc h => by show (bif Nat.ble 8 pc then none else _) = none; rw [Nat.ble_eq_true_of_le h]; rfl)
set_option maxRecDepth 100000 in
theorem ck_141 : chkAll 141 37 tr_141 = true := by decide +kernel
theorem ok_141 : ∀ e pc, tr_141 pc = some e → chk 141 pc e = true := chkAll_ok ck_141 (fun pc h => by show (bif Nat.ble 37 pc then none else _) = none; rw [Nat.ble_eq_true_of_le h]; rfl)
set_option maxRecDepth 100000 in
theorem ck_142 : chkAll 142 69 tr_142 = true := by decide +kernel
theorem ok_142 : ∀ e pc, tr_142 pc = some e → chk 142 pc e = true := chkAll_ok ck_142 (fun pc h => by show (bif Nat.ble 69 pc then none else _) = none; rw [Nat.ble_eq_true_of_le h]; rfl)
set_option maxRecDepth 100000 in
theorem ck_143 : chkAll 143 76 tr_143 = true := by decide +kernel
theorem ok_143 : ∀ e pc, tr_143 pc = some e → chk 143 pc e = true := chkAll_ok ck_143 (fun pc h => by show (bif Nat.ble 76 pc then none else _) = none; rw [Nat.ble_eq_true_of_le h]; rfl)
set_option maxRecDepth 100000 in
theorem ck_144 : chkAll 144 59 tr_144 = true := by decide +kernel
theorem ok_144 : ∀ e pc, tr_144 pc = some e → chk 144 pc e = true := chkAll_ok ck_144 (fun pc h => by show (bif Nat.ble 59 pc then none else _) = none; rw [Nat.ble_eq_true_of_le h]; rfl)
set_option maxRecDepth 100000 in
theorem ck_145 : chkAll 145 98 tr_145 = true := by decide +kernel
theorem ok_145 : ∀ e pc, tr_145 pc = some e → chk 145 pc e = true := chkAll_ok ck_145 (fun pc h => by show (bif Nat.ble 98 pc then none else _) = none; rw [Nat.ble_eq_true_of_le h]; rfl)
set_option maxRecDepth 100000 in
theorem ck_146 : chkAll 146 68 tr_146 = true := by decide +kernel
theorem ok_146 : ∀ e pc, tr_146 pc = some e → chk 146 pc e = true := chkAll_ok ck_146 (fun pc h => by show (bif Nat.ble 68 pc then none else _) = none; rw [Nat.ble_eq_true_of_le h]; rfl)
set_option maxRecDepth 100000 in
theorem ck_147 : chkAll 147 55 tr_147 = true := by decide +kernel
theorem ok_147 : ∀ e pc, tr_147 pc = some e → chk 147 pc e = true := chkAll_ok ck_147 (fun pc h => by show (bif Nat.ble 55 pc then none else _) = none; rw [Nat.ble_eq_true_of_le h]; rfl)
set_option maxRecDepth 100000 in
theorem ck_148 : chkAll 148 60 tr_148 = true := by decide +kernel
theorem ok_148 : ∀ e pc, tr_148 pc = some e → chk 148 pc e = true := chkAll_ok ck_148 (fun pc h => by show (bif Nat.ble 60 pc then none else _) = none; rw [Nat.ble_eq_true_of_le h]; rfl)
set_option maxRecDepth 100000 in
theorem ck_149 : chkAll 149 106 tr_149 = true := by decide +kernel
theorem ok_149 : ∀ e pc, tr_149 pc = some e → chk 149 pc e = true := chkAll_ok ck_149 (fun pc h => by show (bif Nat.ble 106 pc then none else _) = none; rw [Nat.ble_eq_true_of_le h]; rfl)
set_option maxRecDepth 100000 in
theorem ck_150 : chkAll 150 84 tr_150 = true := by decide +kernel
theorem ok_150 : ∀ e pc, tr_150 pc = some e → chk 150 pc e = true := chkAll_ok ck_150 (fun pc h => by show (bif Nat.ble 84 pc then none else _) = none; rw [Nat.ble_eq_true_of_le h]; rfl)
set_option maxRecDepth 100000 in
theorem ck_151 : chkAll 151 229 tr_151 = true := by decide +kernel
theorem ok_151 : ∀ e pc, tr_151 pc = some e → chk 151 pc e = true := chkAll_ok ck_151 (fun pc h => by show (bif Nat.ble 229 pc then none else _) = none; rw [Nat.ble_eq_true_of_le h]; rfl)
set_option maxRecDepth 100000 in
theorem ck_152 : chkAll 152 19 tr_152 = true := by decide +kernel
theorem ok_152 : ∀ e pc, tr_152 pc = some e → chk 152 pc e = true := chkAll_ok ck_152 (fun pc h => by show (bif Nat.ble 19 pc then none else _) = none; rw [Nat.ble_eq_true_of_le h]; rfl)
set_option maxRecDepth 100000 in
theorem ck_153 : chkAll 153 13 tr_153 = true := by decide +kernel
theorem ok_153 : ∀ e pc, tr_153 pc = some e → chk 153 pc e = true := chkAll_ok ck_153 (fun pc h => by show (bif Nat.ble 13 pc then none else _) = none; rw [Nat.ble_eq_true_of_le h]; rfl)
set_option maxRecDepth 100000 in
theorem ck_154 : chkAll 154 14 tr_154 = true := by decide +kernel
theorem ok_154 : ∀ e pc, tr_154 pc = some e → chk 154 pc e = true := chkAll_ok ck_154 (fun pc h => by show (bif Nat.ble 14 pc then none else _) = none; rw [Nat.ble_eq_true_of_le h]; rfl)
set_option maxRecDepth 100000 in
theorem ck_155 : chkAll 155 27 tr_155 = true := by decide +kernel
theorem ok_155 : ∀ e pc, tr_155 pc = some e → chk 155 pc e = true := chkAll_ok ck_155 (fun pc h => by show (bif Nat.ble 27 pc then none else _) = none; rw [Nat.ble_eq_true_of_le h]; rfl)
set_option maxRecDepth 100000 in
theorem ck_156 : chkAll 156 14 tr_156 = true := by decide +kernel
theorem ok_156 : ∀ e pc, tr_156 pc = some e → chk 156 pc e = true := chkAll_ok ck_156 (fun pc h => by show (bif Nat.ble 14 pc then none else _) = none; rw [Nat.ble_eq_true_of_le h]; rfl)
set_option maxRecDepth 100000 in
theorem ck_157 : chkAll 157 22 tr_157 = true := by decide +kernel
theorem ok_157 : ∀ e pc, tr_157 pc = some e → chk 157 pc e = true := chkAll_ok ck_157 (fun pc h => by show (bif Nat.ble 22 pc then none else _) = none; rw [Nat.ble_eq_true_of_le h]; rfl)
set_option maxRecDepth 100000 in
theorem ck_158 : chkAll 158 22 tr_158 = true := by decide +kernel
theorem ok_158 : ∀ e pc, tr_158 pc = some e → chk 158 pc e = true := chkAll_ok ck_158 (fun pc h => by show (bif Nat.ble 22 pc then none else _) = none; rw [Nat.ble_eq_true_of_le h]; rfl)
set_option maxRecDepth 100000 in
theorem ck_159 : chkAll 159 32 tr_159 = true := by decide +kernel
theorem ok_159 : ∀ e pc, tr_159 pc = some e → chk 159 pc e = true := chkAll_ok ck_159 (fun pc h => by show (bif Nat.ble 32 pc then none else _) = none; rw [Nat.ble_eq_true_of_le h]; rfl)
set_option maxRecDepth 100000 in
theorem ck_160 : chkAll 160 11 tr_160 = true := by decide +kernel
theorem ok_160 : ∀ e pc, tr_160 pc = some e → chk 160 pc e = true := chkAll_ok ck_160 (fun pc h => by show (bif Nat.ble 11 pc then none else _) = none; rw [Nat.ble_eq_true_of_le h]; rfl)
set_option maxRecDepth 100000 in
theorem ck_161 : chkAll 161 11 tr_161 = true := by decide +kernel
theorem ok_161 : ∀ e pc, tr_161 pc = some e → chk 161 pc e = true := chkAll_ok ck_161 (fun pc h => by show (bif Nat.ble 11 pc then none else _) = none; rw [Nat.ble_eq_true_of_le h]; rfl)
set_option maxRecDepth 100000 in
theorem ck_162 : chkAll 162 11 tr_162 = true := by decide +kernel
theorem ok_162 : ∀ e pc, tr_162 pc = some e → chk 162 pc e = true := chkAll_ok ck_162 (fun pc h => by show (bif Nat.ble 11 pc then none else _) = none; rw [Nat.ble_eq_true_of_le h]; rfl)
set_option maxRecDepth 100000 in
theorem ck_163 : chkAll 163 13 tr_163 = true := by decide +kernel
theorem ok_163 : ∀ e pc, tr_163 pc = some e → chk 163 pc e = true := chkAll_ok ck_163 (fun pc h => by show (bif Nat.ble 13 pc then none else _) = none; rw [Nat.ble_eq_true_of_le h]; rfl)
set_option maxRecDepth 100000 in
theorem ck_164 : chkAll 164 31 tr_164 = true := by decide +kernel
theorem ok_164 : ∀ e pc, tr_164 pc = some e → chk 164 pc e = true := chkAll_ok ck_164 (fun pc h => by show (bif Nat.ble 31 pc then none else _) = none; rw [Nat.ble_eq_true_of_le h]; rfl)
set_option maxRecDepth 100000 in
theorem ck_165 : chkAll 165 96 tr_165 = true := by decide +kernel
theorem ok_165 : ∀ e pc, tr_165 pc = some e → chk 165 pc e = true := chkAll_ok ck_165 (fun pc h => by show (bif Nat.ble 96 pc then none else _) = none; rw [Nat.ble_eq_true_of_le h]; rfl)
set_option maxRecDepth 100000 in
theorem ck_166 : chkAll 166 102 tr_166 = true := by decide +kernel
theorem ok_166 : ∀ e pc, tr_166 pc = some e → chk 166 pc e = true := chkAll_ok ck_166 (fun pc h => by show (bif Nat.ble 102 pc then none else _) = none; rw [Nat.ble_eq_true_of_le h]; rfl)
set_option maxRecDepth 100000 in
theorem ck_167 : chkAll 167 60 tr_167 = true := by decide +kernel
theorem ok_167 : ∀ e pc, tr_167 pc = some e → chk 167 pc e = true := chkAll_ok ck_167 (fun pc h => by show (bif Nat.ble 60 pc then none else _) = none; rw [Nat.ble_eq_true_of_le h]; rfl)
set_option maxRecDepth 100000 in
theorem ck_168 : chkAll 168 10 tr_168 = true := by decide +kernel
theorem ok_168 : ∀ e pc, tr_168 pc = some e → chk 168 pc e = true := chkAll_ok ck_168 (fun pc h => by show (bif Nat.ble 10 pc then none else _) = none; rw [Nat.ble_eq_true_of_le h]; rfl)
set_option maxRecDepth 100000 in
theorem ck_169 : chkAll 169 35 tr_169 = true := by decide +kernel
theorem ok_169 : ∀ e pc, tr_169 pc = some e → chk 169 pc e = true := chkAll_ok ck_169 (fun pc h => by show (bif Nat.ble 35 pc then none else _) = none; rw [Nat.ble_eq_true_of_le h]; rfl)
set_option maxRecDepth 100000 in
theorem ck_170 : chkAll 170 189 tr_170 = true := by decide +kernel
theorem ok_170 : ∀ e pc, tr_170 pc = some e → chk 170 pc e = true := chkAll_ok ck_170 (fun pc h => by show (bif Nat.ble 189 pc then none else _) = none; rw [Nat.ble_eq_true_of_le h]; rfl)
set_option maxRecDepth 100000 in
theorem ck_171 : chkAll 171 110 tr_171 = true := by decide +kernel
theorem ok_171 : ∀ e pc, tr_171 pc = some e → chk 171 pc e = true := chkAll_ok ck_171 (fun pc h => by show (bif Nat.ble 110 pc then none else _) = none; rw [Nat.ble_eq_true_of_le h]; rfl)
set_option maxRecDepth 100000 in
theorem ck_172 : chkAll 172 11 tr_172 = true := by decide +kernel
theorem ok_172 : ∀ e pc, tr_172 pc = some e → chk 172 pc e = true := chkAll_ok ck_172 (fun pc h => by show (bif Nat.ble 11 pc then none else _) = none; rw [Nat.ble_eq_true_of_le h]; rfl)
set_option maxRecDepth 100000 in
theorem ck_173 : chkAll 173 64 tr_173 = true := by decide +kernel
theorem ok_173 : ∀ e pc, tr_173 pc = some e → chk 173 pc e = true := chkAll_ok ck_173 (fun pc h => by show (bif Nat.ble 64 pc then none else _) = none; rw [Nat.ble_eq_true_of_le h]; rfl)
set_option maxRecDepth 100000 in
theorem ck_174 : chkAll 174 25 tr_174 = true := by decide +kernel
theorem ok_174 : ∀ e pc, tr_174 pc = some e → chk 174 pc e = true := chkAll_ok ck_174 (fun pc h => by show (bif Nat.ble 25 pc then none else _) = none; rw [Nat.ble_eq_true_of_le h]; rfl)
set_option maxRecDepth 100000 in
theorem ck_175 : chkAll 175 100 tr_175 = true := by decide +kernel
theorem ok_175 : ∀ e pc, tr_175 pc = some e → chk 175 pc e = true := chkAll_ok ck_175 (fun pc h => by show (bif Nat.ble 100 pc then none else _) = none; rw [Nat.ble_eq_true_of_le h]; rfl)
set_option maxRecDepth 100000 in
theorem ck_176 : chkAll 176 303 tr_176 = true := by decide +kernel
theorem ok_176 : ∀ e pc, tr_176 pc = some e → chk 176 pc e = true := chkAll_ok ck_176 (fun pc h => by show (bif Nat.ble 303 pc then none else _) = none; rw [Nat.ble_eq_true_of_le h]; rfl)
set_option maxRecDepth 100000 in
theorem ck_177 : chkAll 177 41 tr_177 = true := by decide +kernel
theorem ok_177 : ∀ e pc, tr_177 pc = some e → chk 177 pc e = true := chkAll_ok ck_177 (fun pc h => by show (bif Nat.ble 41 pc then none else _) = none; rw [Nat.ble_eq_true_of_le h]; rfl)
set_option maxRecDepth 100000 in
theorem ck_178 : chkAll 178 298 tr_178 = true := by decide +kernel
theorem ok_178 : ∀ e pc, tr_178 pc = some e → chk 178 pc e = true := chkAll_ok ck_178 (fun pc h => by show (bif Nat.ble 298 pc then none else _) = none; rw [Nat.ble_eq_true_of_le h]; rfl)
set_option maxRecDepth 100000 in
theorem ck_179 : chkAll 179 136 tr_179 = true := by decide +kernel
theorem ok_179 : ∀ e pc, tr_179 pc = some e → chk 179 pc e = true := chkAll_ok ck_179 (fun pc h => by show (bif Nat.ble 136 pc then none else _) = none; rw [Nat.ble_eq_true_of_le h]; rfl)
set_option maxRecDepth 100000 in
theorem ck_180 : chkAll 180 39 tr_180 = true := by decide +kernel
theorem ok_180 : ∀ e pc, tr_180 pc = some e → chk 180 pc e = true := chkAll_ok ck_180 (fun pc h => by show (bif Nat.ble 39 pc then none else _) = none; rw [Nat.ble_eq_true_of_le h]; rfl)
set_option maxRecDepth 100000 in
theorem ck_181 : chkAll 181 160 tr_181 = true := by decide +kernel
theorem ok_181 : ∀ e pc, tr_181 pc = some e → chk 181 pc e = true := chkAll_ok ck_181 (fun pc h => by show (bif Nat.ble 160 pc then none else _) = none; rw [Nat.ble_eq_true_of_le h]; rfl)
set_option maxRecDepth 100000 in
theorem ck_182 : chkAll 182 24 tr_182 = true := by decide +kernel
theorem ok_182 : ∀ e pc, tr_182 pc = some e → chk 182 pc e = true := chkAll_ok ck_182 (fun pc h => by show (bif Nat.ble 24 pc then none else _) = none; rw [Nat.ble_eq_true_of_le h]; rfl)
set_option maxRecDepth 100000 in
theorem ck_183 : chkAll 183 38 tr_183 = true := by decide +kernel
theorem ok_183 : ∀ e pc, tr_183 pc = some e → chk 183 pc e = true := chkAll_ok ck_183 (fun pc h => by show (bif Nat.ble 38 pc then none else _) = none; rw [Nat.ble_eq_true_of_le h]; rfl)
set_option maxRecDepth 100000 in
theorem ck_184 : chkAll 184 104 tr_184 = true := by decide +kernel
theorem ok_184 : ∀ e pc, tr_184 pc = some e → chk 184 pc e = true := chkAll_ok ck_184 (fun pc h => by show (bif Nat.ble 104 pc then none else _) = none; rw [Nat.ble_eq_true_of_le h]; rfl)
set_option maxRecDepth 100000 in
theorem ck_185 : chkAll 185 77 tr_185 = true := by decide +kernel
theorem ok_185 : ∀ e pc, tr_185 pc = some e → chk 185 pc e = true := chkAll_ok ck_185 (fun pc h => by show (bif Nat.ble 77 pc then none else _) = none; rw [Nat.ble_eq_true_of_le h]; rfl)
set_option maxRecDepth 100000 in
theorem ck_186 : chkAll 186 77 tr_186 = true := by decide +kernel
theorem ok_186 : ∀ e pc, tr_186 pc = some e → chk 186 pc e = true := chkAll_ok ck_186 (fun pc h => by show (bif Nat.ble 77 pc then none else _) = none; rw [Nat.ble_eq_true_of_le h]; rfl)
set_option maxRecDepth 100000 in
theorem ck_187 : chkAll 187 118 tr_187 = true := by decide +kernel
theorem ok_187 : ∀ e pc, tr_187 pc = some e → chk 187 pc e = true := chkAll_ok ck_187 (fun pc h => by show (bif Nat.ble 118 pc then none else _) = none; rw [Nat.ble_eq_true_of_le h]; rfl)
set_option maxRecDepth 100000 in
theorem ck_188 : chkAll 188 78 tr_188 = true := by decide +kernel
theorem ok_188 : ∀ e pc, tr_188 pc = some e → chk 188 pc e = true := chkAll_ok ck_188 (fun pc h => by show (bif Nat.ble 78 pc then none else _) = none; rw [Nat.ble_eq_true_of_le h]; rfl)
set_option maxRecDepth 100000 in
theorem ck_189 : chkAll 189 168 tr_189 = true := by decide +kernel
theorem ok_189 : ∀ e pc, tr_189 pc = some e → chk 189 pc e = true := chkAll_ok ck_189 (fun pc h => by show (bif Nat.ble 168 pc then none else _) = none; rw [Nat.ble_eq_true_of_le h]; rfl)
set_option maxRecDepth 100000 in
theorem ck_190 : chkAll 190 92 tr_190 = true := by decide +kernel
theorem ok_190 : ∀ e pc, tr_190 pc = some e → chk 190 pc e = true := chkAll_ok ck_190 (fun pc h => by show (bif Nat.ble 92 pc then none else _) = none; rw [Nat.ble_eq_true_of_le h]; rfl)
set_option maxRecDepth 100000 in
theorem ck_191 : chkAll 191 44 tr_191 = true := by decide +kernel
theorem ok_191 : ∀ e pc, tr_191 pc = some e → chk 191 pc e = true := chkAll_ok ck_191 (fun pc h => by show (bif Nat.ble 44 pc then none else _) = none; rw [Nat.ble_eq_true_of_le h]; rfl)
set_option maxRecDepth 100000 in
theorem ck_192 : chkAll 192 37 tr_192 = true := by decide +kernel
theorem ok_192 : ∀ e pc, tr_192 pc = some e → chk 192 pc e = true := chkAll_ok ck_192 (fun pc h => by show (bif Nat.ble 37 pc then none else _) = none; rw [Nat.ble_eq_true_of_le h]; rfl)
set_option maxRecDepth 100000 in
theorem ck_193 : chkAll 193 107 tr_193 = true := by decide +kernel
theorem ok_193 : ∀ e pc, tr_193 pc = some e → chk 193 pc e = true := chkAll_ok ck_193 (fun pc h => by show (bif Nat.ble 107 pc then none else _) = none; rw [Nat.ble_eq_true_of_le h]; rfl)
set_option maxRecDepth 100000 in
theorem ck_194 : chkAll 194 20 tr_194 = true := by decide +kernel
theorem ok_194 : ∀ e pc, tr_194 pc = some e → chk 194 pc e = true := chkAll_ok ck_194 (fun pc h => by show (bif Nat.ble 20 pc then none else _) = none; rw [Nat.ble_eq_true_of_le h]; rfl)
set_option maxRecDepth 100000 in
theorem ck_195 : chkAll 195 95 tr_195 = true := by decide +kernel
theorem ok_195 : ∀ e pc, tr_195 pc = some e → chk 195 pc e = true := chkAll_ok ck_195 (fun pc h => by show (bif Nat.ble 95 pc then none else _) = none; rw [Nat.ble_eq_true_of_le h]; rfl)
set_option maxRecDepth 100000 in
theorem ck_196 : chkAll 196 100 tr_196 = true := by decide +kernel
theorem ok_196 : ∀ e pc, tr_196 pc = some e → chk 196 pc e = true := chkAll_ok ck_196 (fun pc h => by show (bif Nat.ble 100 pc then none else _) = none; rw [Nat.ble_eq_true_of_le h]; rfl)
set_option maxRecDepth 100000 in
theorem ck_197 : chkAll 197 65 tr_197 = true := by decide +kernel
theorem ok_197 : ∀ e pc, tr_197 pc = some e → chk 197 pc e = true := chkAll_ok ck_197 (fun pc h => by show (bif Nat.ble 65 pc then none else _) = none; rw [Nat.ble_eq_true_of_le h]; rfl)
set_option maxRecDepth 100000 in
theorem ck_198 : chkAll 198 36 tr_198 = true := by decide +kernel
theorem ok_198 : ∀ e pc, tr_198 pc = some e → chk 198 pc e = true := chkAll_ok ck_198 (fun pc h => by show (bif Nat.ble 36 pc then none else _) = none; rw [Nat.ble_eq_true_of_le h]; rfl)
set_option maxRecDepth 100000 in
theorem ck_199 : chkAll 199 95 tr_199 = true := by decide +kernel
theorem ok_199 : ∀ e pc, tr_199 pc = some e → chk 199 pc e = true := chkAll_ok ck_199 (fun pc h => by show (bif Nat.ble 95 pc then none else _) = none; rw [Nat.ble_eq_true_of_le h]; rfl)
set_option maxRecDepth 100000 in
theorem ck_200 : chkAll 200 108 tr_200 = true := by decide +kernel
theorem ok_200 : ∀ e pc, tr_200 pc = some e → chk 200 pc e = true := chkAll_ok ck_200 (fun pc h => by show (bif Nat.ble 108 pc then none else _) = none; rw [Nat.ble_eq_true_of_le h]; rfl)
set_option maxRecDepth 100000 in
theorem ck_201 : chkAll 201 53 tr_201 = true := by decide +kernel
theorem ok_201 : ∀ e pc, tr_201 pc = some e → chk 201 pc e = true := chkAll_ok ck_201 (fun pc h => by show (bif Nat.ble 53 pc then none else _) = none; rw [Nat.ble_eq_true_of_le h]; rfl)
set_option maxRecDepth 100000 in
theorem ck_202 : chkAll 202 40 tr_202 = true := by decide +kernel
theorem ok_202 : ∀ e pc, tr_202 pc = some e → chk 202 pc e = true := chkAll_ok ck_202 (fun pc h => by show (bif Nat.ble 40 pc then none else _) = none; rw [Nat.ble_eq_true_of_le h]; rfl)
set_option maxRecDepth 100000 in
theorem ck_203 : chkAll 203 307 tr_203 = true := by decide +kernel
theorem ok_203 : ∀ e pc, tr_203 pc = some e → chk 203 pc e = true := chkAll_ok ck_203 (fun pc h => by show (bif Nat.ble 307 pc then none else _) = none; rw [Nat.ble_eq_true_of_le h]; rfl)
set_option maxRecDepth 100000 in
theorem ck_204 : chkAll 204 20 tr_204 = true := by decide +kernel
theorem ok_204 : ∀ e pc, tr_204 pc = some e → chk 204 pc e = true := chkAll_ok ck_204 (fun pc h => by show (bif Nat.ble 20 pc then none else _) = none; rw [Nat.ble_eq_true_of_le h]; rfl)
set_option maxRecDepth 100000 in
theorem ck_205 : chkAll 205 193 tr_205 = true := by decide +kernel
theorem ok_205 : ∀ e pc, tr_205 pc = some e → chk 205 pc e = true := chkAll_ok ck_205 (fun pc h => by show (bif Nat.ble 193 pc then none else _) = none; rw [Nat.ble_eq_true_of_le h]; rfl)
set_option maxRecDepth 100000 in
theorem ck_206 : chkAll 206 18 tr_206 = true := by decide +kernel
theorem ok_206 : ∀ e pc, tr_206 pc = some e → chk 206 pc e = true := chkAll_ok ck_206 (fun pc h => by show (bif Nat.ble 18 pc then none else _) = none; rw [Nat.ble_eq_true_of_le h]; rfl)
set_option maxRecDepth 100000 in
theorem ck_207 : chkAll 207 263 tr_207 = true := by decide +kernel
theorem ok_207 : ∀ e pc, tr_207 pc = some e → chk 207 pc e = true := chkAll_ok ck_207 (fun pc h => by show (bif Nat.ble 263 pc then none else _) = none; rw [Nat.ble_eq_true_of_le h]; rfl)
set_option maxRecDepth 100000 in
theorem ck_208 : chkAll 208 194 tr_208 = true := by decide +kernel
theorem ok_208 : ∀ e pc, tr_208 pc = some e → chk 208 pc e = true := chkAll_ok ck_208 (fun pc h => by show (bif Nat.ble 194 pc then none else _) = none; rw [Nat.ble_eq_true_of_le h]; rfl)
set_option maxRecDepth 100000 in
theorem ck_209 : chkAll 209 115 tr_209 = true := by decide +kernel
theorem ok_209 : ∀ e pc, tr_209 pc = some e → chk 209 pc e = true := chkAll_ok ck_209 (fun pc h => by show (bif Nat.ble 115 pc then none else _) = none; rw [Nat.ble_eq_true_of_le h]; rfl)
set_option maxRecDepth 100000 in
theorem ck_210 : chkAll 210 158 tr_210 = true := by decide +kernel
theorem ok_210 : ∀ e pc, tr_210 pc = some e → chk 210 pc e = true := chkAll_ok ck_210 (fun pc h => by show (bif Nat.ble 158 pc then none else _) = none; rw [Nat.ble_eq_true_of_le h]; rfl)
set_option maxRecDepth 100000 in
theorem ck_211 : chkAll 211 269 tr_211 = true := by decide +kernel
theorem ok_211 : ∀ e pc, tr_211 pc = some e → chk 211 pc e = true := chkAll_ok ck_211 (fun pc h => by show (bif Nat.ble 269 pc then none else _) = none; rw [Nat.ble_eq_true_of_le h]; rfl)
set_option maxRecDepth 100000 in
theorem ck_212 : chkAll 212 327 tr_212 = true := by decide +kernel
theorem ok_212 : ∀ e pc, tr_212 pc = some e → chk 212 pc e = true := chkAll_ok ck_212 (fun pc h => by show (bif Nat.ble 327 pc then none else _) = none; rw [Nat.ble_eq_true_of_le h]; rfl)
set_option maxRecDepth 100000 in
theorem ck_213 : chkAll 213 59 tr_213 = true := by decide +kernel
theorem ok_213 : ∀ e pc, tr_213 pc = some e → chk 213 pc e = true := chkAll_ok ck_213 (fun pc h => by show (bif Nat.ble 59 pc then none else _) = none; rw [Nat.ble_eq_true_of_le h]; rfl)
set_option maxRecDepth 100000 in
theorem ck_214 : chkAll 214 115 tr_214 = true := by decide +kernel
theorem ok_214 : ∀ e pc, tr_214 pc = some e → chk 214 pc e = true := chkAll_ok ck_214 (fun pc h => by show (bif Nat.ble 115 pc then none else _) = none; rw [Nat.ble_eq_true_of_le h]; rfl)
set_option maxRecDepth 100000 in
theorem ck_215 : chkAll 215 52 tr_215 = true := by decide +kernel
theorem ok_215 : ∀ e pc, tr_215 pc = some e → chk 215 pc e = true := chkAll_ok ck_215 (fun pc h => by show (bif Nat.ble 52 pc then none else _) = none; rw [Nat.ble_eq_true_of_le h]; rfl)
set_option maxRecDepth 100000 in
theorem ck_216 : chkAll 216 64 tr_216 = true := by decide +kernel
theorem ok_216 : ∀ e pc, tr_216 pc = some e → chk 216 pc e = true := chkAll_ok ck_216 (fun pc h => by show (bif Nat.ble 64 pc then none else _) = none; rw [Nat.ble_eq_true_of_le h]; rfl)
set_option maxRecDepth 100000 in
theorem ck_217 : chkAll 217 69 tr_217 = true := by decide +kernel
theorem ok_217 : ∀ e pc, tr_217 pc = some e → chk 217 pc e = true := chkAll_ok ck_217 (fun pc h => by show (bif Nat.ble 69 pc then none else _) = none; rw [Nat.ble_eq_true_of_le h]; rfl)
set_option maxRecDepth 100000 in
theorem ck_218 : chkAll 218 57 tr_218 = true := by decide +kernel
theorem ok_218 : ∀ e pc, tr_218 pc = some e → chk 218 pc e = true := chkAll_ok ck_218 (fun pc h => by show (bif Nat.ble 57 pc then none else _) = none; rw [Nat.ble_eq_true_of_le h]; rfl)
set_option maxRecDepth 100000 in
theorem ck_219 : chkAll 219 66 tr_219 = true := by decide +kernel
theorem ok_219 : ∀ e pc, tr_219 pc = some e → chk 219 pc e = true := chkAll_ok ck_219 (fun pc h => by show (bif Nat.ble 66 pc then none else _) = none; rw [Nat.ble_eq_true_of_le h]; rfl)
set_option maxRecDepth 100000 in
theorem ck_220 : chkAll 220 63 tr_220 = true := by decide +kernel
theorem ok_220 : ∀ e pc, tr_220 pc = some e → chk 220 pc e = true := chkAll_ok ck_220 (fun pc h => by show (bif Nat.ble 63 pc then none else _) = none; rw [Nat.ble_eq_true_of_le h]; rfl)
set_option maxRecDepth 100000 in
theorem ck_221 : chkAll 221 48 tr_221 = true := by decide +kernel
theorem ok_221 : ∀ e pc, tr_221 pc = some e → chk 221 pc e = true := chkAll_ok ck_221 (fun pc h => by show (bif Nat.ble 48 pc then none else _) = none; rw [Nat.ble_eq_true_of_le h]; rfl)
set_option maxRecDepth 100000 in
theorem ck_222 : chkAll 222 35 tr_222 = true := by decide +kernel
theorem ok_222 : ∀ e pc, tr_222 pc = some e → chk 222 pc e = true := chkAll_ok ck_222 (fun pc h => by show (bif Nat.ble 35 pc then none else _) = none; rw [Nat.ble_eq_true_of_le h]; rfl)
set_option maxRecDepth 100000 in
theorem ck_223 : chkAll 223 42 tr_223 = true := by decide +kernel
theorem ok_223 : ∀ e pc, tr_223 pc = some e → chk 223 pc e = true := chkAll_ok ck_223 (fun pc h => by show (bif Nat.ble 42 pc then none else _) = none; rw [Nat.ble_eq_true_of_le h]; rfl)
set_option maxRecDepth 100000 in
theorem ck_224 : chkAll 224 64 tr_224 = true := by decide +kernel
theorem ok_224 : ∀ e pc, tr_224 pc = some e → chk 224 pc e = true := chkAll_ok ck_224 (fun pc h => by show (bif Nat.ble 64 pc then none else _) = none; rw [Nat.ble_eq_true_of_le h]; rfl)
set_option maxRecDepth 100000 in
theorem ck_225 : chkAll 225 106 tr_225 = true := by decide +kernel
theorem ok_225 : ∀ e pc, tr_225 pc = some e → chk 225 pc e = true := chkAll_ok ck_225 (fun pc h => by show (bif Nat.ble 106 pc then none else _) = none; rw [Nat.ble_eq_true_of_le h]; rfl)
set_option maxRecDepth 100000 in
theorem ck_226 : chkAll 226 87 tr_226 = true := by decide +kernel
theorem ok_226 : ∀ e pc, tr_226 pc = some e → chk 226 pc e = true := chkAll_ok ck_226 (fun pc h => by show (bif Nat.ble 87 pc then none else _) = none; rw [Nat.ble_eq_true_of_le h]; rfl)
set_option maxRecDepth 100000 in
theorem ck_227 : chkAll 227 82 tr_227 = true := by decide +kernel
theorem ok_227 : ∀ e pc, tr_227 pc = some e → chk 227 pc e = true := chkAll_ok ck_227 (fun pc h => by show (bif Nat.ble 82 pc then none else _) = none; rw [Nat.ble_eq_true_of_le h]; rfl)
set_option maxRecDepth 100000 in
theorem ck_228 : chkAll 228 108 tr_228 = true := by decide +kernel
theorem ok_228 : ∀ e pc, tr_228 pc = some e → chk 228 pc e = true := chkAll_ok ck_228 (fun pc h => by show (bif Nat.ble 108 pc then none else _) = none; rw [Nat.ble_eq_true_of_le h]; rfl)
set_option maxRecDepth 100000 in
theorem ck_229 : chkAll 229 87 tr_229 = true := by decide +kernel
theorem ok_229 : ∀ e pc, tr_229 pc = some e → chk 229 pc e = true := chkAll_ok ck_229 (fun pc h => by show (bif Nat.ble 87 pc then none else _) = none; rw [Nat.ble_eq_true_of_le h]; rfl)
set_option maxRecDepth 100000 in
theorem ck_230 : chkAll 230 103 tr_230 = true := by decide +kernel
theorem ok_230 : ∀ e pc, tr_230 pc = some e → chk 230 pc e = true := chkAll_ok ck_230 (fun pc h => by show (bif Nat.ble 103 pc then none else _) = none; rw [Nat.ble_eq_true_of_le h]; rfl)
set_option maxRecDepth 100000 in
theorem ck_231 : chkAll 231 57 tr_231 = true := by decide +kernel
theorem ok_231 : ∀ e pc, tr_231 pc = some e → chk 231 pc e = true := chkAll_ok ck_231 (fun pc h => by show (bif Nat.ble 57 pc then none else _) = none; rw [Nat.ble_eq_true_of_le h]; rfl)
set_option maxRecDepth 100000 in
theorem ck_232 : chkAll 232 61 tr_232 = true := by decide +kernel
theorem ok_232 : ∀ e pc, tr_232 pc = some e → chk 232 pc e = true := chkAll_ok ck_232 (fun pc h => by show (bif Nat.ble 61 pc then none else _) = none; rw [Nat.ble_eq_true_of_le h]; rfl)
set_option maxRecDepth 100000 in
theorem ck_233 : chkAll 233 157 tr_233 = true := by decide +kernel
theorem ok_233 : ∀ e pc, tr_233 pc = some e → chk 233 pc e = true := chkAll_ok ck_233 (fun pc h => by show (bif Nat.ble 157 pc then none else _) = none; rw [Nat.ble_eq_true_of_le h]; rfl)
set_option maxRecDepth 100000 in
theorem ck_234 : chkAll 234 94 tr_234 = true := by decide +kernel
theorem ok_234 : ∀ e pc, tr_234 pc = some e → chk 234 pc e = true := chkAll_ok ck_234 (fun pc h => by show (bif Nat.ble 94 pc then none else _) = none; rw [Nat.ble_eq_true_of_le h]; rfl)
set_option maxRecDepth 100000 in
theorem ck_235 : chkAll 235 161 tr_235 = true := by decide +kernel
theorem ok_235 : ∀ e pc, tr_235 pc = some e → chk 235 pc e = true := chkAll_ok ck_235 (fun pc h => by show (bif Nat.ble 161 pc then none else _) = none; rw [Nat.ble_eq_true_of_le h]; rfl)
set_option maxRecDepth 100000 in
theorem ck_236 : chkAll 236 151 tr_236 = true := by decide +kernel
theorem ok_236 : ∀ e pc, tr_236 pc = some e → chk 236 pc e = true := chkAll_ok ck_236 (fun pc h => by show (bif Nat.ble 151 pc then none else _) = none; rw [Nat.ble_eq_true_of_le h]; rfl)
set_option maxRecDepth 100000 in
theorem ck_237 : chkAll 237 258 tr_237 = true := by decide +kernel
theorem ok_237 : ∀ e pc, tr_237 pc = some e → chk 237 pc e = true := chkAll_ok ck_237 (fun pc h => by show (bif Nat.ble 258 pc then none else _) = none; rw [Nat.ble_eq_true_of_le h]; rfl)
set_option maxRecDepth 100000 in
theorem ck_238 : chkAll 238 114 tr_238 = true := by decide +kernel
theorem ok_238 : ∀ e pc, tr_238 pc = some e → chk 238 pc e = true := chkAll_ok ck_238 (fun pc h => by show (bif Nat.ble 114 pc then none else _) = none; rw [Nat.ble_eq_true_of_le h]; rfl)
set_option maxRecDepth 100000 in
theorem ck_239 : chkAll 239 231 tr_239 = true := by decide +kernel
theorem ok_239 : ∀ e pc, tr_239 pc = some e → chk 239 pc e = true := chkAll_ok ck_239 (fun pc h => by show (bif Nat.ble 231 pc then none else _) = none; rw [Nat.ble_eq_true_of_le h]; rfl)
set_option maxRecDepth 100000 in
theorem ck_240 : chkAll 240 90 tr_240 = true := by decide +kernel
theorem ok_240 : ∀ e pc, tr_240 pc = some e → chk 240 pc e = true := chkAll_ok ck_240 (fun pc h => by show (bif Nat.ble 90 pc then none else _) = none; rw [Nat.ble_eq_true_of_le h]; rfl)
set_option maxRecDepth 100000 in
theorem ck_241 : chkAll 241 104 tr_241 = true := by decide +kernel
theorem ok_241 : ∀ e pc, tr_241 pc = some e → chk 241 pc e = true := chkAll_ok ck_241 (fun pc h => by show (bif Nat.ble 104 pc then none else _) = none; rw [Nat.ble_eq_true_of_le h]; rfl)
set_option maxRecDepth 100000 in
theorem ck_242 : chkAll 242 108 tr_242 = true := by decide +kernel
theorem ok_242 : ∀ e pc, tr_242 pc = some e → chk 242 pc e = true := chkAll_ok ck_242 (fun pc h => by show (bif Nat.ble 108 pc then none else _) = none; rw [Nat.ble_eq_true_of_le h]; rfl)
set_option maxRecDepth 100000 in
theorem ck_243 : chkAll 243 160 tr_243 = true := by decide +kernel
theorem ok_243 : ∀ e pc, tr_243 pc = some e → chk 243 pc e = true := chkAll_ok ck_243 (fun pc h => by show (bif Nat.ble 160 pc then none else _) = none; rw [Nat.ble_eq_true_of_le h]; rfl)
set_option maxRecDepth 100000 in
theorem ck_244 : chkAll 244 126 tr_244 = true := by decide +kernel
theorem ok_244 : ∀ e pc, tr_244 pc = some e → chk 244 pc e = true := chkAll_ok ck_244 (fun pc h => by show (bif Nat.ble 126 pc then none else _) = none; rw [Nat.ble_eq_true_of_le h]; rfl)
set_option maxRecDepth 100000 in
theorem ck_245 : chkAll 245 141 tr_245 = true := by decide +kernel
theorem ok_245 : ∀ e pc, tr_245 pc = some e → chk 245 pc e = true := chkAll_ok ck_245 (fun pc h => by show (bif Nat.ble 141 pc then none else _) = none; rw [Nat.ble_eq_true_of_le h]; rfl)
set_option maxRecDepth 100000 in
theorem ck_246 : chkAll 246 173 tr_246 = true := by decide +kernel
theorem ok_246 : ∀ e pc, tr_246 pc = some e → chk 246 pc e = true := chkAll_ok ck_246 (fun pc h => by show (bif Nat.ble 173 pc then none else _) = none; rw [Nat.ble_eq_true_of_le h]; rfl)
set_option maxRecDepth 100000 in
theorem ck_247 : chkAll 247 197 tr_247 = true := by decide +kernel
theorem ok_247 : ∀ e pc, tr_247 pc = some e → chk 247 pc e = true := chkAll_ok ck_247 (fun pc h => by show (bif Nat.ble 197 pc then none else _) = none; rw [Nat.ble_eq_true_of_le h]; rfl)
set_option maxRecDepth 100000 in
theorem ck_248 : chkAll 248 63 tr_248 = true := by decide +kernel
theorem ok_248 : ∀ e pc, tr_248 pc = some e → chk 248 pc e = true := chkAll_ok ck_248 (fun pc h => by show (bif Nat.ble 63 pc then none else _) = none; rw [Nat.ble_eq_true_of_le h]; rfl)
set_option maxRecDepth 100000 in
theorem ck_249 : chkAll 249 94 tr_249 = true := by decide +kernel
theorem ok_249 : ∀ e pc, tr_249 pc = some e → chk 249 pc e = true := chkAll_ok ck_249 (fun pc h => by show (bif Nat.ble 94 pc then none else _) = none; rw [Nat.ble_eq_true_of_le h]; rfl)
set_option maxRecDepth 100000 in
theorem ck_250 : chkAll 250 17 tr_250 = true := by decide +kernel
theorem ok_250 : ∀ e pc, tr_250 pc = some e → chk 250 pc e = true := chkAll_ok ck_250 (fun pc h => by show (bif Nat.ble 17 pc then none else _) = none; rw [Nat.ble_eq_true_of_le h]; rfl)
set_option maxRecDepth 100000 in
theorem ck_251 : chkAll 251 249 tr_251 = true := by decide +kernel
theorem ok_251 : ∀ e pc, tr_251 pc = some e → chk 251 pc e = true := chkAll_ok ck_251 (fun pc h => by show (bif Nat.ble 249 pc then none else _) = none; rw [Nat.ble_eq_true_of_le h]; rfl)
set_option maxRecDepth 100000 in
theorem ck_252 : chkAll 252 138 tr_252 = true := by decide +kernel
theorem ok_252 : ∀ e pc, tr_252 pc = some e → chk 252 pc e = true := chkAll_ok ck_252 (fun pc h => by show (bif Nat.ble 138 pc then none else _) = none; rw [Nat.ble_eq_true_of_le h]; rfl)
theorem tr_br {b : Bool} {x y : Option Ent} {P : Ent → Prop} (hx : ∀ e, x = some e → P e) (hy : ∀ e, y = some e → P e) : ∀ e, (bif b then x else y) = some e → P e := by cases b; exact hy; exact hx
theorem tr_lf {m k : Nat} {x : Option Ent} {P : Nat → Ent → Prop} (h : ∀ e, x = some e → P k e) : ∀ e, (bif Nat.beq m k then x else none) = some e → P m e := by
  intro e he
  cases hb : Nat.beq m k with
  | true => rw [hb] at he; rw [Nat.eq_of_beq_eq_true hb]; exact h e he
  | false => rw [hb] at he; cases he
set_option maxRecDepth 100000 in
theorem tr_ok (m pc : Nat) : ∀ e, tr m pc = some e → chk m pc e = true := tr_br (tr_br (tr_br (tr_br (tr_br (tr_br (tr_br (tr_br (tr_lf (P := fun k e => chk k pc e = true) (fun e h => ok_252 e pc h)) (tr_lf (P := fun k e => chk k pc e = true) (fun e h => ok_251 e pc h))) (tr_br (tr_lf (P := fun k e => chk k pc e = true) (fun e h => ok_250 e pc h)) (tr_lf (P := fun k e => chk k pc e = true) (fun e h => ok_249 e pc h)))) (tr_br (tr_br (tr_lf (P := fun k e => chk k pc e = true) (fun e h => ok_248 e pc h)) (tr_lf (P := fun k e => chk k pc e = true) (fun e h => ok_247 e pc h))) (tr_br (tr_lf (P := fun k e => chk k pc e = true) (fun e h => ok_246 e pc h)) (tr_lf (P := fun k e => chk k pc e = true) (fun e h => ok_245 e pc h))))) (tr_br (tr_br (tr_br (tr_lf (P := fun k e => chk k pc e = true) (fun e h => ok_244 e pc h)) (tr_lf (P := fun k e => chk k pc e = true) (fun e h => ok_243 e pc h))) (tr_br (tr_lf (P := fun k e => chk k pc e = true) (fun e h => ok_242 e pc h)) (tr_lf (P := fun k e => chk k pc e = true) (fun e h => ok_241 e pc h)))) (tr_br (tr_br (tr_lf (P := fun k e => chk k pc e = true) (fun e h => ok_240 e pc h)) (tr_lf (P := fun k e => chk k pc e = true) (fun e h => ok_239 e pc h))) (tr_br (tr_lf (P := fun k e => chk k pc e = true) (fun e h => ok_238 e pc h)) (tr_lf (P := fun k e => chk k pc e = true) (fun e h => ok_237 e pc h)))))) (tr_br (tr_br (tr_br (tr_br (tr_lf (P := fun k e => chk k pc e = true) (fun e h => ok_236 e pc h)) (tr_lf (P := fun k e => chk k pc e = true) (fun e h => ok_235 e pc h))) (tr_br (tr_lf (P := fun k e => chk k pc e = true) (fun e h => ok_234 e pc h)) (tr_lf (P := fun k e => chk k pc e = true) (fun e h => ok_233 e pc h)))) (tr_br (tr_br (tr_lf (P := fun k e => chk k pc e = true) (fun e h => ok_232 e pc h)) (tr_lf (P := fun k e => chk k pc e = true) (fun e h => ok_231 e pc h))) (tr_br (tr_lf (P := fun k e => chk k pc e = true) (fun e h => ok_230 e pc h)) (tr_lf (P := fun k e => chk k pc e = true) (fun e h => ok_229 e pc h))))) (tr_br (tr_br (tr_br (tr_lf (P := fun k e => chk k pc e = true) (fun e h => ok_228 e pc h)) (tr_lf (P := fun k e => chk k pc e = true) (fun e h => ok_227 e pc h))) (tr_br (tr_lf (P := fun k e => chk k pc e = true) (fun e h => ok_226 e pc h)) (tr_lf (P := fun k e => chk k pc e = true) (fun e h => ok_225 e pc h)))) (tr_br (tr_br (tr_lf (P := fun k e => chk k pc e = true) (fun e h => ok_224 e pc h)) (tr_lf (P := fun k e => chk k pc e = true) (fun e h => ok_223 e pc h))) (tr_br (tr_lf (P := fun k e => chk k pc e = true) (fun e h => ok_222 e pc h)) (tr_lf (P := fun k e => chk k pc e = true) (fun e h => ok_221 e pc h))))))) (tr_br (tr_br (tr_br (tr_br (tr_br (tr_lf (P := fun k e => chk k pc e = true) (fun e h => ok_220 e pc h)) (tr_lf (P := fun k e => chk k pc e = true) (fun e h => ok_219 e pc h))) (tr_br (tr_lf (P := fun k e => chk k pc e = true) (fun e h => ok_218 e pc h)) (tr_lf (P := fun k e => chk k pc e = true) (fun e h => ok_217 e pc h)))) (tr_br (tr_br (tr_lf (P := fun k e => chk k pc e = true) (fun e h => ok_216 e pc h)) (tr_lf (P := fun k e => chk k pc e = true) (fun e h => ok_215 e pc h))) (tr_br (tr_lf (P := fun k e => chk k pc e = true) (fun e h => ok_214 e pc h)) (tr_lf (P := fun k e => chk k pc e = true) (fun e h => ok_213 e pc h))))) (tr_br (tr_br (tr_br (tr_lf (P := fun k e => chk k pc e = true) (fun e h => ok_212 e pc h)) (tr_lf (P := fun k e => chk k pc e = true) (fun e h => ok_211 e pc h))) (tr_br (tr_lf (P := fun k e => chk k pc e = true) (fun e h => ok_210 e pc h)) (tr_lf (P := fun k e => chk k pc e = true) (fun e h => ok_209 e pc h)))) (tr_br (tr_br (tr_lf (P := fun k e => chk k pc e = true) (fun e h => ok_208 e pc h)) (tr_lf (P := fun k e => chk k pc e = true) (fun e h => ok_207 e pc h))) (tr_br (tr_lf (P := fun k e => chk k pc e = true) (fun e h => ok_206 e pc h)) (tr_lf (P := fun k e => chk k pc e = true) (fun e h => ok_205 e pc h)))))) (tr_br (tr_br (tr_br (tr_br (tr_lf (P := fun k e => chk k pc e = true) (fun e h => ok_204 e pc h)) (tr_lf (P := fun k e => chk k pc e = true) (fun e h => ok_203 e pc h))) (tr_br (tr_lf (P := fun k e => chk k pc e = true) (fun e h => ok_202 e pc h)) (tr_lf (P := fun k e => chk k pc e = true) (fun e h => ok_201 e pc h)))) (tr_br (tr_br (tr_lf (P := fun k e => chk k pc e = true) (fun e h => ok_200 e pc h)) (tr_lf (P := fun k e => chk k pc e = true) (fun e h => ok_199 e pc h))) (tr_br (tr_lf (P := fun k e => chk k pc e = true) (fun e h => ok_198 e pc h)) (tr_lf (P := fun k e => chk k pc e = true) (fun e h => ok_197 e pc h))))) (tr_br (tr_br (tr_br (tr_lf (P := fun k e => chk k pc e = true) (fun e h => ok_196 e pc h)) (tr_lf (P := fun k e => chk k pc e = true) (fun e h => ok_195 e pc h))) (tr_br (tr_lf (P := fun k e => chk k pc e = true) (fun e h => ok_194 e pc h)) (tr_lf (P := fun k e => chk k pc e = true) (fun e h => ok_193 e pc h)))) (tr_br (tr_br (tr_lf (P := fun k e => chk k pc e = true) (fun e h => ok_192 e pc h)) (tr_lf (P := fun k e => chk k pc e = true) (fun e h => ok_191 e pc h))) (tr_br (tr_lf (P := fun k e => chk k pc e = true) (fun e h => ok_190 e pc h)) (tr_lf (P := fun k e => chk k pc e = true) (fun e h => ok_189 e pc h)))))))) (tr_br (tr_br (tr_br (tr_br (tr_br (tr_br (tr_lf (P := fun k e => chk k pc e = true) (fun e h => ok_188 e pc h)) (tr_lf (P := fun k e => chk k pc e = true) (fun e h => ok_187 e pc h))) (tr_br (tr_lf (P := fun k e => chk k pc e = true) (fun e h => ok_186 e pc h)) (tr_lf (P := fun k e => chk k pc e = true) (fun e h => ok_185 e pc h)))) (tr_br (tr_br (tr_lf (P := fun k e => chk k pc e = true) (fun e h => ok_184 e pc h)) (tr_lf (P := fun k e => chk k pc e = true) (fun e h => ok_183 e pc h))) (tr_br (tr_lf (P := fun k e => chk k pc e = true) (fun e h => ok_182 e pc h)) (tr_lf (P := fun k e => chk k pc e = true) (fun e h => ok_181 e pc h))))) (tr_br (tr_br (tr_br (tr_lf (P := fun k e => chk k pc e = true) (fun e h => ok_180 e pc h)) (tr_lf (P := fun k e => chk k pc e = true) (fun e h => ok_179 e pc h))) (tr_br (tr_lf (P := fun k e => chk k pc e = true) (fun e h => ok_178 e pc h)) (tr_lf (P := fun k e => chk k pc e = true) (fun e h => ok_177 e pc h)))) (tr_br (tr_br (tr_lf (P := fun k e => chk k pc e = true) (fun e h => ok_176 e pc h)) (tr_lf (P := fun k e => chk k pc e = true) (fun e h => ok_175 e pc h))) (tr_br (tr_lf (P := fun k e => chk k pc e = true) (fun e h => ok_174 e pc h)) (tr_lf (P := fun k e => chk k pc e = true) (fun e h => ok_173 e pc h)))))) (tr_br (tr_br (tr_br (tr_br (tr_lf (P := fun k e => chk k pc e = true) (fun e h => ok_172 e pc h)) (tr_lf (P := fun k e => chk k pc e = true) (fun e h => ok_171 e pc h))) (tr_br (tr_lf (P := fun k e => chk k pc e = true) (fun e h => ok_170 e pc h)) (tr_lf (P := fun k e => chk k pc e = true) (fun e h => ok_169 e pc h)))) (tr_br (tr_br (tr_lf (P := fun k e => chk k pc e = true) (fun e h => ok_168 e pc h)) (tr_lf (P := fun k e => chk k pc e = true) (fun e h => ok_167 e pc h))) (tr_br (tr_lf (P := fun k e => chk k pc e = true) (fun e h => ok_166 e pc h)) (tr_lf (P := fun k e => chk k pc e = true) (fun e h => ok_165 e pc h))))) (tr_br (tr_br (tr_br (tr_lf (P := fun k e => chk k pc e = true) (fun e h => ok_164 e pc h)) (tr_lf (P := fun k e => chk k pc e = true) (fun e h => ok_163 e pc h))) (tr_br (tr_lf (P := fun k e => chk k pc e = true) (fun e h => ok_162 e pc h)) (tr_lf (P := fun k e => chk k pc e = true) (fun e h => ok_161 e pc h)))) (tr_br (tr_br (tr_lf (P := fun k e => chk k pc e = true) (fun e h => ok_160 e pc h)) (tr_lf (P := fun k e => chk k pc e = true) (fun e h => ok_159 e pc h))) (tr_br (tr_lf (P := fun k e => chk k pc e = true) (fun e h => ok_158 e pc h)) (tr_lf (P := fun k e => chk k pc e = true) (fun e h => ok_157 e pc h))))))) (tr_br (tr_br (tr_br (tr_br (tr_br (tr_lf (P := fun k e => chk k pc e = true) (fun e h => ok_156 e pc h)) (tr_lf (P := fun k e => chk k pc e = true) (fun e h => ok_155 e pc h))) (tr_br (tr_lf (P := fun k e => chk k pc e = true) (fun e h => ok_154 e pc h)) (tr_lf (P := fun k e => chk k pc e = true) (fun e h => ok_153 e pc h)))) (tr_br (tr_br (tr_lf (P := fun k e => chk k pc e = true) (fun e h => ok_152 e pc h)) (tr_lf (P := fun k e => chk k pc e = true) (fun e h => ok_151 e pc h))) (tr_br (tr_lf (P := fun k e => chk k pc e = true) (fun e h => ok_150 e pc h)) (tr_lf (P := fun k e => chk k pc e = true) (fun e h => ok_149 e pc h))))) (tr_br (tr_br (tr_br (tr_lf (P := fun k e => chk k pc e = true) (fun e h => ok_148 e pc h)) (tr_lf (P := fun k e => chk k pc e = true) (fun e h => ok_147 e pc h))) (tr_br (tr_lf (P := fun k e => chk k pc e = true) (fun e h => ok_146 e pc h)) (tr_lf (P := fun k e => chk k pc e = true) (fun e h => ok_145 e pc h)))) (tr_br (tr_br (tr_lf (P := fun k e => chk k pc e = true) (fun e h => ok_144 e pc h)) (tr_lf (P := fun k e => chk k pc e = true) (fun e h => ok_143 e pc h))) (tr_br (tr_lf (P := fun k e => chk k pc e = true) (fun e h => ok_142 e pc h)) (tr_lf (P := fun k e => chk k pc e = true) (fun e h => ok_141 e pc h)))))) (tr_br (tr_br (tr_br (tr_br (tr_lf (P := fun k e => chk k pc e = true) (fun e h => ok_140 e pc h)) (tr_lf (P := fun k e => chk k pc e = true) (fun e h => ok_139 e pc h))) (tr_br (tr_lf (P := fun k e => chk k pc e = true) (fun e h => ok_138 e pc h)) (tr_lf (P := fun k e => chk k pc e = true) (fun e h => ok_137 e pc h)))) (tr_br (tr_br (tr_lf (P := fun k e => chk k pc e = true) (fun e h => ok_136 e pc h)) (tr_lf (P := fun k e => chk k pc e = true) (fun e h => ok_135 e pc h))) (tr_br (tr_lf (P := fun k e => chk k pc e = true) (fun e h => ok_134 e pc h)) (tr_lf (P := fun k e => chk k pc e = true) (fun e h => ok_133 e pc h))))) (tr_br (tr_br (tr_br (tr_lf (P := fun k e => chk k pc e = true) (fun e h => ok_132 e pc h)) (tr_lf (P := fun k e => chk k pc e = true) (fun e h => ok_131 e pc h))) (tr_br (tr_lf (P := fun k e => chk k pc e = true) (fun e h => ok_130 e pc h)) (tr_lf (P := fun k e => chk k pc e = true) (fun e h => ok_129 e pc h)))) (tr_br (tr_br (tr_lf (P := fun k e => chk k pc e = true) (fun e h => ok_128 e pc h)) (tr_lf (P := fun k e => chk k pc e = true) (fun e h => ok_127 e pc h))) (tr_lf (P := fun k e => chk k pc e = true) (fun e h => ok_126 e pc h)))))))) (tr_br (tr_br (tr_br (tr_br (tr_br (tr_br (tr_br (tr_lf (P := fun k e => chk k pc e = true) (fun e h => ok_125 e pc h)) (tr_lf (P := fun k e => chk k pc e = true) (fun e h => ok_124 e pc h))) (tr_br (tr_lf (P := fun k e => chk k pc e = true) (fun e h => ok_123 e pc h)) (tr_lf (P := fun k e => chk k pc e = true) (fun e h => ok_122 e pc h)))) (tr_br (tr_br (tr_lf (P := fun k e => chk k pc e = true) (fun e h => ok_121 e pc h)) (tr_lf (P := fun k e => chk k pc e = true) (fun e h => ok_120 e pc h))) (tr_br (tr_lf (P := fun k e => chk k pc e = true) (fun e h => ok_119 e pc h)) (tr_lf (P := fun k e => chk k pc e = true) (fun e h => ok_118 e pc h))))) (tr_br (tr_br (tr_br (tr_lf (P := fun k e => chk k pc e = true) (fun e h => ok_117 e pc h)) (tr_lf (P := fun k e => chk k pc e = true) (fun e h => ok_116 e pc h))) (tr_br (tr_lf (P := fun k e => chk k pc e = true) (fun e h => ok_115 e pc h)) (tr_lf (P := fun k e => chk k pc e = true) (fun e h => ok_114 e pc h)))) (tr_br (tr_br (tr_lf (P := fun k e => chk k pc e = true) (fun e h => ok_113 e pc h)) (tr_lf (P := fun k e => chk k pc e = true) (fun e h => ok_112 e pc h))) (tr_br (tr_lf (P := fun k e => chk k pc e = true) (fun e h => ok_111 e pc h)) (tr_lf (P := fun k e => chk k pc e = true) (fun e h => ok_110 e pc h)))))) (tr_br (tr_br (tr_br (tr_br (tr_lf (P := fun k e => chk k pc e = true) (fun e h => ok_109 e pc h)) (tr_lf (P := fun k e => chk k pc e = true) (fun e h => ok_108 e pc h))) (tr_br (tr_lf (P := fun k e => chk k pc e = true) (fun e h => ok_107 e pc h)) (tr_lf (P := fun k e => chk k pc e = true) (fun e h => ok_106 e pc h)))) (tr_br (tr_br (tr_lf (P := fun k e => chk k pc e = true) (fun e h => ok_105 e pc h)) (tr_lf (P := fun k e => chk k pc e = true) (fun e h => ok_104 e pc h))) (tr_br (tr_lf (P := fun k e => chk k pc e = true) (fun e h => ok_103 e pc h)) (tr_lf (P := fun k e => chk k pc e = true) (fun e h => ok_102 e pc h))))) (tr_br (tr_br (tr_br (tr_lf (P := fun k e => chk k pc e = true) (fun e h => ok_101 e pc h)) (tr_lf (P := fun k e => chk k pc e = true) (fun e h => ok_100 e pc h))) (tr_br (tr_lf (P := fun k e => chk k pc e = true) (fun e h => ok_99 e pc h)) (tr_lf (P := fun k e => chk k pc e = true) (fun e h => ok_98 e pc h)))) (tr_br (tr_br (tr_lf (P := fun k e => chk k pc e = true) (fun e h => ok_97 e pc h)) (tr_lf (P := fun k e => chk k pc e = true) (fun e h => ok_96 e pc h))) (tr_br (tr_lf (P := fun k e => chk k pc e = true) (fun e h => ok_95 e pc h)) (tr_lf (P := fun k e => chk k pc e = true) (fun e h => ok_94 e pc h))))))) (tr_br (tr_br (tr_br (tr_br (tr_br (tr_lf (P := fun k e => chk k pc e = true) (fun e h => ok_93 e pc h)) (tr_lf (P := fun k e => chk k pc e = true) (fun e h => ok_92 e pc h))) (tr_br (tr_lf (P := fun k e => chk k pc e = true) (fun e h => ok_91 e pc h)) (tr_lf (P := fun k e => chk k pc e = true) (fun e h => ok_90 e pc h)))) (tr_br (tr_br (tr_lf (P := fun k e => chk k pc e = true) (fun e h => ok_89 e pc h)) (tr_lf (P := fun k e => chk k pc e = true) (fun e h => ok_88 e pc h))) (tr_br (tr_lf (P := fun k e => chk k pc e = true) (fun e h => ok_87 e pc h)) (tr_lf (P := fun k e => chk k pc e = true) (fun e h => ok_86 e pc h))))) (tr_br (tr_br (tr_br (tr_lf (P := fun k e => chk k pc e = true) (fun e h => ok_85 e pc h)) (tr_lf (P := fun k e => chk k pc e = true) (fun e h => ok_84 e pc h))) (tr_br (tr_lf (P := fun k e => chk k pc e = true) (fun e h => ok_83 e pc h)) (tr_lf (P := fun k e => chk k pc e = true) (fun e h => ok_82 e pc h)))) (tr_br (tr_br (tr_lf (P := fun k e => chk k pc e = true) (fun e h => ok_81 e pc h)) (tr_lf (P := fun k e => chk k pc e = true) (fun e h => ok_80 e pc h))) (tr_br (tr_lf (P := fun k e => chk k pc e = true) (fun e h => ok_79 e pc h)) (tr_lf (P := fun k e => chk k pc e = true) (fun e h => ok_78 e pc h)))))) (tr_br (tr_br (tr_br (tr_br (tr_lf (P := fun k e => chk k pc e = true) (fun e h => ok_77 e pc h)) (tr_lf (P := fun k e => chk k pc e = true) (fun e h => ok_76 e pc h))) (tr_br (tr_lf (P := fun k e => chk k pc e = true) (fun e h => ok_75 e pc h)) (tr_lf (P := fun k e => chk k pc e = true) (fun e h => ok_74 e pc h)))) (tr_br (tr_br (tr_lf (P := fun k e => chk k pc e = true) (fun e h => ok_73 e pc h)) (tr_lf (P := fun k e => chk k pc e = true) (fun e h => ok_72 e pc h))) (tr_br (tr_lf (P := fun k e => chk k pc e = true) (fun e h => ok_71 e pc h)) (tr_lf (P := fun k e => chk k pc e = true) (fun e h => ok_70 e pc h))))) (tr_br (tr_br (tr_br (tr_lf (P := fun k e => chk k pc e = true) (fun e h => ok_69 e pc h)) (tr_lf (P := fun k e => chk k pc e = true) (fun e h => ok_68 e pc h))) (tr_br (tr_lf (P := fun k e => chk k pc e = true) (fun e h => ok_67 e pc h)) (tr_lf (P := fun k e => chk k pc e = true) (fun e h => ok_66 e pc h)))) (tr_br (tr_br (tr_lf (P := fun k e => chk k pc e = true) (fun e h => ok_65 e pc h)) (tr_lf (P := fun k e => chk k pc e = true) (fun e h => ok_64 e pc h))) (tr_lf (P := fun k e => chk k pc e = true) (fun e h => ok_63 e pc h))))))) (tr_br (tr_br (tr_br (tr_br (tr_br (tr_br (tr_lf (P := fun k e => chk k pc e = true) (fun e h => ok_62 e pc h)) (tr_lf (P := fun k e => chk k pc e = true) (fun e h => ok_61 e pc h))) (tr_br (tr_lf (P := fun k e => chk k pc e = true) (fun e h => ok_60 e pc h)) (tr_lf (P := fun k e => chk k pc e = true) (fun e h => ok_59 e pc h)))) (tr_br (tr_br (tr_lf (P := fun k e => chk k pc e = true) (fun e h => ok_58 e pc h)) (tr_lf (P := fun k e => chk k pc e = true) (fun e h => ok_57 e pc h))) (tr_br (tr_lf (P := fun k e => chk k pc e = true) (fun e h => ok_56 e pc h)) (tr_lf (P := fun k e => chk k pc e = true) (fun e h => ok_55 e pc h))))) (tr_br (tr_br (tr_br (tr_lf (P := fun k e => chk k pc e = true) (fun e h => ok_54 e pc h)) (tr_lf (P := fun k e => chk k pc e = true) (fun e h => ok_53 e pc h))) (tr_br (tr_lf (P := fun k e => chk k pc e = true) (fun e h => ok_52 e pc h)) (tr_lf (P := fun k e => chk k pc e = true) (fun e h => ok_51 e pc h)))) (tr_br (tr_br (tr_lf (P := fun k e => chk k pc e = true) (fun e h => ok_50 e pc h)) (tr_lf (P := fun k e => chk k pc e = true) (fun e h => ok_49 e pc h))) (tr_br (tr_lf (P := fun k e => chk k pc e = true) (fun e h => ok_48 e pc h)) (tr_lf (P := fun k e => chk k pc e = true) (fun e h => ok_47 e pc h)))))) (tr_br (tr_br (tr_br (tr_br (tr_lf (P := fun k e => chk k pc e = true) (fun e h => ok_46 e pc h)) (tr_lf (P := fun k e => chk k pc e = true) (fun e h => ok_45 e pc h))) (tr_br (tr_lf (P := fun k e => chk k pc e = true) (fun e h => ok_44 e pc h)) (tr_lf (P := fun k e => chk k pc e = true) (fun e h => ok_43 e pc h)))) (tr_br (tr_br (tr_lf (P := fun k e => chk k pc e = true) (fun e h => ok_42 e pc h)) (tr_lf (P := fun k e => chk k pc e = true) (fun e h => ok_41 e pc h))) (tr_br (tr_lf (P := fun k e => chk k pc e = true) (fun e h => ok_40 e pc h)) (tr_lf (P := fun k e => chk k pc e = true) (fun e h => ok_39 e pc h))))) (tr_br (tr_br (tr_br (tr_lf (P := fun k e => chk k pc e = true) (fun e h => ok_38 e pc h)) (tr_lf (P := fun k e => chk k pc e = true) (fun e h => ok_37 e pc h))) (tr_br (tr_lf (P := fun k e => chk k pc e = true) (fun e h => ok_36 e pc h)) (tr_lf (P := fun k e => chk k pc e = true) (fun e h => ok_35 e pc h)))) (tr_br (tr_br (tr_lf (P := fun k e => chk k pc e = true) (fun e h => ok_34 e pc h)) (tr_lf (P := fun k e => chk k pc e = true) (fun e h => ok_33 e pc h))) (tr_br (tr_lf (P := fun k e => chk k pc e = true) (fun e h => ok_32 e pc h)) (tr_lf (P := fun k e => chk k pc e = true) (fun e h => ok_31 e pc h))))))) (tr_br (tr_br (tr_br (tr_br (tr_br (tr_lf (P := fun k e => chk k pc e = true) (fun e h => ok_30 e pc h)) (tr_lf (P := fun k e => chk k pc e = true) (fun e h => ok_29 e pc h))) (tr_br (tr_lf (P := fun k e => chk k pc e = true) (fun e h => ok_28 e pc h)) (tr_lf (P := fun k e => chk k pc e = true) (fun e h => ok_27 e pc h)))) (tr_br (tr_br (tr_lf (P := fun k e => chk k pc e = true) (fun e h => ok_26 e pc h)) (tr_lf (P := fun k e => chk k pc e = true) (fun e h => ok_25 e pc h))) (tr_br (tr_lf (P := fun k e => chk k pc e = true) (fun e h => ok_24 e pc h)) (tr_lf (P := fun k e => chk k pc e = true) (fun e h => ok_23 e pc h))))) (tr_br (tr_br (tr_br (tr_lf (P := fun k e => chk k pc e = true) (fun e h => ok_22 e pc h)) (tr_lf (P := fun k e => chk k pc e = true) (fun e h => ok_21 e pc h))) (tr_br (tr_lf (P := fun k e => chk k pc e = true) (fun e h => ok_20 e pc h)) (tr_lf (P := fun k e => chk k pc e = true) (fun e h => ok_19 e pc h)))) (tr_br (tr_br (tr_lf (P := fun k e => chk k pc e = true) (fun e h => ok_18 e pc h)) (tr_lf (P := fun k e => chk k pc e = true) (fun e h => ok_17 e pc h))) (tr_br (tr_lf (P := fun k e => chk k pc e = true) (fun e h => ok_16 e pc h)) (tr_lf (P := fun k e => chk k pc e = true) (fun e h => ok_15 e pc h)))))) (tr_br (tr_br (tr_br (tr_br (tr_lf (P := fun k e => chk k pc e = true) (fun e h => ok_14 e pc h)) (tr_lf (P := fun k e => chk k pc e = true) (fun e h => ok_13 e pc h))) (tr_br (tr_lf (P := fun k e => chk k pc e = true) (fun e h => ok_12 e pc h)) (tr_lf (P := fun k e => chk k pc e = true) (fun e h => ok_11 e pc h)))) (tr_br (tr_br (tr_lf (P := fun k e => chk k pc e = true) (fun e h => ok_10 e pc h)) (tr_lf (P := fun k e => chk k pc e = true) (fun e h => ok_9 e pc h))) (tr_br (tr_lf (P := fun k e => chk k pc e = true) (fun e h => ok_8 e pc h)) (tr_lf (P := fun k e => chk k pc e = true) (fun e h => ok_7 e pc h))))) (tr_br (tr_br (tr_br (tr_lf (P := fun k e => chk k pc e = true) (fun e h => ok_6 e pc h)) (tr_lf (P := fun k e => chk k pc e = true) (fun e h => ok_5 e pc h))) (tr_br (tr_lf (P := fun k e => chk k pc e = true) (fun e h => ok_4 e pc h)) (tr_lf (P := fun k e => chk k pc e = true) (fun e h => ok_3 e pc h)))) (tr_br (tr_br (tr_lf (P := fun k e => chk k pc e = true) (fun e h => ok_2 e pc h)) (tr_lf (P := fun k e => chk k pc e = true) (fun e h => ok_1 e pc h))) (tr_lf (P := fun k e => chk k pc e = true) (fun e h => ok_0 e pc h))))))))
