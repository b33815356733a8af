def rh_0 : Nat → Nat → Option Nat := fun _ _ => none
def mu_0 : ax_M := (fun _ _ => 0, fun _ _ => 0)
theorem ax_obj : Cond.instanceMethod objectInit ∈ ax_tbl ∧ Cond.code objectInit ⟨#[0xb1]⟩ 1 none ∈ ax_tbl := ⟨ax_tbl_of 30 (by decide +kernel) rfl, ax_tbl_of 31 (by decide +kernel) rfl⟩
theorem ax_arr_int : Cond.arrayClass (newarray.typeOf .int) ∈ ax_tbl := ax_tbl_of 158 (by decide +kernel) rfl
theorem ax_arr_long : Cond.arrayClass (newarray.typeOf .long) ∈ ax_tbl := ax_tbl_of 1354 (by decide +kernel) rfl
theorem ax_arr_boolean : Cond.arrayClass (newarray.typeOf .boolean) ∈ ax_tbl := ax_tbl_of 1353 (by decide +kernel) rfl
theorem olX8_1 : Cond.methodLink RX8 1 objectInit ∈ ax_tbl := ax_tbl_of 29 (by decide +kernel) rfl
theorem kic_8_0 : ax_kR 8 0 := fun _ _ _ => rfl
theorem fwX8_9 : Cond.fieldLink RX8 9 RX8 (TX8 0).2.1 (TX8 0).2.2.1 ∈ ax_tbl := ax_tbl_of 387 (by decide +kernel) rfl
def rh_1 : Nat → Nat → Option Nat := ax_upR rh_0 0 0 1
theorem nwX8_13 : Cond.classLink RX8 13 RX1 ∈ ax_tbl ∧ Cond.instantiable RX1 19 ∈ ax_tbl ∧ Cond.initialized RX1 ∈ ax_tbl := ⟨ax_tbl_of 32 (by decide +kernel) rfl, ax_tbl_of 33 (by decide +kernel) rfl, ax_tbl_of 2 (by decide +kernel) rfl⟩
theorem okty_1 : ∀ j, j < 19 → (match ax_ty 1 j with | .float => false | .double => false | _ => true) = true := by decide +kernel
theorem olX1_3 : Cond.methodLink RX1 3 objectInit ∈ ax_tbl := ax_tbl_of 37 (by decide +kernel) rfl
theorem kic_1_0 : ax_kR 1 0 := fun _ _ _ => rfl
theorem fwX1_9 : Cond.fieldLink RX1 9 RX1 (TX1 0).2.1 (TX1 0).2.2.1 ∈ ax_tbl := ax_tbl_of 38 (by decide +kernel) rfl
def rh_2 : Nat → Nat → Option Nat := ax_upR rh_1 2 0 3
theorem kic_1_1 : ax_kR 1 1 := fun _ _ _ => rfl
theorem fwX1_15 : Cond.fieldLink RX1 15 RX1 (TX1 1).2.1 (TX1 1).2.2.1 ∈ ax_tbl := ax_tbl_of 41 (by decide +kernel) rfl
def rh_3 : Nat → Nat → Option Nat := ax_upR rh_2 2 1 4
theorem kic_1_2 : ax_kR 1 2 := fun _ _ _ => rfl
theorem fwX1_18 : Cond.fieldLink RX1 18 RX1 (TX1 2).2.1 (TX1 2).2.2.1 ∈ ax_tbl := ax_tbl_of 45 (by decide +kernel) rfl
def rh_4 : Nat → Nat → Option Nat := ax_upR rh_3 2 2 5
theorem kic_1_3 : ax_kR 1 3 := fun _ _ _ => rfl
theorem fwX1_21 : Cond.fieldLink RX1 21 RX1 (TX1 3).2.1 (TX1 3).2.2.1 ∈ ax_tbl := ax_tbl_of 49 (by decide +kernel) rfl
def rh_5 : Nat → Nat → Option Nat := ax_upR rh_4 2 3 6
theorem kic_1_4 : ax_kR 1 4 := fun _ _ _ => rfl
theorem fwX1_24 : Cond.fieldLink RX1 24 RX1 (TX1 4).2.1 (TX1 4).2.2.1 ∈ ax_tbl := ax_tbl_of 52 (by decide +kernel) rfl
def rh_6 : Nat → Nat → Option Nat := ax_upR rh_5 2 4 7
theorem kic_1_5 : ax_kR 1 5 := fun _ _ _ => rfl
theorem fwX1_27 : Cond.fieldLink RX1 27 RX1 (TX1 5).2.1 (TX1 5).2.2.1 ∈ ax_tbl := ax_tbl_of 57 (by decide +kernel) rfl
def rh_7 : Nat → Nat → Option Nat := ax_upR rh_6 2 5 8
theorem kic_1_6 : ax_kR 1 6 := fun _ _ _ => rfl
theorem fwX1_30 : Cond.fieldLink RX1 30 RX1 (TX1 6).2.1 (TX1 6).2.2.1 ∈ ax_tbl := ax_tbl_of 62 (by decide +kernel) rfl
def rh_8 : Nat → Nat → Option Nat := ax_upR rh_7 2 6 9
theorem kic_1_7 : ax_kR 1 7 := fun _ _ _ => rfl
theorem fwX1_33 : Cond.fieldLink RX1 33 RX1 (TX1 7).2.1 (TX1 7).2.2.1 ∈ ax_tbl := ax_tbl_of 65 (by decide +kernel) rfl
def rh_9 : Nat → Nat → Option Nat := ax_upR rh_8 2 7 10
theorem kic_1_8 : ax_kR 1 8 := fun _ _ _ => rfl
theorem fwX1_36 : Cond.fieldLink RX1 36 RX1 (TX1 8).2.1 (TX1 8).2.2.1 ∈ ax_tbl := ax_tbl_of 68 (by decide +kernel) rfl
def rh_10 : Nat → Nat → Option Nat := ax_upR rh_9 2 8 11
theorem kic_1_9 : ax_kR 1 9 := fun _ _ _ => rfl
theorem fwX1_39 : Cond.fieldLink RX1 39 RX1 (TX1 9).2.1 (TX1 9).2.2.1 ∈ ax_tbl := ax_tbl_of 74 (by decide +kernel) rfl
def rh_11 : Nat → Nat → Option Nat := ax_upR rh_10 2 9 12
theorem kic_1_10 : ax_kR 1 10 := fun _ _ _ => rfl
theorem fwX1_42 : Cond.fieldLink RX1 42 RX1 (TX1 10).2.1 (TX1 10).2.2.1 ∈ ax_tbl := ax_tbl_of 80 (by decide +kernel) rfl
def rh_12 : Nat → Nat → Option Nat := ax_upR rh_11 2 10 13
theorem kic_1_11 : ax_kR 1 11 := fun _ _ _ => rfl
theorem fwX1_45 : Cond.fieldLink RX1 45 RX1 (TX1 11).2.1 (TX1 11).2.2.1 ∈ ax_tbl := ax_tbl_of 84 (by decide +kernel) rfl
def rh_13 : Nat → Nat → Option Nat := ax_upR rh_12 2 11 14
theorem kic_1_16 : ax_kI 1 16 := fun _ _ _ => rfl
theorem fwX1_48 : Cond.fieldLink RX1 48 RX1 (TX1 16).2.1 (TX1 16).2.2.1 ∈ ax_tbl := ax_tbl_of 108 (by decide +kernel) rfl
def mu_1 : ax_M := ax_wi mu_0 2 16 (100 : Int32)
abbrev mX1_init : ax_Mi := (yX1_init, cX1_init, 1, none)
theorem hhX1_init : ax_hd mX1_init 0 := ⟨by decide +kernel, Nat.le_of_ble_eq_true rfl, ax_tbl_of 36 (by decide +kernel) rfl, ax_tbl_of 2 (by decide +kernel) rfl⟩
theorem okc_X1_init_2 : ax_OkC mX1_init 1 12 158 [.ref 2] 3 15 rh_1 rh_13 mu_0 (some ((), mu_1)) := by
  refine ax_startC (lc := [some (.ref 2)]) 0 (by decide) rfl (Nat.le_of_ble_eq_true rfl) (fun x D cA b gx hk0 hmc hms => ?_)
  refine rf_aload_n (n := 1) 0 dX1_init_0 rfl rfl rfl ?_
  refine rf_objI (n := 4) olX1_3 ax_obj (Nat.le_of_ble_eq_true rfl) (Nat.le_of_ble_eq_true rfl) (Nat.le_of_ble_eq_true rfl) dX1_init_1 rfl ?_
  refine rf_aload_n (n := 5) 0 dX1_init_4 rfl rfl rfl ?_
  refine rf_iconst (n := 6) (4 : Int32) dX1_init_5 (by decide) rfl ?_
  refine rf_newAI (n := 8) 3 hk0 rfl (N := 4) rfl (by decide) (by decide) (by decide) (fun _ => rfl) (Nat.le_of_ble_eq_true rfl) (by rw [← hmc]; exact (Nat.le_of_ble_eq_true rfl)) (by rw [← hms]; exact (Nat.le_of_ble_eq_true rfl)) ax_arr_int dX1_init_6 rfl ?_
  refine rf_putF (n := 11) (q := (RX1, TX1, 19)) (c := 1) (j := 0) (ty := .array .int) rfl (by decide) ⟨rfl, rfl⟩ fwX1_9 rfl rfl kic_1_0 rfl ⟨rfl, rfl⟩ rfl (Nat.le_of_ble_eq_true rfl) (Nat.le_of_ble_eq_true rfl) (Nat.le_of_ble_eq_true rfl) dX1_init_8 rfl ?_
  refine rf_aload_n (n := 12) 0 dX1_init_11 rfl rfl rfl ?_
  refine rf_iconst (n := 13) (4 : Int32) dX1_init_12 (by decide) rfl ?_
  refine rf_newAI (n := 15) 3 hk0 rfl (N := 4) rfl (by decide) (by decide) (by decide) (fun _ => rfl) (Nat.le_of_ble_eq_true rfl) (by rw [← hmc]; exact (Nat.le_of_ble_eq_true rfl)) (by rw [← hms]; exact (Nat.le_of_ble_eq_true rfl)) ax_arr_int dX1_init_13 rfl ?_
  refine rf_putF (n := 18) (q := (RX1, TX1, 19)) (c := 1) (j := 1) (ty := .array .int) rfl (by decide) ⟨rfl, rfl⟩ fwX1_15 rfl rfl kic_1_1 rfl ⟨rfl, rfl⟩ rfl (Nat.le_of_ble_eq_true rfl) (Nat.le_of_ble_eq_true rfl) (Nat.le_of_ble_eq_true rfl) dX1_init_15 rfl ?_
  refine rf_aload_n (n := 19) 0 dX1_init_18 rfl rfl rfl ?_
  refine rf_iconst (n := 20) (4 : Int32) dX1_init_19 (by decide) rfl ?_
  refine rf_newAI (n := 22) 3 hk0 rfl (N := 4) rfl (by decide) (by decide) (by decide) (fun _ => rfl) (Nat.le_of_ble_eq_true rfl) (by rw [← hmc]; exact (Nat.le_of_ble_eq_true rfl)) (by rw [← hms]; exact (Nat.le_of_ble_eq_true rfl)) ax_arr_int dX1_init_20 rfl ?_
  refine rf_putF (n := 25) (q := (RX1, TX1, 19)) (c := 1) (j := 2) (ty := .array .int) rfl (by decide) ⟨rfl, rfl⟩ fwX1_18 rfl rfl kic_1_2 rfl ⟨rfl, rfl⟩ rfl (Nat.le_of_ble_eq_true rfl) (Nat.le_of_ble_eq_true rfl) (Nat.le_of_ble_eq_true rfl) dX1_init_22 rfl ?_
  refine rf_aload_n (n := 26) 0 dX1_init_25 rfl rfl rfl ?_
  refine rf_bipush (n := 28) (10 : Int32) dX1_init_26 (by decide) rfl ?_
  refine rf_newAI (n := 30) 3 hk0 rfl (N := 10) rfl (by decide) (by decide) (by decide) (fun _ => rfl) (Nat.le_of_ble_eq_true rfl) (by rw [← hmc]; exact (Nat.le_of_ble_eq_true rfl)) (by rw [← hms]; exact (Nat.le_of_ble_eq_true rfl)) ax_arr_int dX1_init_28 rfl ?_
  refine rf_putF (n := 33) (q := (RX1, TX1, 19)) (c := 1) (j := 3) (ty := .array .int) rfl (by decide) ⟨rfl, rfl⟩ fwX1_21 rfl rfl kic_1_3 rfl ⟨rfl, rfl⟩ rfl (Nat.le_of_ble_eq_true rfl) (Nat.le_of_ble_eq_true rfl) (Nat.le_of_ble_eq_true rfl) dX1_init_30 rfl ?_
  refine rf_aload_n (n := 34) 0 dX1_init_33 rfl rfl rfl ?_
  refine rf_bipush (n := 36) (10 : Int32) dX1_init_34 (by decide) rfl ?_
  refine rf_newAI (n := 38) 3 hk0 rfl (N := 10) rfl (by decide) (by decide) (by decide) (fun _ => rfl) (Nat.le_of_ble_eq_true rfl) (by rw [← hmc]; exact (Nat.le_of_ble_eq_true rfl)) (by rw [← hms]; exact (Nat.le_of_ble_eq_true rfl)) ax_arr_int dX1_init_36 rfl ?_
  refine rf_putF (n := 41) (q := (RX1, TX1, 19)) (c := 1) (j := 4) (ty := .array .int) rfl (by decide) ⟨rfl, rfl⟩ fwX1_24 rfl rfl kic_1_4 rfl ⟨rfl, rfl⟩ rfl (Nat.le_of_ble_eq_true rfl) (Nat.le_of_ble_eq_true rfl) (Nat.le_of_ble_eq_true rfl) dX1_init_38 rfl ?_
  refine rf_aload_n (n := 42) 0 dX1_init_41 rfl rfl rfl ?_
  refine rf_bipush (n := 44) (10 : Int32) dX1_init_42 (by decide) rfl ?_
  refine rf_newAI (n := 46) 3 hk0 rfl (N := 10) rfl (by decide) (by decide) (by decide) (fun _ => rfl) (Nat.le_of_ble_eq_true rfl) (by rw [← hmc]; exact (Nat.le_of_ble_eq_true rfl)) (by rw [← hms]; exact (Nat.le_of_ble_eq_true rfl)) ax_arr_int dX1_init_44 rfl ?_
  refine rf_putF (n := 49) (q := (RX1, TX1, 19)) (c := 1) (j := 5) (ty := .array .int) rfl (by decide) ⟨rfl, rfl⟩ fwX1_27 rfl rfl kic_1_5 rfl ⟨rfl, rfl⟩ rfl (Nat.le_of_ble_eq_true rfl) (Nat.le_of_ble_eq_true rfl) (Nat.le_of_ble_eq_true rfl) dX1_init_46 rfl ?_
  refine rf_aload_n (n := 50) 0 dX1_init_49 rfl rfl rfl ?_
  refine rf_bipush (n := 52) (10 : Int32) dX1_init_50 (by decide) rfl ?_
  refine rf_newAI (n := 54) 3 hk0 rfl (N := 10) rfl (by decide) (by decide) (by decide) (fun _ => rfl) (Nat.le_of_ble_eq_true rfl) (by rw [← hmc]; exact (Nat.le_of_ble_eq_true rfl)) (by rw [← hms]; exact (Nat.le_of_ble_eq_true rfl)) ax_arr_int dX1_init_52 rfl ?_
  refine rf_putF (n := 57) (q := (RX1, TX1, 19)) (c := 1) (j := 6) (ty := .array .int) rfl (by decide) ⟨rfl, rfl⟩ fwX1_30 rfl rfl kic_1_6 rfl ⟨rfl, rfl⟩ rfl (Nat.le_of_ble_eq_true rfl) (Nat.le_of_ble_eq_true rfl) (Nat.le_of_ble_eq_true rfl) dX1_init_54 rfl ?_
  refine rf_aload_n (n := 58) 0 dX1_init_57 rfl rfl rfl ?_
  refine rf_bipush (n := 60) (10 : Int32) dX1_init_58 (by decide) rfl ?_
  refine rf_newAI (n := 62) 3 hk0 rfl (N := 10) rfl (by decide) (by decide) (by decide) (fun _ => rfl) (Nat.le_of_ble_eq_true rfl) (by rw [← hmc]; exact (Nat.le_of_ble_eq_true rfl)) (by rw [← hms]; exact (Nat.le_of_ble_eq_true rfl)) ax_arr_int dX1_init_60 rfl ?_
  refine rf_putF (n := 65) (q := (RX1, TX1, 19)) (c := 1) (j := 7) (ty := .array .int) rfl (by decide) ⟨rfl, rfl⟩ fwX1_33 rfl rfl kic_1_7 rfl ⟨rfl, rfl⟩ rfl (Nat.le_of_ble_eq_true rfl) (Nat.le_of_ble_eq_true rfl) (Nat.le_of_ble_eq_true rfl) dX1_init_62 rfl ?_
  refine rf_aload_n (n := 66) 0 dX1_init_65 rfl rfl rfl ?_
  refine rf_bipush (n := 68) (24 : Int32) dX1_init_66 (by decide) rfl ?_
  refine rf_newAI (n := 70) 3 hk0 rfl (N := 24) rfl (by decide) (by decide) (by decide) (fun _ => rfl) (Nat.le_of_ble_eq_true rfl) (by rw [← hmc]; exact (Nat.le_of_ble_eq_true rfl)) (by rw [← hms]; exact (Nat.le_of_ble_eq_true rfl)) ax_arr_int dX1_init_68 rfl ?_
  refine rf_putF (n := 73) (q := (RX1, TX1, 19)) (c := 1) (j := 8) (ty := .array .int) rfl (by decide) ⟨rfl, rfl⟩ fwX1_36 rfl rfl kic_1_8 rfl ⟨rfl, rfl⟩ rfl (Nat.le_of_ble_eq_true rfl) (Nat.le_of_ble_eq_true rfl) (Nat.le_of_ble_eq_true rfl) dX1_init_70 rfl ?_
  refine rf_aload_n (n := 74) 0 dX1_init_73 rfl rfl rfl ?_
  refine rf_bipush (n := 76) (24 : Int32) dX1_init_74 (by decide) rfl ?_
  refine rf_newAI (n := 78) 3 hk0 rfl (N := 24) rfl (by decide) (by decide) (by decide) (fun _ => rfl) (Nat.le_of_ble_eq_true rfl) (by rw [← hmc]; exact (Nat.le_of_ble_eq_true rfl)) (by rw [← hms]; exact (Nat.le_of_ble_eq_true rfl)) ax_arr_int dX1_init_76 rfl ?_
  refine rf_putF (n := 81) (q := (RX1, TX1, 19)) (c := 1) (j := 9) (ty := .array .int) rfl (by decide) ⟨rfl, rfl⟩ fwX1_39 rfl rfl kic_1_9 rfl ⟨rfl, rfl⟩ rfl (Nat.le_of_ble_eq_true rfl) (Nat.le_of_ble_eq_true rfl) (Nat.le_of_ble_eq_true rfl) dX1_init_78 rfl ?_
  refine rf_aload_n (n := 82) 0 dX1_init_81 rfl rfl rfl ?_
  refine rf_bipush (n := 84) (24 : Int32) dX1_init_82 (by decide) rfl ?_
  refine rf_newAI (n := 86) 3 hk0 rfl (N := 24) rfl (by decide) (by decide) (by decide) (fun _ => rfl) (Nat.le_of_ble_eq_true rfl) (by rw [← hmc]; exact (Nat.le_of_ble_eq_true rfl)) (by rw [← hms]; exact (Nat.le_of_ble_eq_true rfl)) ax_arr_int dX1_init_84 rfl ?_
  refine rf_putF (n := 89) (q := (RX1, TX1, 19)) (c := 1) (j := 10) (ty := .array .int) rfl (by decide) ⟨rfl, rfl⟩ fwX1_42 rfl rfl kic_1_10 rfl ⟨rfl, rfl⟩ rfl (Nat.le_of_ble_eq_true rfl) (Nat.le_of_ble_eq_true rfl) (Nat.le_of_ble_eq_true rfl) dX1_init_86 rfl ?_
  refine rf_aload_n (n := 90) 0 dX1_init_89 rfl rfl rfl ?_
  refine rf_bipush (n := 92) (24 : Int32) dX1_init_90 (by decide) rfl ?_
  refine rf_newAI (n := 94) 3 hk0 rfl (N := 24) rfl (by decide) (by decide) (by decide) (fun _ => rfl) (Nat.le_of_ble_eq_true rfl) (by rw [← hmc]; exact (Nat.le_of_ble_eq_true rfl)) (by rw [← hms]; exact (Nat.le_of_ble_eq_true rfl)) ax_arr_int dX1_init_92 rfl ?_
  refine rf_putF (n := 97) (q := (RX1, TX1, 19)) (c := 1) (j := 11) (ty := .array .int) rfl (by decide) ⟨rfl, rfl⟩ fwX1_45 rfl rfl kic_1_11 rfl ⟨rfl, rfl⟩ rfl (Nat.le_of_ble_eq_true rfl) (Nat.le_of_ble_eq_true rfl) (Nat.le_of_ble_eq_true rfl) dX1_init_94 rfl ?_
  refine rf_aload_n (n := 98) 0 dX1_init_97 rfl rfl rfl ?_
  refine rf_bipush (n := 100) (100 : Int32) dX1_init_98 (by decide) rfl ?_
  refine rf_putIc (n := 103) (q := (RX1, TX1, 19)) (c := 1) (j := 16) rfl (by decide) rfl fwX1_48 rfl kic_1_16 rfl rfl (Nat.le_of_ble_eq_true rfl) (Nat.le_of_ble_eq_true rfl) dX1_init_100 rfl ?_
  exact rf_retC rfl dX1_init_103
theorem ljX8_15 : ax_lJ RX8 15 mX1_init := ⟨"LatchTimes", by simp [ax_nest], ax_tbl_of 35 (by decide +kernel) rfl⟩
theorem kic_8_2 : ax_kR 8 2 := fun _ _ _ => rfl
theorem fwX8_16 : Cond.fieldLink RX8 16 RX8 (TX8 2).2.1 (TX8 2).2.2.1 ∈ ax_tbl := ax_tbl_of 389 (by decide +kernel) rfl
def rh_14 : Nat → Nat → Option Nat := ax_upR rh_13 0 2 2
theorem nwX8_20 : Cond.classLink RX8 20 RX3 ∈ ax_tbl ∧ Cond.instantiable RX3 13 ∈ ax_tbl ∧ Cond.initialized RX3 ∈ ax_tbl := ⟨ax_tbl_of 159 (by decide +kernel) rfl, ax_tbl_of 160 (by decide +kernel) rfl, ax_tbl_of 3 (by decide +kernel) rfl⟩
theorem okty_3 : ∀ j, j < 13 → (match ax_ty 3 j with | .float => false | .double => false | _ => true) = true := by decide +kernel
theorem olX3_3 : Cond.methodLink RX3 3 objectInit ∈ ax_tbl := ax_tbl_of 164 (by decide +kernel) rfl
theorem nwX3_9 : Cond.classLink RX3 9 RX1 ∈ ax_tbl ∧ Cond.instantiable RX1 19 ∈ ax_tbl ∧ Cond.initialized RX1 ∈ ax_tbl := ⟨ax_tbl_of 165 (by decide +kernel) rfl, ax_tbl_of 33 (by decide +kernel) rfl, ax_tbl_of 2 (by decide +kernel) rfl⟩
def rh_15 : Nat → Nat → Option Nat := ax_upR rh_14 16 0 17
def rh_16 : Nat → Nat → Option Nat := ax_upR rh_15 16 1 18
def rh_17 : Nat → Nat → Option Nat := ax_upR rh_16 16 2 19
def rh_18 : Nat → Nat → Option Nat := ax_upR rh_17 16 3 20
def rh_19 : Nat → Nat → Option Nat := ax_upR rh_18 16 4 21
def rh_20 : Nat → Nat → Option Nat := ax_upR rh_19 16 5 22
def rh_21 : Nat → Nat → Option Nat := ax_upR rh_20 16 6 23
def rh_22 : Nat → Nat → Option Nat := ax_upR rh_21 16 7 24
def rh_23 : Nat → Nat → Option Nat := ax_upR rh_22 16 8 25
def rh_24 : Nat → Nat → Option Nat := ax_upR rh_23 16 9 26
def rh_25 : Nat → Nat → Option Nat := ax_upR rh_24 16 10 27
def rh_26 : Nat → Nat → Option Nat := ax_upR rh_25 16 11 28
def mu_2 : ax_M := ax_wi mu_1 16 16 (100 : Int32)
theorem okc_X1_init_16 : ax_OkC mX1_init 1 12 158 [.ref 16] 17 29 rh_14 rh_26 mu_1 (some ((), mu_2)) := by
  refine ax_startC (lc := [some (.ref 16)]) 0 (by decide) rfl (Nat.le_of_ble_eq_true rfl) (fun x D cA b gx hk0 hmc hms => ?_)
  refine rf_aload_n (n := 1) 0 dX1_init_0 rfl rfl rfl ?_
  refine rf_objI (n := 4) olX1_3 ax_obj (Nat.le_of_ble_eq_true rfl) (Nat.le_of_ble_eq_true rfl) (Nat.le_of_ble_eq_true rfl) dX1_init_1 rfl ?_
  refine rf_aload_n (n := 5) 0 dX1_init_4 rfl rfl rfl ?_
  refine rf_iconst (n := 6) (4 : Int32) dX1_init_5 (by decide) rfl ?_
  refine rf_newAI (n := 8) 17 hk0 rfl (N := 4) rfl (by decide) (by decide) (by decide) (fun _ => rfl) (Nat.le_of_ble_eq_true rfl) (by rw [← hmc]; exact (Nat.le_of_ble_eq_true rfl)) (by rw [← hms]; exact (Nat.le_of_ble_eq_true rfl)) ax_arr_int dX1_init_6 rfl ?_
  refine rf_putF (n := 11) (q := (RX1, TX1, 19)) (c := 1) (j := 0) (ty := .array .int) rfl (by decide) ⟨rfl, rfl⟩ fwX1_9 rfl rfl kic_1_0 rfl ⟨rfl, rfl⟩ rfl (Nat.le_of_ble_eq_true rfl) (Nat.le_of_ble_eq_true rfl) (Nat.le_of_ble_eq_true rfl) dX1_init_8 rfl ?_
  refine rf_aload_n (n := 12) 0 dX1_init_11 rfl rfl rfl ?_
  refine rf_iconst (n := 13) (4 : Int32) dX1_init_12 (by decide) rfl ?_
  refine rf_newAI (n := 15) 17 hk0 rfl (N := 4) rfl (by decide) (by decide) (by decide) (fun _ => rfl) (Nat.le_of_ble_eq_true rfl) (by rw [← hmc]; exact (Nat.le_of_ble_eq_true rfl)) (by rw [← hms]; exact (Nat.le_of_ble_eq_true rfl)) ax_arr_int dX1_init_13 rfl ?_
  refine rf_putF (n := 18) (q := (RX1, TX1, 19)) (c := 1) (j := 1) (ty := .array .int) rfl (by decide) ⟨rfl, rfl⟩ fwX1_15 rfl rfl kic_1_1 rfl ⟨rfl, rfl⟩ rfl (Nat.le_of_ble_eq_true rfl) (Nat.le_of_ble_eq_true rfl) (Nat.le_of_ble_eq_true rfl) dX1_init_15 rfl ?_
  refine rf_aload_n (n := 19) 0 dX1_init_18 rfl rfl rfl ?_
  refine rf_iconst (n := 20) (4 : Int32) dX1_init_19 (by decide) rfl ?_
  refine rf_newAI (n := 22) 17 hk0 rfl (N := 4) rfl (by decide) (by decide) (by decide) (fun _ => rfl) (Nat.le_of_ble_eq_true rfl) (by rw [← hmc]; exact (Nat.le_of_ble_eq_true rfl)) (by rw [← hms]; exact (Nat.le_of_ble_eq_true rfl)) ax_arr_int dX1_init_20 rfl ?_
  refine rf_putF (n := 25) (q := (RX1, TX1, 19)) (c := 1) (j := 2) (ty := .array .int) rfl (by decide) ⟨rfl, rfl⟩ fwX1_18 rfl rfl kic_1_2 rfl ⟨rfl, rfl⟩ rfl (Nat.le_of_ble_eq_true rfl) (Nat.le_of_ble_eq_true rfl) (Nat.le_of_ble_eq_true rfl) dX1_init_22 rfl ?_
  refine rf_aload_n (n := 26) 0 dX1_init_25 rfl rfl rfl ?_
  refine rf_bipush (n := 28) (10 : Int32) dX1_init_26 (by decide) rfl ?_
  refine rf_newAI (n := 30) 17 hk0 rfl (N := 10) rfl (by decide) (by decide) (by decide) (fun _ => rfl) (Nat.le_of_ble_eq_true rfl) (by rw [← hmc]; exact (Nat.le_of_ble_eq_true rfl)) (by rw [← hms]; exact (Nat.le_of_ble_eq_true rfl)) ax_arr_int dX1_init_28 rfl ?_
  refine rf_putF (n := 33) (q := (RX1, TX1, 19)) (c := 1) (j := 3) (ty := .array .int) rfl (by decide) ⟨rfl, rfl⟩ fwX1_21 rfl rfl kic_1_3 rfl ⟨rfl, rfl⟩ rfl (Nat.le_of_ble_eq_true rfl) (Nat.le_of_ble_eq_true rfl) (Nat.le_of_ble_eq_true rfl) dX1_init_30 rfl ?_
  refine rf_aload_n (n := 34) 0 dX1_init_33 rfl rfl rfl ?_
  refine rf_bipush (n := 36) (10 : Int32) dX1_init_34 (by decide) rfl ?_
  refine rf_newAI (n := 38) 17 hk0 rfl (N := 10) rfl (by decide) (by decide) (by decide) (fun _ => rfl) (Nat.le_of_ble_eq_true rfl) (by rw [← hmc]; exact (Nat.le_of_ble_eq_true rfl)) (by rw [← hms]; exact (Nat.le_of_ble_eq_true rfl)) ax_arr_int dX1_init_36 rfl ?_
  refine rf_putF (n := 41) (q := (RX1, TX1, 19)) (c := 1) (j := 4) (ty := .array .int) rfl (by decide) ⟨rfl, rfl⟩ fwX1_24 rfl rfl kic_1_4 rfl ⟨rfl, rfl⟩ rfl (Nat.le_of_ble_eq_true rfl) (Nat.le_of_ble_eq_true rfl) (Nat.le_of_ble_eq_true rfl) dX1_init_38 rfl ?_
  refine rf_aload_n (n := 42) 0 dX1_init_41 rfl rfl rfl ?_
  refine rf_bipush (n := 44) (10 : Int32) dX1_init_42 (by decide) rfl ?_
  refine rf_newAI (n := 46) 17 hk0 rfl (N := 10) rfl (by decide) (by decide) (by decide) (fun _ => rfl) (Nat.le_of_ble_eq_true rfl) (by rw [← hmc]; exact (Nat.le_of_ble_eq_true rfl)) (by rw [← hms]; exact (Nat.le_of_ble_eq_true rfl)) ax_arr_int dX1_init_44 rfl ?_
  refine rf_putF (n := 49) (q := (RX1, TX1, 19)) (c := 1) (j := 5) (ty := .array .int) rfl (by decide) ⟨rfl, rfl⟩ fwX1_27 rfl rfl kic_1_5 rfl ⟨rfl, rfl⟩ rfl (Nat.le_of_ble_eq_true rfl) (Nat.le_of_ble_eq_true rfl) (Nat.le_of_ble_eq_true rfl) dX1_init_46 rfl ?_
  refine rf_aload_n (n := 50) 0 dX1_init_49 rfl rfl rfl ?_
  refine rf_bipush (n := 52) (10 : Int32) dX1_init_50 (by decide) rfl ?_
  refine rf_newAI (n := 54) 17 hk0 rfl (N := 10) rfl (by decide) (by decide) (by decide) (fun _ => rfl) (Nat.le_of_ble_eq_true rfl) (by rw [← hmc]; exact (Nat.le_of_ble_eq_true rfl)) (by rw [← hms]; exact (Nat.le_of_ble_eq_true rfl)) ax_arr_int dX1_init_52 rfl ?_
  refine rf_putF (n := 57) (q := (RX1, TX1, 19)) (c := 1) (j := 6) (ty := .array .int) rfl (by decide) ⟨rfl, rfl⟩ fwX1_30 rfl rfl kic_1_6 rfl ⟨rfl, rfl⟩ rfl (Nat.le_of_ble_eq_true rfl) (Nat.le_of_ble_eq_true rfl) (Nat.le_of_ble_eq_true rfl) dX1_init_54 rfl ?_
  refine rf_aload_n (n := 58) 0 dX1_init_57 rfl rfl rfl ?_
  refine rf_bipush (n := 60) (10 : Int32) dX1_init_58 (by decide) rfl ?_
  refine rf_newAI (n := 62) 17 hk0 rfl (N := 10) rfl (by decide) (by decide) (by decide) (fun _ => rfl) (Nat.le_of_ble_eq_true rfl) (by rw [← hmc]; exact (Nat.le_of_ble_eq_true rfl)) (by rw [← hms]; exact (Nat.le_of_ble_eq_true rfl)) ax_arr_int dX1_init_60 rfl ?_
  refine rf_putF (n := 65) (q := (RX1, TX1, 19)) (c := 1) (j := 7) (ty := .array .int) rfl (by decide) ⟨rfl, rfl⟩ fwX1_33 rfl rfl kic_1_7 rfl ⟨rfl, rfl⟩ rfl (Nat.le_of_ble_eq_true rfl) (Nat.le_of_ble_eq_true rfl) (Nat.le_of_ble_eq_true rfl) dX1_init_62 rfl ?_
  refine rf_aload_n (n := 66) 0 dX1_init_65 rfl rfl rfl ?_
  refine rf_bipush (n := 68) (24 : Int32) dX1_init_66 (by decide) rfl ?_
  refine rf_newAI (n := 70) 17 hk0 rfl (N := 24) rfl (by decide) (by decide) (by decide) (fun _ => rfl) (Nat.le_of_ble_eq_true rfl) (by rw [← hmc]; exact (Nat.le_of_ble_eq_true rfl)) (by rw [← hms]; exact (Nat.le_of_ble_eq_true rfl)) ax_arr_int dX1_init_68 rfl ?_
  refine rf_putF (n := 73) (q := (RX1, TX1, 19)) (c := 1) (j := 8) (ty := .array .int) rfl (by decide) ⟨rfl, rfl⟩ fwX1_36 rfl rfl kic_1_8 rfl ⟨rfl, rfl⟩ rfl (Nat.le_of_ble_eq_true rfl) (Nat.le_of_ble_eq_true rfl) (Nat.le_of_ble_eq_true rfl) dX1_init_70 rfl ?_
  refine rf_aload_n (n := 74) 0 dX1_init_73 rfl rfl rfl ?_
  refine rf_bipush (n := 76) (24 : Int32) dX1_init_74 (by decide) rfl ?_
  refine rf_newAI (n := 78) 17 hk0 rfl (N := 24) rfl (by decide) (by decide) (by decide) (fun _ => rfl) (Nat.le_of_ble_eq_true rfl) (by rw [← hmc]; exact (Nat.le_of_ble_eq_true rfl)) (by rw [← hms]; exact (Nat.le_of_ble_eq_true rfl)) ax_arr_int dX1_init_76 rfl ?_
  refine rf_putF (n := 81) (q := (RX1, TX1, 19)) (c := 1) (j := 9) (ty := .array .int) rfl (by decide) ⟨rfl, rfl⟩ fwX1_39 rfl rfl kic_1_9 rfl ⟨rfl, rfl⟩ rfl (Nat.le_of_ble_eq_true rfl) (Nat.le_of_ble_eq_true rfl) (Nat.le_of_ble_eq_true rfl) dX1_init_78 rfl ?_
  refine rf_aload_n (n := 82) 0 dX1_init_81 rfl rfl rfl ?_
  refine rf_bipush (n := 84) (24 : Int32) dX1_init_82 (by decide) rfl ?_
  refine rf_newAI (n := 86) 17 hk0 rfl (N := 24) rfl (by decide) (by decide) (by decide) (fun _ => rfl) (Nat.le_of_ble_eq_true rfl) (by rw [← hmc]; exact (Nat.le_of_ble_eq_true rfl)) (by rw [← hms]; exact (Nat.le_of_ble_eq_true rfl)) ax_arr_int dX1_init_84 rfl ?_
  refine rf_putF (n := 89) (q := (RX1, TX1, 19)) (c := 1) (j := 10) (ty := .array .int) rfl (by decide) ⟨rfl, rfl⟩ fwX1_42 rfl rfl kic_1_10 rfl ⟨rfl, rfl⟩ rfl (Nat.le_of_ble_eq_true rfl) (Nat.le_of_ble_eq_true rfl) (Nat.le_of_ble_eq_true rfl) dX1_init_86 rfl ?_
  refine rf_aload_n (n := 90) 0 dX1_init_89 rfl rfl rfl ?_
  refine rf_bipush (n := 92) (24 : Int32) dX1_init_90 (by decide) rfl ?_
  refine rf_newAI (n := 94) 17 hk0 rfl (N := 24) rfl (by decide) (by decide) (by decide) (fun _ => rfl) (Nat.le_of_ble_eq_true rfl) (by rw [← hmc]; exact (Nat.le_of_ble_eq_true rfl)) (by rw [← hms]; exact (Nat.le_of_ble_eq_true rfl)) ax_arr_int dX1_init_92 rfl ?_
  refine rf_putF (n := 97) (q := (RX1, TX1, 19)) (c := 1) (j := 11) (ty := .array .int) rfl (by decide) ⟨rfl, rfl⟩ fwX1_45 rfl rfl kic_1_11 rfl ⟨rfl, rfl⟩ rfl (Nat.le_of_ble_eq_true rfl) (Nat.le_of_ble_eq_true rfl) (Nat.le_of_ble_eq_true rfl) dX1_init_94 rfl ?_
  refine rf_aload_n (n := 98) 0 dX1_init_97 rfl rfl rfl ?_
  refine rf_bipush (n := 100) (100 : Int32) dX1_init_98 (by decide) rfl ?_
  refine rf_putIc (n := 103) (q := (RX1, TX1, 19)) (c := 1) (j := 16) rfl (by decide) rfl fwX1_48 rfl kic_1_16 rfl rfl (Nat.le_of_ble_eq_true rfl) (Nat.le_of_ble_eq_true rfl) dX1_init_100 rfl ?_
  exact rf_retC rfl dX1_init_103
theorem ljX3_11 : ax_lJ RX3 11 mX1_init := ⟨"LatchTimes", by simp [ax_nest], ax_tbl_of 35 (by decide +kernel) rfl⟩
theorem kic_3_0 : ax_kR 3 0 := fun _ _ _ => rfl
theorem fwX3_12 : Cond.fieldLink RX3 12 RX3 (TX3 0).2.1 (TX3 0).2.2.1 ∈ ax_tbl := ax_tbl_of 167 (by decide +kernel) rfl
def rh_27 : Nat → Nat → Option Nat := ax_upR rh_26 15 0 16
theorem kic_3_3 : ax_kI 3 3 := fun _ _ _ => rfl
theorem fwX3_18 : Cond.fieldLink RX3 18 RX3 (TX3 3).2.1 (TX3 3).2.2.1 ∈ ax_tbl := ax_tbl_of 173 (by decide +kernel) rfl
def mu_3 : ax_M := ax_wi mu_2 15 3 (-1 : Int32)
theorem kic_3_4 : ax_kR 3 4 := fun _ _ _ => rfl
theorem fwX3_22 : Cond.fieldLink RX3 22 RX3 (TX3 4).2.1 (TX3 4).2.2.1 ∈ ax_tbl := ax_tbl_of 175 (by decide +kernel) rfl
def rh_28 : Nat → Nat → Option Nat := ax_upR rh_27 15 4 1
abbrev mX3_init : ax_Mi := (yX3_init, cX3_init, 2, none)
theorem hhX3_init : ax_hd mX3_init 1 := ⟨by decide +kernel, Nat.le_of_ble_eq_true rfl, ax_tbl_of 163 (by decide +kernel) rfl, ax_tbl_of 3 (by decide +kernel) rfl⟩
theorem okc_X3_init_15 : ax_OkC mX3_init 2 13 177 [.ref 15, .ref 1] 16 29 rh_14 rh_28 mu_1 (some ((), mu_3)) := by
  refine ax_startC (lc := [some (.ref 15), some (.ref 1)]) 0 (by decide) rfl (Nat.le_of_ble_eq_true rfl) (fun x D cA b gx hk0 hmc hms => ?_)
  refine rf_aload_n (n := 1) 0 dX3_init_0 rfl rfl rfl ?_
  refine rf_objI (n := 4) olX3_3 ax_obj (Nat.le_of_ble_eq_true rfl) (Nat.le_of_ble_eq_true rfl) (Nat.le_of_ble_eq_true rfl) dX3_init_1 rfl ?_
  refine rf_aload_n (n := 5) 0 dX3_init_4 rfl rfl rfl ?_
  refine rf_newO (n := 8) (q := (RX1, TX1, 19)) (c := 1) 16 hk0 rfl rfl rfl nwX3_9 (fun j hj => ax_fv_def (okty_1 j hj) (fun _ => rfl) (fun _ => rfl) (fun _ => rfl) j) (Nat.le_of_ble_eq_true rfl) (by rw [← hmc]; exact (Nat.le_of_ble_eq_true rfl)) (by rw [← hms]; exact (Nat.le_of_ble_eq_true rfl)) dX3_init_5 rfl ?_
  refine rf_dupR (n := 9) dX3_init_8 rfl ?_
  refine rf_cJs (n := 12) (As := []) 16 hk0 rfl okc_X1_init_16 ljX3_11 hhX1_init rfl rfl (Nat.le_of_ble_eq_true rfl) dX3_init_9 rfl (Nat.le_of_ble_eq_true rfl) rfl rfl (Nat.le_of_ble_eq_true rfl) (by rw [← hmc]; exact (Nat.le_of_ble_eq_true rfl)) (by rw [← hms]; exact (Nat.le_of_ble_eq_true rfl)) ?_
  refine rf_putF (n := 15) (q := (RX3, TX3, 13)) (c := 3) (j := 0) (ty := .object "LatchTimes$Net") rfl (by decide) ⟨rfl, rfl⟩ fwX3_12 rfl rfl kic_3_0 rfl ⟨rfl, rfl⟩ rfl (Nat.le_of_ble_eq_true rfl) (Nat.le_of_ble_eq_true rfl) (Nat.le_of_ble_eq_true rfl) dX3_init_12 rfl ?_
  refine rf_aload_n (n := 16) 0 dX3_init_15 rfl rfl rfl ?_
  refine rf_iconst (n := 17) (-1 : Int32) dX3_init_16 (by decide) rfl ?_
  refine rf_putIc (n := 20) (q := (RX3, TX3, 13)) (c := 3) (j := 3) rfl (by decide) rfl fwX3_18 rfl kic_3_3 rfl rfl (Nat.le_of_ble_eq_true rfl) (Nat.le_of_ble_eq_true rfl) dX3_init_17 rfl ?_
  refine rf_aload_n (n := 21) 0 dX3_init_20 rfl rfl rfl ?_
  refine rf_aload_n (n := 22) 1 dX3_init_21 rfl rfl rfl ?_
  refine rf_putF (n := 25) (q := (RX3, TX3, 13)) (c := 3) (j := 4) (ty := .array .int) rfl (by decide) ⟨rfl, rfl⟩ fwX3_22 rfl rfl kic_3_4 rfl ⟨rfl, rfl⟩ rfl (Nat.le_of_ble_eq_true rfl) (Nat.le_of_ble_eq_true rfl) (Nat.le_of_ble_eq_true rfl) dX3_init_22 rfl ?_
  exact rf_retC rfl dX3_init_25
theorem liX8_22 : ax_lI RX8 22 mX3_init := ⟨ax_tbl_of 161 (by decide +kernel) rfl, ax_tbl_of 162 (by decide +kernel) rfl⟩
theorem kic_8_3 : ax_kR 8 3 := fun _ _ _ => rfl
theorem fwX8_25 : Cond.fieldLink RX8 25 RX8 (TX8 3).2.1 (TX8 3).2.2.1 ∈ ax_tbl := ax_tbl_of 390 (by decide +kernel) rfl
def rh_29 : Nat → Nat → Option Nat := ax_upR rh_28 0 3 15
theorem nwX8_29 : Cond.classLink RX8 29 RX2 ∈ ax_tbl ∧ Cond.instantiable RX2 5 ∈ ax_tbl ∧ Cond.initialized RX2 ∈ ax_tbl := ⟨ax_tbl_of 211 (by decide +kernel) rfl, ax_tbl_of 212 (by decide +kernel) rfl, ax_tbl_of 4 (by decide +kernel) rfl⟩
theorem okty_2 : ∀ j, j < 5 → (match ax_ty 2 j with | .float => false | .double => false | _ => true) = true := by decide +kernel
theorem olX2_1 : Cond.methodLink RX2 1 objectInit ∈ ax_tbl := ax_tbl_of 216 (by decide +kernel) rfl
theorem kic_2_0 : ax_kR 2 0 := fun _ _ _ => rfl
theorem fwX2_11 : Cond.fieldLink RX2 11 RX2 (TX2 0).2.1 (TX2 0).2.2.1 ∈ ax_tbl := ax_tbl_of 217 (by decide +kernel) rfl
def rh_30 : Nat → Nat → Option Nat := ax_upR rh_29 29 0 30
theorem kic_2_1 : ax_kR 2 1 := fun _ _ _ => rfl
theorem fwX2_15 : Cond.fieldLink RX2 15 RX2 (TX2 1).2.1 (TX2 1).2.2.1 ∈ ax_tbl := ax_tbl_of 218 (by decide +kernel) rfl
def rh_31 : Nat → Nat → Option Nat := ax_upR rh_30 29 1 31
abbrev mX2_init : ax_Mi := (yX2_init, cX2_init, 1, none)
theorem hhX2_init : ax_hd mX2_init 0 := ⟨by decide +kernel, Nat.le_of_ble_eq_true rfl, ax_tbl_of 215 (by decide +kernel) rfl, ax_tbl_of 4 (by decide +kernel) rfl⟩
theorem okc_X2_init_29 : ax_OkC mX2_init 1 2 1239 [.ref 29] 30 32 rh_29 rh_31 mu_3 (some ((), mu_3)) := by
  refine ax_startC (lc := [some (.ref 29)]) 0 (by decide) rfl (Nat.le_of_ble_eq_true rfl) (fun x D cA b gx hk0 hmc hms => ?_)
  refine rf_aload_n (n := 1) 0 dX2_init_0 rfl rfl rfl ?_
  refine rf_objI (n := 4) olX2_1 ax_obj (Nat.le_of_ble_eq_true rfl) (Nat.le_of_ble_eq_true rfl) (Nat.le_of_ble_eq_true rfl) dX2_init_1 rfl ?_
  refine rf_aload_n (n := 5) 0 dX2_init_4 rfl rfl rfl ?_
  refine rf_sipush (n := 8) (1180 : Int32) dX2_init_5 (by decide) rfl ?_
  refine rf_newAI (n := 10) 30 hk0 rfl (N := 1180) rfl (by decide) (by decide) (by decide) (fun _ => rfl) (Nat.le_of_ble_eq_true rfl) (by rw [← hmc]; exact (Nat.le_of_ble_eq_true rfl)) (by rw [← hms]; exact (Nat.le_of_ble_eq_true rfl)) ax_arr_int dX2_init_8 rfl ?_
  refine rf_putF (n := 13) (q := (RX2, TX2, 5)) (c := 2) (j := 0) (ty := .array .int) rfl (by decide) ⟨rfl, rfl⟩ fwX2_11 rfl rfl kic_2_0 rfl ⟨rfl, rfl⟩ rfl (Nat.le_of_ble_eq_true rfl) (Nat.le_of_ble_eq_true rfl) (Nat.le_of_ble_eq_true rfl) dX2_init_10 rfl ?_
  refine rf_aload_n (n := 14) 0 dX2_init_13 rfl rfl rfl ?_
  refine rf_bipush (n := 16) (59 : Int32) dX2_init_14 (by decide) rfl ?_
  refine rf_newAI (n := 18) 30 hk0 rfl (N := 59) rfl (by decide) (by decide) (by decide) (fun _ => rfl) (Nat.le_of_ble_eq_true rfl) (by rw [← hmc]; exact (Nat.le_of_ble_eq_true rfl)) (by rw [← hms]; exact (Nat.le_of_ble_eq_true rfl)) ax_arr_int dX2_init_16 rfl ?_
  refine rf_putF (n := 21) (q := (RX2, TX2, 5)) (c := 2) (j := 1) (ty := .array .int) rfl (by decide) ⟨rfl, rfl⟩ fwX2_15 rfl rfl kic_2_1 rfl ⟨rfl, rfl⟩ rfl (Nat.le_of_ble_eq_true rfl) (Nat.le_of_ble_eq_true rfl) (Nat.le_of_ble_eq_true rfl) dX2_init_18 rfl ?_
  exact rf_retC rfl dX2_init_21
theorem ljX8_31 : ax_lJ RX8 31 mX2_init := ⟨"LatchTimes", by simp [ax_nest], ax_tbl_of 214 (by decide +kernel) rfl⟩
theorem kic_8_4 : ax_kR 8 4 := fun _ _ _ => rfl
theorem fwX8_32 : Cond.fieldLink RX8 32 RX8 (TX8 4).2.1 (TX8 4).2.2.1 ∈ ax_tbl := ax_tbl_of 391 (by decide +kernel) rfl
def rh_32 : Nat → Nat → Option Nat := ax_upR rh_31 0 4 29
theorem nwX8_36 : Cond.classLink RX8 36 RX5 ∈ ax_tbl ∧ Cond.instantiable RX5 7 ∈ ax_tbl ∧ Cond.initialized RX5 ∈ ax_tbl := ⟨ax_tbl_of 235 (by decide +kernel) rfl, ax_tbl_of 236 (by decide +kernel) rfl, ax_tbl_of 5 (by decide +kernel) rfl⟩
theorem okty_5 : ∀ j, j < 7 → (match ax_ty 5 j with | .float => false | .double => false | _ => true) = true := by decide +kernel
theorem olX5_3 : Cond.methodLink RX5 3 objectInit ∈ ax_tbl := ax_tbl_of 240 (by decide +kernel) rfl
theorem kic_5_1 : ax_kR 5 1 := fun _ _ _ => rfl
theorem fwX5_9 : Cond.fieldLink RX5 9 RX5 (TX5 1).2.1 (TX5 1).2.2.1 ∈ ax_tbl := ax_tbl_of 242 (by decide +kernel) rfl
def rh_33 : Nat → Nat → Option Nat := ax_upR rh_32 32 1 33
theorem kic_5_2 : ax_kR 5 2 := fun _ _ _ => rfl
theorem fwX5_15 : Cond.fieldLink RX5 15 RX5 (TX5 2).2.1 (TX5 2).2.2.1 ∈ ax_tbl := ax_tbl_of 243 (by decide +kernel) rfl
def rh_34 : Nat → Nat → Option Nat := ax_upR rh_33 32 2 34
theorem kic_5_3 : ax_kR 5 3 := fun _ _ _ => rfl
theorem fwX5_18 : Cond.fieldLink RX5 18 RX5 (TX5 3).2.1 (TX5 3).2.2.1 ∈ ax_tbl := ax_tbl_of 244 (by decide +kernel) rfl
def rh_35 : Nat → Nat → Option Nat := ax_upR rh_34 32 3 35
theorem kic_5_4 : ax_kR 5 4 := fun _ _ _ => rfl
theorem fwX5_21 : Cond.fieldLink RX5 21 RX5 (TX5 4).2.1 (TX5 4).2.2.1 ∈ ax_tbl := ax_tbl_of 246 (by decide +kernel) rfl
def rh_36 : Nat → Nat → Option Nat := ax_upR rh_35 32 4 36
theorem kic_5_0 : ax_kR 5 0 := fun _ _ _ => rfl
theorem fwX5_24 : Cond.fieldLink RX5 24 RX5 (TX5 0).2.1 (TX5 0).2.2.1 ∈ ax_tbl := ax_tbl_of 241 (by decide +kernel) rfl
def rh_37 : Nat → Nat → Option Nat := ax_upR rh_36 32 0 2
abbrev mX5_init : ax_Mi := (yX5_init, cX5_init, 2, none)
theorem hhX5_init : ax_hd mX5_init 1 := ⟨by decide +kernel, Nat.le_of_ble_eq_true rfl, ax_tbl_of 239 (by decide +kernel) rfl, ax_tbl_of 5 (by decide +kernel) rfl⟩
theorem okc_X5_init_32 : ax_OkC mX5_init 1 4 68 [.ref 32, .ref 2] 33 37 rh_32 rh_37 mu_3 (some ((), mu_3)) := by
  refine ax_startC (lc := [some (.ref 32), some (.ref 2)]) 0 (by decide) rfl (Nat.le_of_ble_eq_true rfl) (fun x D cA b gx hk0 hmc hms => ?_)
  refine rf_aload_n (n := 1) 0 dX5_init_0 rfl rfl rfl ?_
  refine rf_objI (n := 4) olX5_3 ax_obj (Nat.le_of_ble_eq_true rfl) (Nat.le_of_ble_eq_true rfl) (Nat.le_of_ble_eq_true rfl) dX5_init_1 rfl ?_
  refine rf_aload_n (n := 5) 0 dX5_init_4 rfl rfl rfl ?_
  refine rf_bipush (n := 7) (24 : Int32) dX5_init_5 (by decide) rfl ?_
  refine rf_newAI (n := 9) 33 hk0 rfl (N := 24) rfl (by decide) (by decide) (by decide) (fun _ => rfl) (Nat.le_of_ble_eq_true rfl) (by rw [← hmc]; exact (Nat.le_of_ble_eq_true rfl)) (by rw [← hms]; exact (Nat.le_of_ble_eq_true rfl)) ax_arr_int dX5_init_7 rfl ?_
  refine rf_putF (n := 12) (q := (RX5, TX5, 7)) (c := 5) (j := 1) (ty := .array .int) rfl (by decide) ⟨rfl, rfl⟩ fwX5_9 rfl rfl kic_5_1 rfl ⟨rfl, rfl⟩ rfl (Nat.le_of_ble_eq_true rfl) (Nat.le_of_ble_eq_true rfl) (Nat.le_of_ble_eq_true rfl) dX5_init_9 rfl ?_
  refine rf_aload_n (n := 13) 0 dX5_init_12 rfl rfl rfl ?_
  refine rf_bipush (n := 15) (24 : Int32) dX5_init_13 (by decide) rfl ?_
  refine rf_newAI (n := 17) 33 hk0 rfl (N := 24) rfl (by decide) (by decide) (by decide) (fun _ => rfl) (Nat.le_of_ble_eq_true rfl) (by rw [← hmc]; exact (Nat.le_of_ble_eq_true rfl)) (by rw [← hms]; exact (Nat.le_of_ble_eq_true rfl)) ax_arr_int dX5_init_15 rfl ?_
  refine rf_putF (n := 20) (q := (RX5, TX5, 7)) (c := 5) (j := 2) (ty := .array .int) rfl (by decide) ⟨rfl, rfl⟩ fwX5_15 rfl rfl kic_5_2 rfl ⟨rfl, rfl⟩ rfl (Nat.le_of_ble_eq_true rfl) (Nat.le_of_ble_eq_true rfl) (Nat.le_of_ble_eq_true rfl) dX5_init_17 rfl ?_
  refine rf_aload_n (n := 21) 0 dX5_init_20 rfl rfl rfl ?_
  refine rf_bipush (n := 23) (10 : Int32) dX5_init_21 (by decide) rfl ?_
  refine rf_newAI (n := 25) 33 hk0 rfl (N := 10) rfl (by decide) (by decide) (by decide) (fun _ => rfl) (Nat.le_of_ble_eq_true rfl) (by rw [← hmc]; exact (Nat.le_of_ble_eq_true rfl)) (by rw [← hms]; exact (Nat.le_of_ble_eq_true rfl)) ax_arr_int dX5_init_23 rfl ?_
  refine rf_putF (n := 28) (q := (RX5, TX5, 7)) (c := 5) (j := 3) (ty := .array .int) rfl (by decide) ⟨rfl, rfl⟩ fwX5_18 rfl rfl kic_5_3 rfl ⟨rfl, rfl⟩ rfl (Nat.le_of_ble_eq_true rfl) (Nat.le_of_ble_eq_true rfl) (Nat.le_of_ble_eq_true rfl) dX5_init_25 rfl ?_
  refine rf_aload_n (n := 29) 0 dX5_init_28 rfl rfl rfl ?_
  refine rf_bipush (n := 31) (10 : Int32) dX5_init_29 (by decide) rfl ?_
  refine rf_newAI (n := 33) 33 hk0 rfl (N := 10) rfl (by decide) (by decide) (by decide) (fun _ => rfl) (Nat.le_of_ble_eq_true rfl) (by rw [← hmc]; exact (Nat.le_of_ble_eq_true rfl)) (by rw [← hms]; exact (Nat.le_of_ble_eq_true rfl)) ax_arr_int dX5_init_31 rfl ?_
  refine rf_putF (n := 36) (q := (RX5, TX5, 7)) (c := 5) (j := 4) (ty := .array .int) rfl (by decide) ⟨rfl, rfl⟩ fwX5_21 rfl rfl kic_5_4 rfl ⟨rfl, rfl⟩ rfl (Nat.le_of_ble_eq_true rfl) (Nat.le_of_ble_eq_true rfl) (Nat.le_of_ble_eq_true rfl) dX5_init_33 rfl ?_
  refine rf_aload_n (n := 37) 0 dX5_init_36 rfl rfl rfl ?_
  refine rf_aload_n (n := 38) 1 dX5_init_37 rfl rfl rfl ?_
  refine rf_putF (n := 41) (q := (RX5, TX5, 7)) (c := 5) (j := 0) (ty := .object "LatchTimes$Net") rfl (by decide) ⟨rfl, rfl⟩ fwX5_24 rfl rfl kic_5_0 rfl ⟨rfl, rfl⟩ rfl (Nat.le_of_ble_eq_true rfl) (Nat.le_of_ble_eq_true rfl) (Nat.le_of_ble_eq_true rfl) dX5_init_38 rfl ?_
  exact rf_retC rfl dX5_init_41
theorem liX8_38 : ax_lI RX8 38 mX5_init := ⟨ax_tbl_of 237 (by decide +kernel) rfl, ax_tbl_of 238 (by decide +kernel) rfl⟩
theorem kic_8_5 : ax_kR 8 5 := fun _ _ _ => rfl
theorem fwX8_41 : Cond.fieldLink RX8 41 RX8 (TX8 5).2.1 (TX8 5).2.2.1 ∈ ax_tbl := ax_tbl_of 392 (by decide +kernel) rfl
def rh_38 : Nat → Nat → Option Nat := ax_upR rh_37 0 5 32
theorem nwX8_45 : Cond.classLink RX8 45 RX7 ∈ ax_tbl ∧ Cond.instantiable RX7 4 ∈ ax_tbl ∧ Cond.initialized RX7 ∈ ax_tbl := ⟨ax_tbl_of 267 (by decide +kernel) rfl, ax_tbl_of 268 (by decide +kernel) rfl, ax_tbl_of 6 (by decide +kernel) rfl⟩
theorem okty_7 : ∀ j, j < 4 → (match ax_ty 7 j with | .float => false | .double => false | _ => true) = true := by decide +kernel
theorem olX7_3 : Cond.methodLink RX7 3 objectInit ∈ ax_tbl := ax_tbl_of 272 (by decide +kernel) rfl
theorem kic_7_1 : ax_kR 7 1 := fun _ _ _ => rfl
theorem fwX7_9 : Cond.fieldLink RX7 9 RX7 (TX7 1).2.1 (TX7 1).2.2.1 ∈ ax_tbl := ax_tbl_of 274 (by decide +kernel) rfl
def rh_39 : Nat → Nat → Option Nat := ax_upR rh_38 37 1 38
theorem kic_7_2 : ax_kR 7 2 := fun _ _ _ => rfl
theorem fwX7_15 : Cond.fieldLink RX7 15 RX7 (TX7 2).2.1 (TX7 2).2.2.1 ∈ ax_tbl := ax_tbl_of 275 (by decide +kernel) rfl
def rh_40 : Nat → Nat → Option Nat := ax_upR rh_39 37 2 39
theorem kic_7_3 : ax_kR 7 3 := fun _ _ _ => rfl
theorem fwX7_18 : Cond.fieldLink RX7 18 RX7 (TX7 3).2.1 (TX7 3).2.2.1 ∈ ax_tbl := ax_tbl_of 276 (by decide +kernel) rfl
def rh_41 : Nat → Nat → Option Nat := ax_upR rh_40 37 3 40
theorem kic_7_0 : ax_kR 7 0 := fun _ _ _ => rfl
theorem fwX7_21 : Cond.fieldLink RX7 21 RX7 (TX7 0).2.1 (TX7 0).2.2.1 ∈ ax_tbl := ax_tbl_of 273 (by decide +kernel) rfl
def rh_42 : Nat → Nat → Option Nat := ax_upR rh_41 37 0 2
abbrev mX7_init : ax_Mi := (yX7_init, cX7_init, 2, none)
theorem hhX7_init : ax_hd mX7_init 1 := ⟨by decide +kernel, Nat.le_of_ble_eq_true rfl, ax_tbl_of 271 (by decide +kernel) rfl, ax_tbl_of 6 (by decide +kernel) rfl⟩
theorem okc_X7_init_37 : ax_OkC mX7_init 1 3 44 [.ref 37, .ref 2] 38 41 rh_38 rh_42 mu_3 (some ((), mu_3)) := by
  refine ax_startC (lc := [some (.ref 37), some (.ref 2)]) 0 (by decide) rfl (Nat.le_of_ble_eq_true rfl) (fun x D cA b gx hk0 hmc hms => ?_)
  refine rf_aload_n (n := 1) 0 dX7_init_0 rfl rfl rfl ?_
  refine rf_objI (n := 4) olX7_3 ax_obj (Nat.le_of_ble_eq_true rfl) (Nat.le_of_ble_eq_true rfl) (Nat.le_of_ble_eq_true rfl) dX7_init_1 rfl ?_
  refine rf_aload_n (n := 5) 0 dX7_init_4 rfl rfl rfl ?_
  refine rf_bipush (n := 7) (24 : Int32) dX7_init_5 (by decide) rfl ?_
  refine rf_newAI (n := 9) 38 hk0 rfl (N := 24) rfl (by decide) (by decide) (by decide) (fun _ => rfl) (Nat.le_of_ble_eq_true rfl) (by rw [← hmc]; exact (Nat.le_of_ble_eq_true rfl)) (by rw [← hms]; exact (Nat.le_of_ble_eq_true rfl)) ax_arr_int dX7_init_7 rfl ?_
  refine rf_putF (n := 12) (q := (RX7, TX7, 4)) (c := 7) (j := 1) (ty := .array .int) rfl (by decide) ⟨rfl, rfl⟩ fwX7_9 rfl rfl kic_7_1 rfl ⟨rfl, rfl⟩ rfl (Nat.le_of_ble_eq_true rfl) (Nat.le_of_ble_eq_true rfl) (Nat.le_of_ble_eq_true rfl) dX7_init_9 rfl ?_
  refine rf_aload_n (n := 13) 0 dX7_init_12 rfl rfl rfl ?_
  refine rf_bipush (n := 15) (10 : Int32) dX7_init_13 (by decide) rfl ?_
  refine rf_newAI (n := 17) 38 hk0 rfl (N := 10) rfl (by decide) (by decide) (by decide) (fun _ => rfl) (Nat.le_of_ble_eq_true rfl) (by rw [← hmc]; exact (Nat.le_of_ble_eq_true rfl)) (by rw [← hms]; exact (Nat.le_of_ble_eq_true rfl)) ax_arr_int dX7_init_15 rfl ?_
  refine rf_putF (n := 20) (q := (RX7, TX7, 4)) (c := 7) (j := 2) (ty := .array .int) rfl (by decide) ⟨rfl, rfl⟩ fwX7_15 rfl rfl kic_7_2 rfl ⟨rfl, rfl⟩ rfl (Nat.le_of_ble_eq_true rfl) (Nat.le_of_ble_eq_true rfl) (Nat.le_of_ble_eq_true rfl) dX7_init_17 rfl ?_
  refine rf_aload_n (n := 21) 0 dX7_init_20 rfl rfl rfl ?_
  refine rf_bipush (n := 23) (10 : Int32) dX7_init_21 (by decide) rfl ?_
  refine rf_newAI (n := 25) 38 hk0 rfl (N := 10) rfl (by decide) (by decide) (by decide) (fun _ => rfl) (Nat.le_of_ble_eq_true rfl) (by rw [← hmc]; exact (Nat.le_of_ble_eq_true rfl)) (by rw [← hms]; exact (Nat.le_of_ble_eq_true rfl)) ax_arr_int dX7_init_23 rfl ?_
  refine rf_putF (n := 28) (q := (RX7, TX7, 4)) (c := 7) (j := 3) (ty := .array .int) rfl (by decide) ⟨rfl, rfl⟩ fwX7_18 rfl rfl kic_7_3 rfl ⟨rfl, rfl⟩ rfl (Nat.le_of_ble_eq_true rfl) (Nat.le_of_ble_eq_true rfl) (Nat.le_of_ble_eq_true rfl) dX7_init_25 rfl ?_
  refine rf_aload_n (n := 29) 0 dX7_init_28 rfl rfl rfl ?_
  refine rf_aload_n (n := 30) 1 dX7_init_29 rfl rfl rfl ?_
  refine rf_putF (n := 33) (q := (RX7, TX7, 4)) (c := 7) (j := 0) (ty := .object "LatchTimes$Net") rfl (by decide) ⟨rfl, rfl⟩ fwX7_21 rfl rfl kic_7_0 rfl ⟨rfl, rfl⟩ rfl (Nat.le_of_ble_eq_true rfl) (Nat.le_of_ble_eq_true rfl) (Nat.le_of_ble_eq_true rfl) dX7_init_30 rfl ?_
  exact rf_retC rfl dX7_init_33
theorem liX8_47 : ax_lI RX8 47 mX7_init := ⟨ax_tbl_of 269 (by decide +kernel) rfl, ax_tbl_of 270 (by decide +kernel) rfl⟩
theorem kic_8_6 : ax_kR 8 6 := fun _ _ _ => rfl
theorem fwX8_48 : Cond.fieldLink RX8 48 RX8 (TX8 6).2.1 (TX8 6).2.2.1 ∈ ax_tbl := ax_tbl_of 393 (by decide +kernel) rfl
def rh_43 : Nat → Nat → Option Nat := ax_upR rh_42 0 6 37
theorem nwX8_52 : Cond.classLink RX8 52 RX0 ∈ ax_tbl ∧ Cond.instantiable RX0 9 ∈ ax_tbl ∧ Cond.initialized RX0 ∈ ax_tbl := ⟨ax_tbl_of 286 (by decide +kernel) rfl, ax_tbl_of 287 (by decide +kernel) rfl, ax_tbl_of 7 (by decide +kernel) rfl⟩
theorem okty_0 : ∀ j, j < 9 → (match ax_ty 0 j with | .float => false | .double => false | _ => true) = true := by decide +kernel
theorem olX0_3 : Cond.methodLink RX0 3 objectInit ∈ ax_tbl := ax_tbl_of 291 (by decide +kernel) rfl
theorem kic_0_1 : ax_kR 0 1 := fun _ _ _ => rfl
theorem fwX0_9 : Cond.fieldLink RX0 9 RX0 (TX0 1).2.1 (TX0 1).2.2.1 ∈ ax_tbl := ax_tbl_of 293 (by decide +kernel) rfl
def rh_44 : Nat → Nat → Option Nat := ax_upR rh_43 41 1 42
theorem kic_0_2 : ax_kR 0 2 := fun _ _ _ => rfl
theorem fwX0_15 : Cond.fieldLink RX0 15 RX0 (TX0 2).2.1 (TX0 2).2.2.1 ∈ ax_tbl := ax_tbl_of 294 (by decide +kernel) rfl
def rh_45 : Nat → Nat → Option Nat := ax_upR rh_44 41 2 43
theorem kic_0_3 : ax_kR 0 3 := fun _ _ _ => rfl
theorem fwX0_18 : Cond.fieldLink RX0 18 RX0 (TX0 3).2.1 (TX0 3).2.2.1 ∈ ax_tbl := ax_tbl_of 295 (by decide +kernel) rfl
def rh_46 : Nat → Nat → Option Nat := ax_upR rh_45 41 3 44
theorem kic_0_4 : ax_kR 0 4 := fun _ _ _ => rfl
theorem fwX0_21 : Cond.fieldLink RX0 21 RX0 (TX0 4).2.1 (TX0 4).2.2.1 ∈ ax_tbl := ax_tbl_of 296 (by decide +kernel) rfl
def rh_47 : Nat → Nat → Option Nat := ax_upR rh_46 41 4 45
theorem kic_0_0 : ax_kR 0 0 := fun _ _ _ => rfl
theorem fwX0_24 : Cond.fieldLink RX0 24 RX0 (TX0 0).2.1 (TX0 0).2.2.1 ∈ ax_tbl := ax_tbl_of 292 (by decide +kernel) rfl
def rh_48 : Nat → Nat → Option Nat := ax_upR rh_47 41 0 2
abbrev mX0_init : ax_Mi := (yX0_init, cX0_init, 2, none)
theorem hhX0_init : ax_hd mX0_init 1 := ⟨by decide +kernel, Nat.le_of_ble_eq_true rfl, ax_tbl_of 290 (by decide +kernel) rfl, ax_tbl_of 7 (by decide +kernel) rfl⟩
theorem okc_X0_init_41 : ax_OkC mX0_init 1 4 130 [.ref 41, .ref 2] 42 46 rh_43 rh_48 mu_3 (some ((), mu_3)) := by
  refine ax_startC (lc := [some (.ref 41), some (.ref 2)]) 0 (by decide) rfl (Nat.le_of_ble_eq_true rfl) (fun x D cA b gx hk0 hmc hms => ?_)
  refine rf_aload_n (n := 1) 0 dX0_init_0 rfl rfl rfl ?_
  refine rf_objI (n := 4) olX0_3 ax_obj (Nat.le_of_ble_eq_true rfl) (Nat.le_of_ble_eq_true rfl) (Nat.le_of_ble_eq_true rfl) dX0_init_1 rfl ?_
  refine rf_aload_n (n := 5) 0 dX0_init_4 rfl rfl rfl ?_
  refine rf_bipush (n := 7) (10 : Int32) dX0_init_5 (by decide) rfl ?_
  refine rf_newAI (n := 9) 42 hk0 rfl (N := 10) rfl (by decide) (by decide) (by decide) (fun _ => rfl) (Nat.le_of_ble_eq_true rfl) (by rw [← hmc]; exact (Nat.le_of_ble_eq_true rfl)) (by rw [← hms]; exact (Nat.le_of_ble_eq_true rfl)) ax_arr_int dX0_init_7 rfl ?_
  refine rf_putF (n := 12) (q := (RX0, TX0, 9)) (c := 0) (j := 1) (ty := .array .int) rfl (by decide) ⟨rfl, rfl⟩ fwX0_9 rfl rfl kic_0_1 rfl ⟨rfl, rfl⟩ rfl (Nat.le_of_ble_eq_true rfl) (Nat.le_of_ble_eq_true rfl) (Nat.le_of_ble_eq_true rfl) dX0_init_9 rfl ?_
  refine rf_aload_n (n := 13) 0 dX0_init_12 rfl rfl rfl ?_
  refine rf_bipush (n := 15) (100 : Int32) dX0_init_13 (by decide) rfl ?_
  refine rf_newAI (n := 17) 42 hk0 rfl (N := 100) rfl (by decide) (by decide) (by decide) (fun _ => rfl) (Nat.le_of_ble_eq_true rfl) (by rw [← hmc]; exact (Nat.le_of_ble_eq_true rfl)) (by rw [← hms]; exact (Nat.le_of_ble_eq_true rfl)) ax_arr_int dX0_init_15 rfl ?_
  refine rf_putF (n := 20) (q := (RX0, TX0, 9)) (c := 0) (j := 2) (ty := .array .int) rfl (by decide) ⟨rfl, rfl⟩ fwX0_15 rfl rfl kic_0_2 rfl ⟨rfl, rfl⟩ rfl (Nat.le_of_ble_eq_true rfl) (Nat.le_of_ble_eq_true rfl) (Nat.le_of_ble_eq_true rfl) dX0_init_17 rfl ?_
  refine rf_aload_n (n := 21) 0 dX0_init_20 rfl rfl rfl ?_
  refine rf_bipush (n := 23) (10 : Int32) dX0_init_21 (by decide) rfl ?_
  refine rf_newAI (n := 25) 42 hk0 rfl (N := 10) rfl (by decide) (by decide) (by decide) (fun _ => rfl) (Nat.le_of_ble_eq_true rfl) (by rw [← hmc]; exact (Nat.le_of_ble_eq_true rfl)) (by rw [← hms]; exact (Nat.le_of_ble_eq_true rfl)) ax_arr_int dX0_init_23 rfl ?_
  refine rf_putF (n := 28) (q := (RX0, TX0, 9)) (c := 0) (j := 3) (ty := .array .int) rfl (by decide) ⟨rfl, rfl⟩ fwX0_18 rfl rfl kic_0_3 rfl ⟨rfl, rfl⟩ rfl (Nat.le_of_ble_eq_true rfl) (Nat.le_of_ble_eq_true rfl) (Nat.le_of_ble_eq_true rfl) dX0_init_25 rfl ?_
  refine rf_aload_n (n := 29) 0 dX0_init_28 rfl rfl rfl ?_
  refine rf_bipush (n := 31) (10 : Int32) dX0_init_29 (by decide) rfl ?_
  refine rf_newAI (n := 33) 42 hk0 rfl (N := 10) rfl (by decide) (by decide) (by decide) (fun _ => rfl) (Nat.le_of_ble_eq_true rfl) (by rw [← hmc]; exact (Nat.le_of_ble_eq_true rfl)) (by rw [← hms]; exact (Nat.le_of_ble_eq_true rfl)) ax_arr_int dX0_init_31 rfl ?_
  refine rf_putF (n := 36) (q := (RX0, TX0, 9)) (c := 0) (j := 4) (ty := .array .int) rfl (by decide) ⟨rfl, rfl⟩ fwX0_21 rfl rfl kic_0_4 rfl ⟨rfl, rfl⟩ rfl (Nat.le_of_ble_eq_true rfl) (Nat.le_of_ble_eq_true rfl) (Nat.le_of_ble_eq_true rfl) dX0_init_33 rfl ?_
  refine rf_aload_n (n := 37) 0 dX0_init_36 rfl rfl rfl ?_
  refine rf_aload_n (n := 38) 1 dX0_init_37 rfl rfl rfl ?_
  refine rf_putF (n := 41) (q := (RX0, TX0, 9)) (c := 0) (j := 0) (ty := .object "LatchTimes$Net") rfl (by decide) ⟨rfl, rfl⟩ fwX0_24 rfl rfl kic_0_0 rfl ⟨rfl, rfl⟩ rfl (Nat.le_of_ble_eq_true rfl) (Nat.le_of_ble_eq_true rfl) (Nat.le_of_ble_eq_true rfl) dX0_init_38 rfl ?_
  exact rf_retC rfl dX0_init_41
theorem liX8_54 : ax_lI RX8 54 mX0_init := ⟨ax_tbl_of 288 (by decide +kernel) rfl, ax_tbl_of 289 (by decide +kernel) rfl⟩
theorem kic_8_7 : ax_kR 8 7 := fun _ _ _ => rfl
theorem fwX8_55 : Cond.fieldLink RX8 55 RX8 (TX8 7).2.1 (TX8 7).2.2.1 ∈ ax_tbl := ax_tbl_of 394 (by decide +kernel) rfl
def rh_49 : Nat → Nat → Option Nat := ax_upR rh_48 0 7 41
theorem nwX8_59 : Cond.classLink RX8 59 RX4 ∈ ax_tbl ∧ Cond.instantiable RX4 5 ∈ ax_tbl ∧ Cond.initialized RX4 ∈ ax_tbl := ⟨ax_tbl_of 325 (by decide +kernel) rfl, ax_tbl_of 326 (by decide +kernel) rfl, ax_tbl_of 8 (by decide +kernel) rfl⟩
theorem okty_4 : ∀ j, j < 5 → (match ax_ty 4 j with | .float => false | .double => false | _ => true) = true := by decide +kernel
theorem olX4_3 : Cond.methodLink RX4 3 objectInit ∈ ax_tbl := ax_tbl_of 330 (by decide +kernel) rfl
theorem kic_4_3 : ax_kR 4 3 := fun _ _ _ => rfl
theorem fwX4_9 : Cond.fieldLink RX4 9 RX4 (TX4 3).2.1 (TX4 3).2.2.1 ∈ ax_tbl := ax_tbl_of 374 (by decide +kernel) rfl
def rh_50 : Nat → Nat → Option Nat := ax_upR rh_49 46 3 47
theorem kic_4_4 : ax_kR 4 4 := fun _ _ _ => rfl
theorem fwX4_15 : Cond.fieldLink RX4 15 RX4 (TX4 4).2.1 (TX4 4).2.2.1 ∈ ax_tbl := ax_tbl_of 375 (by decide +kernel) rfl
def rh_51 : Nat → Nat → Option Nat := ax_upR rh_50 46 4 48
theorem kic_4_0 : ax_kR 4 0 := fun _ _ _ => rfl
theorem fwX4_18 : Cond.fieldLink RX4 18 RX4 (TX4 0).2.1 (TX4 0).2.2.1 ∈ ax_tbl := ax_tbl_of 371 (by decide +kernel) rfl
def rh_52 : Nat → Nat → Option Nat := ax_upR rh_51 46 0 2
theorem kic_4_1 : ax_kR 4 1 := fun _ _ _ => rfl
theorem fwX4_22 : Cond.fieldLink RX4 22 RX4 (TX4 1).2.1 (TX4 1).2.2.1 ∈ ax_tbl := ax_tbl_of 372 (by decide +kernel) rfl
def rh_53 : Nat → Nat → Option Nat := ax_upR rh_52 46 1 32
theorem nwX4_26 : Cond.classLink RX4 26 RX6 ∈ ax_tbl ∧ Cond.instantiable RX6 11 ∈ ax_tbl ∧ Cond.initialized RX6 ∈ ax_tbl := ⟨ax_tbl_of 331 (by decide +kernel) rfl, ax_tbl_of 332 (by decide +kernel) rfl, ax_tbl_of 9 (by decide +kernel) rfl⟩
theorem okty_6 : ∀ j, j < 11 → (match ax_ty 6 j with | .float => false | .double => false | _ => true) = true := by decide +kernel
theorem olX6_3 : Cond.methodLink RX6 3 objectInit ∈ ax_tbl := ax_tbl_of 336 (by decide +kernel) rfl
theorem kic_6_1 : ax_kR 6 1 := fun _ _ _ => rfl
theorem fwX6_9 : Cond.fieldLink RX6 9 RX6 (TX6 1).2.1 (TX6 1).2.2.1 ∈ ax_tbl := ax_tbl_of 338 (by decide +kernel) rfl
def rh_54 : Nat → Nat → Option Nat := ax_upR rh_53 49 1 50
theorem kic_6_2 : ax_kR 6 2 := fun _ _ _ => rfl
theorem fwX6_15 : Cond.fieldLink RX6 15 RX6 (TX6 2).2.1 (TX6 2).2.2.1 ∈ ax_tbl := ax_tbl_of 339 (by decide +kernel) rfl
def rh_55 : Nat → Nat → Option Nat := ax_upR rh_54 49 2 51
theorem kic_6_3 : ax_kR 6 3 := fun _ _ _ => rfl
theorem fwX6_18 : Cond.fieldLink RX6 18 RX6 (TX6 3).2.1 (TX6 3).2.2.1 ∈ ax_tbl := ax_tbl_of 340 (by decide +kernel) rfl
def rh_56 : Nat → Nat → Option Nat := ax_upR rh_55 49 3 52
theorem kic_6_4 : ax_kR 6 4 := fun _ _ _ => rfl
theorem fwX6_21 : Cond.fieldLink RX6 21 RX6 (TX6 4).2.1 (TX6 4).2.2.1 ∈ ax_tbl := ax_tbl_of 341 (by decide +kernel) rfl
def rh_57 : Nat → Nat → Option Nat := ax_upR rh_56 49 4 53
theorem kic_6_5 : ax_kR 6 5 := fun _ _ _ => rfl
theorem fwX6_24 : Cond.fieldLink RX6 24 RX6 (TX6 5).2.1 (TX6 5).2.2.1 ∈ ax_tbl := ax_tbl_of 342 (by decide +kernel) rfl
def rh_58 : Nat → Nat → Option Nat := ax_upR rh_57 49 5 54
theorem kic_6_6 : ax_kR 6 6 := fun _ _ _ => rfl
theorem fwX6_27 : Cond.fieldLink RX6 27 RX6 (TX6 6).2.1 (TX6 6).2.2.1 ∈ ax_tbl := ax_tbl_of 343 (by decide +kernel) rfl
def rh_59 : Nat → Nat → Option Nat := ax_upR rh_58 49 6 55
theorem kic_6_7 : ax_kR 6 7 := fun _ _ _ => rfl
theorem fwX6_30 : Cond.fieldLink RX6 30 RX6 (TX6 7).2.1 (TX6 7).2.2.1 ∈ ax_tbl := ax_tbl_of 344 (by decide +kernel) rfl
def rh_60 : Nat → Nat → Option Nat := ax_upR rh_59 49 7 56
theorem kic_6_0 : ax_kR 6 0 := fun _ _ _ => rfl
theorem fwX6_33 : Cond.fieldLink RX6 33 RX6 (TX6 0).2.1 (TX6 0).2.2.1 ∈ ax_tbl := ax_tbl_of 337 (by decide +kernel) rfl
def rh_61 : Nat → Nat → Option Nat := ax_upR rh_60 49 0 2
abbrev mX6_init : ax_Mi := (yX6_init, cX6_init, 2, none)
theorem hhX6_init : ax_hd mX6_init 1 := ⟨by decide +kernel, Nat.le_of_ble_eq_true rfl, ax_tbl_of 335 (by decide +kernel) rfl, ax_tbl_of 9 (by decide +kernel) rfl⟩
theorem okc_X6_init_49 : ax_OkC mX6_init 1 7 113 [.ref 49, .ref 2] 50 57 rh_53 rh_61 mu_3 (some ((), mu_3)) := by
  refine ax_startC (lc := [some (.ref 49), some (.ref 2)]) 0 (by decide) rfl (Nat.le_of_ble_eq_true rfl) (fun x D cA b gx hk0 hmc hms => ?_)
  refine rf_aload_n (n := 1) 0 dX6_init_0 rfl rfl rfl ?_
  refine rf_objI (n := 4) olX6_3 ax_obj (Nat.le_of_ble_eq_true rfl) (Nat.le_of_ble_eq_true rfl) (Nat.le_of_ble_eq_true rfl) dX6_init_1 rfl ?_
  refine rf_aload_n (n := 5) 0 dX6_init_4 rfl rfl rfl ?_
  refine rf_bipush (n := 7) (24 : Int32) dX6_init_5 (by decide) rfl ?_
  refine rf_newAI (n := 9) 50 hk0 rfl (N := 24) rfl (by decide) (by decide) (by decide) (fun _ => rfl) (Nat.le_of_ble_eq_true rfl) (by rw [← hmc]; exact (Nat.le_of_ble_eq_true rfl)) (by rw [← hms]; exact (Nat.le_of_ble_eq_true rfl)) ax_arr_int dX6_init_7 rfl ?_
  refine rf_putF (n := 12) (q := (RX6, TX6, 11)) (c := 6) (j := 1) (ty := .array .int) rfl (by decide) ⟨rfl, rfl⟩ fwX6_9 rfl rfl kic_6_1 rfl ⟨rfl, rfl⟩ rfl (Nat.le_of_ble_eq_true rfl) (Nat.le_of_ble_eq_true rfl) (Nat.le_of_ble_eq_true rfl) dX6_init_9 rfl ?_
  refine rf_aload_n (n := 13) 0 dX6_init_12 rfl rfl rfl ?_
  refine rf_bipush (n := 15) (24 : Int32) dX6_init_13 (by decide) rfl ?_
  refine rf_newAI (n := 17) 50 hk0 rfl (N := 24) rfl (by decide) (by decide) (by decide) (fun _ => rfl) (Nat.le_of_ble_eq_true rfl) (by rw [← hmc]; exact (Nat.le_of_ble_eq_true rfl)) (by rw [← hms]; exact (Nat.le_of_ble_eq_true rfl)) ax_arr_int dX6_init_15 rfl ?_
  refine rf_putF (n := 20) (q := (RX6, TX6, 11)) (c := 6) (j := 2) (ty := .array .int) rfl (by decide) ⟨rfl, rfl⟩ fwX6_15 rfl rfl kic_6_2 rfl ⟨rfl, rfl⟩ rfl (Nat.le_of_ble_eq_true rfl) (Nat.le_of_ble_eq_true rfl) (Nat.le_of_ble_eq_true rfl) dX6_init_17 rfl ?_
  refine rf_aload_n (n := 21) 0 dX6_init_20 rfl rfl rfl ?_
  refine rf_bipush (n := 23) (24 : Int32) dX6_init_21 (by decide) rfl ?_
  refine rf_newAI (n := 25) 50 hk0 rfl (N := 24) rfl (by decide) (by decide) (by decide) (fun _ => rfl) (Nat.le_of_ble_eq_true rfl) (by rw [← hmc]; exact (Nat.le_of_ble_eq_true rfl)) (by rw [← hms]; exact (Nat.le_of_ble_eq_true rfl)) ax_arr_int dX6_init_23 rfl ?_
  refine rf_putF (n := 28) (q := (RX6, TX6, 11)) (c := 6) (j := 3) (ty := .array .int) rfl (by decide) ⟨rfl, rfl⟩ fwX6_18 rfl rfl kic_6_3 rfl ⟨rfl, rfl⟩ rfl (Nat.le_of_ble_eq_true rfl) (Nat.le_of_ble_eq_true rfl) (Nat.le_of_ble_eq_true rfl) dX6_init_25 rfl ?_
  refine rf_aload_n (n := 29) 0 dX6_init_28 rfl rfl rfl ?_
  refine rf_bipush (n := 31) (10 : Int32) dX6_init_29 (by decide) rfl ?_
  refine rf_newAI (n := 33) 50 hk0 rfl (N := 10) rfl (by decide) (by decide) (by decide) (fun _ => rfl) (Nat.le_of_ble_eq_true rfl) (by rw [← hmc]; exact (Nat.le_of_ble_eq_true rfl)) (by rw [← hms]; exact (Nat.le_of_ble_eq_true rfl)) ax_arr_int dX6_init_31 rfl ?_
  refine rf_putF (n := 36) (q := (RX6, TX6, 11)) (c := 6) (j := 4) (ty := .array .int) rfl (by decide) ⟨rfl, rfl⟩ fwX6_21 rfl rfl kic_6_4 rfl ⟨rfl, rfl⟩ rfl (Nat.le_of_ble_eq_true rfl) (Nat.le_of_ble_eq_true rfl) (Nat.le_of_ble_eq_true rfl) dX6_init_33 rfl ?_
  refine rf_aload_n (n := 37) 0 dX6_init_36 rfl rfl rfl ?_
  refine rf_bipush (n := 39) (10 : Int32) dX6_init_37 (by decide) rfl ?_
  refine rf_newAI (n := 41) 50 hk0 rfl (N := 10) rfl (by decide) (by decide) (by decide) (fun _ => rfl) (Nat.le_of_ble_eq_true rfl) (by rw [← hmc]; exact (Nat.le_of_ble_eq_true rfl)) (by rw [← hms]; exact (Nat.le_of_ble_eq_true rfl)) ax_arr_int dX6_init_39 rfl ?_
  refine rf_putF (n := 44) (q := (RX6, TX6, 11)) (c := 6) (j := 5) (ty := .array .int) rfl (by decide) ⟨rfl, rfl⟩ fwX6_24 rfl rfl kic_6_5 rfl ⟨rfl, rfl⟩ rfl (Nat.le_of_ble_eq_true rfl) (Nat.le_of_ble_eq_true rfl) (Nat.le_of_ble_eq_true rfl) dX6_init_41 rfl ?_
  refine rf_aload_n (n := 45) 0 dX6_init_44 rfl rfl rfl ?_
  refine rf_bipush (n := 47) (10 : Int32) dX6_init_45 (by decide) rfl ?_
  refine rf_newAI (n := 49) 50 hk0 rfl (N := 10) rfl (by decide) (by decide) (by decide) (fun _ => rfl) (Nat.le_of_ble_eq_true rfl) (by rw [← hmc]; exact (Nat.le_of_ble_eq_true rfl)) (by rw [← hms]; exact (Nat.le_of_ble_eq_true rfl)) ax_arr_int dX6_init_47 rfl ?_
  refine rf_putF (n := 52) (q := (RX6, TX6, 11)) (c := 6) (j := 6) (ty := .array .int) rfl (by decide) ⟨rfl, rfl⟩ fwX6_27 rfl rfl kic_6_6 rfl ⟨rfl, rfl⟩ rfl (Nat.le_of_ble_eq_true rfl) (Nat.le_of_ble_eq_true rfl) (Nat.le_of_ble_eq_true rfl) dX6_init_49 rfl ?_
  refine rf_aload_n (n := 53) 0 dX6_init_52 rfl rfl rfl ?_
  refine rf_bipush (n := 55) (11 : Int32) dX6_init_53 (by decide) rfl ?_
  refine rf_newAI (n := 57) 50 hk0 rfl (N := 11) rfl (by decide) (by decide) (by decide) (fun _ => rfl) (Nat.le_of_ble_eq_true rfl) (by rw [← hmc]; exact (Nat.le_of_ble_eq_true rfl)) (by rw [← hms]; exact (Nat.le_of_ble_eq_true rfl)) ax_arr_int dX6_init_55 rfl ?_
  refine rf_putF (n := 60) (q := (RX6, TX6, 11)) (c := 6) (j := 7) (ty := .array .int) rfl (by decide) ⟨rfl, rfl⟩ fwX6_30 rfl rfl kic_6_7 rfl ⟨rfl, rfl⟩ rfl (Nat.le_of_ble_eq_true rfl) (Nat.le_of_ble_eq_true rfl) (Nat.le_of_ble_eq_true rfl) dX6_init_57 rfl ?_
  refine rf_aload_n (n := 61) 0 dX6_init_60 rfl rfl rfl ?_
  refine rf_aload_n (n := 62) 1 dX6_init_61 rfl rfl rfl ?_
  refine rf_putF (n := 65) (q := (RX6, TX6, 11)) (c := 6) (j := 0) (ty := .object "LatchTimes$Net") rfl (by decide) ⟨rfl, rfl⟩ fwX6_33 rfl rfl kic_6_0 rfl ⟨rfl, rfl⟩ rfl (Nat.le_of_ble_eq_true rfl) (Nat.le_of_ble_eq_true rfl) (Nat.le_of_ble_eq_true rfl) dX6_init_62 rfl ?_
  exact rf_retC rfl dX6_init_65
theorem liX4_28 : ax_lI RX4 28 mX6_init := ⟨ax_tbl_of 333 (by decide +kernel) rfl, ax_tbl_of 334 (by decide +kernel) rfl⟩
theorem kic_4_2 : ax_kR 4 2 := fun _ _ _ => rfl
theorem fwX4_31 : Cond.fieldLink RX4 31 RX4 (TX4 2).2.1 (TX4 2).2.2.1 ∈ ax_tbl := ax_tbl_of 373 (by decide +kernel) rfl
def rh_62 : Nat → Nat → Option Nat := ax_upR rh_61 46 2 49
abbrev mX4_init : ax_Mi := (yX4_init, cX4_init, 3, none)
theorem hhX4_init : ax_hd mX4_init 2 := ⟨by decide +kernel, Nat.le_of_ble_eq_true rfl, ax_tbl_of 329 (by decide +kernel) rfl, ax_tbl_of 8 (by decide +kernel) rfl⟩
theorem okc_X4_init_46 : ax_OkC mX4_init 2 10 152 [.ref 46, .ref 2, .ref 32] 47 57 rh_49 rh_62 mu_3 (some ((), mu_3)) := by
  refine ax_startC (lc := [some (.ref 46), some (.ref 2), some (.ref 32)]) 0 (by decide) rfl (Nat.le_of_ble_eq_true rfl) (fun x D cA b gx hk0 hmc hms => ?_)
  refine rf_aload_n (n := 1) 0 dX4_init_0 rfl rfl rfl ?_
  refine rf_objI (n := 4) olX4_3 ax_obj (Nat.le_of_ble_eq_true rfl) (Nat.le_of_ble_eq_true rfl) (Nat.le_of_ble_eq_true rfl) dX4_init_1 rfl ?_
  refine rf_aload_n (n := 5) 0 dX4_init_4 rfl rfl rfl ?_
  refine rf_bipush (n := 7) (24 : Int32) dX4_init_5 (by decide) rfl ?_
  refine rf_newAI (n := 9) 47 hk0 rfl (N := 24) rfl (by decide) (by decide) (by decide) (fun _ => rfl) (Nat.le_of_ble_eq_true rfl) (by rw [← hmc]; exact (Nat.le_of_ble_eq_true rfl)) (by rw [← hms]; exact (Nat.le_of_ble_eq_true rfl)) ax_arr_int dX4_init_7 rfl ?_
  refine rf_putF (n := 12) (q := (RX4, TX4, 5)) (c := 4) (j := 3) (ty := .array .int) rfl (by decide) ⟨rfl, rfl⟩ fwX4_9 rfl rfl kic_4_3 rfl ⟨rfl, rfl⟩ rfl (Nat.le_of_ble_eq_true rfl) (Nat.le_of_ble_eq_true rfl) (Nat.le_of_ble_eq_true rfl) dX4_init_9 rfl ?_
  refine rf_aload_n (n := 13) 0 dX4_init_12 rfl rfl rfl ?_
  refine rf_iconst (n := 14) (4 : Int32) dX4_init_13 (by decide) rfl ?_
  refine rf_newAI (n := 16) 47 hk0 rfl (N := 4) rfl (by decide) (by decide) (by decide) (fun _ => rfl) (Nat.le_of_ble_eq_true rfl) (by rw [← hmc]; exact (Nat.le_of_ble_eq_true rfl)) (by rw [← hms]; exact (Nat.le_of_ble_eq_true rfl)) ax_arr_int dX4_init_14 rfl ?_
  refine rf_putF (n := 19) (q := (RX4, TX4, 5)) (c := 4) (j := 4) (ty := .array .int) rfl (by decide) ⟨rfl, rfl⟩ fwX4_15 rfl rfl kic_4_4 rfl ⟨rfl, rfl⟩ rfl (Nat.le_of_ble_eq_true rfl) (Nat.le_of_ble_eq_true rfl) (Nat.le_of_ble_eq_true rfl) dX4_init_16 rfl ?_
  refine rf_aload_n (n := 20) 0 dX4_init_19 rfl rfl rfl ?_
  refine rf_aload_n (n := 21) 1 dX4_init_20 rfl rfl rfl ?_
  refine rf_putF (n := 24) (q := (RX4, TX4, 5)) (c := 4) (j := 0) (ty := .object "LatchTimes$Net") rfl (by decide) ⟨rfl, rfl⟩ fwX4_18 rfl rfl kic_4_0 rfl ⟨rfl, rfl⟩ rfl (Nat.le_of_ble_eq_true rfl) (Nat.le_of_ble_eq_true rfl) (Nat.le_of_ble_eq_true rfl) dX4_init_21 rfl ?_
  refine rf_aload_n (n := 25) 0 dX4_init_24 rfl rfl rfl ?_
  refine rf_aload_n (n := 26) 2 dX4_init_25 rfl rfl rfl ?_
  refine rf_putF (n := 29) (q := (RX4, TX4, 5)) (c := 4) (j := 1) (ty := .object "LatchTimes$Times") rfl (by decide) ⟨rfl, rfl⟩ fwX4_22 rfl rfl kic_4_1 rfl ⟨rfl, rfl⟩ rfl (Nat.le_of_ble_eq_true rfl) (Nat.le_of_ble_eq_true rfl) (Nat.le_of_ble_eq_true rfl) dX4_init_26 rfl ?_
  refine rf_aload_n (n := 30) 0 dX4_init_29 rfl rfl rfl ?_
  refine rf_newO (n := 33) (q := (RX6, TX6, 11)) (c := 6) 47 hk0 rfl rfl rfl nwX4_26 (fun j hj => ax_fv_def (okty_6 j hj) (fun _ => rfl) (fun _ => rfl) (fun _ => rfl) j) (Nat.le_of_ble_eq_true rfl) (by rw [← hmc]; exact (Nat.le_of_ble_eq_true rfl)) (by rw [← hms]; exact (Nat.le_of_ble_eq_true rfl)) dX4_init_30 rfl ?_
  refine rf_dupR (n := 34) dX4_init_33 rfl ?_
  refine rf_aload_n (n := 35) 1 dX4_init_34 rfl rfl rfl ?_
  refine rf_cIs (n := 38) (As := [.ref 2]) 47 hk0 rfl okc_X6_init_49 liX4_28 hhX6_init rfl rfl (Nat.le_of_ble_eq_true rfl) dX4_init_35 rfl (Nat.le_of_ble_eq_true rfl) rfl rfl (Nat.le_of_ble_eq_true rfl) (by rw [← hmc]; exact (Nat.le_of_ble_eq_true rfl)) (by rw [← hms]; exact (Nat.le_of_ble_eq_true rfl)) ?_
  refine rf_putF (n := 41) (q := (RX4, TX4, 5)) (c := 4) (j := 2) (ty := .object "LatchTimes$Trial") rfl (by decide) ⟨rfl, rfl⟩ fwX4_31 rfl rfl kic_4_2 rfl ⟨rfl, rfl⟩ rfl (Nat.le_of_ble_eq_true rfl) (Nat.le_of_ble_eq_true rfl) (Nat.le_of_ble_eq_true rfl) dX4_init_38 rfl ?_
  exact rf_retC rfl dX4_init_41
theorem liX8_61 : ax_lI RX8 61 mX4_init := ⟨ax_tbl_of 327 (by decide +kernel) rfl, ax_tbl_of 328 (by decide +kernel) rfl⟩
theorem kic_8_8 : ax_kR 8 8 := fun _ _ _ => rfl
theorem fwX8_64 : Cond.fieldLink RX8 64 RX8 (TX8 8).2.1 (TX8 8).2.2.1 ∈ ax_tbl := ax_tbl_of 395 (by decide +kernel) rfl
def rh_63 : Nat → Nat → Option Nat := ax_upR rh_62 0 8 46
abbrev mX8_init : ax_Mi := (yX8_init, cX8_init, 1, none)
theorem hhX8_init : ax_hd mX8_init 0 := ⟨by decide +kernel, Nat.le_of_ble_eq_true rfl, ax_tbl_of 28 (by decide +kernel) rfl, ax_tbl_of 1 (by decide +kernel) rfl⟩
theorem okc_X8_init_0 : ax_OkC mX8_init 3 56 2730 [.ref 0] 1 57 rh_0 rh_63 mu_0 (some ((), mu_3)) := by
  refine ax_startC (lc := [some (.ref 0)]) 0 (by decide) rfl (Nat.le_of_ble_eq_true rfl) (fun x D cA b gx hk0 hmc hms => ?_)
  refine rf_aload_n (n := 1) 0 dX8_init_0 rfl rfl rfl ?_
  refine rf_objI (n := 4) olX8_1 ax_obj (Nat.le_of_ble_eq_true rfl) (Nat.le_of_ble_eq_true rfl) (Nat.le_of_ble_eq_true rfl) dX8_init_1 rfl ?_
  refine rf_aload_n (n := 5) 0 dX8_init_4 rfl rfl rfl ?_
  refine rf_sipush (n := 8) (700 : Int32) dX8_init_5 (by decide) rfl ?_
  refine rf_newAI (n := 10) 1 hk0 rfl (N := 700) rfl (by decide) (by decide) (by decide) (fun _ => rfl) (Nat.le_of_ble_eq_true rfl) (by rw [← hmc]; exact (Nat.le_of_ble_eq_true rfl)) (by rw [← hms]; exact (Nat.le_of_ble_eq_true rfl)) ax_arr_int dX8_init_8 rfl ?_
  refine rf_putF (n := 13) (q := (RX8, TX8, 9)) (c := 8) (j := 0) (ty := .array .int) rfl (by decide) ⟨rfl, rfl⟩ fwX8_9 rfl rfl kic_8_0 rfl ⟨rfl, rfl⟩ rfl (Nat.le_of_ble_eq_true rfl) (Nat.le_of_ble_eq_true rfl) (Nat.le_of_ble_eq_true rfl) dX8_init_10 rfl ?_
  refine rf_aload_n (n := 14) 0 dX8_init_13 rfl rfl rfl ?_
  refine rf_newO (n := 17) (q := (RX1, TX1, 19)) (c := 1) 1 hk0 rfl rfl rfl nwX8_13 (fun j hj => ax_fv_def (okty_1 j hj) (fun _ => rfl) (fun _ => rfl) (fun _ => rfl) j) (Nat.le_of_ble_eq_true rfl) (by rw [← hmc]; exact (Nat.le_of_ble_eq_true rfl)) (by rw [← hms]; exact (Nat.le_of_ble_eq_true rfl)) dX8_init_14 rfl ?_
  refine rf_dupR (n := 18) dX8_init_17 rfl ?_
  refine rf_cJs (n := 21) (As := []) 1 hk0 rfl okc_X1_init_2 ljX8_15 hhX1_init rfl rfl (Nat.le_of_ble_eq_true rfl) dX8_init_18 rfl (Nat.le_of_ble_eq_true rfl) rfl rfl (Nat.le_of_ble_eq_true rfl) (by rw [← hmc]; exact (Nat.le_of_ble_eq_true rfl)) (by rw [← hms]; exact (Nat.le_of_ble_eq_true rfl)) ?_
  refine rf_putF (n := 24) (q := (RX8, TX8, 9)) (c := 8) (j := 2) (ty := .object "LatchTimes$Net") rfl (by decide) ⟨rfl, rfl⟩ fwX8_16 rfl rfl kic_8_2 rfl ⟨rfl, rfl⟩ rfl (Nat.le_of_ble_eq_true rfl) (Nat.le_of_ble_eq_true rfl) (Nat.le_of_ble_eq_true rfl) dX8_init_21 rfl ?_
  refine rf_aload_n (n := 25) 0 dX8_init_24 rfl rfl rfl ?_
  refine rf_newO (n := 28) (q := (RX3, TX3, 13)) (c := 3) 1 hk0 rfl rfl rfl nwX8_20 (fun j hj => ax_fv_def (okty_3 j hj) (fun _ => rfl) (fun _ => rfl) (fun _ => rfl) j) (Nat.le_of_ble_eq_true rfl) (by rw [← hmc]; exact (Nat.le_of_ble_eq_true rfl)) (by rw [← hms]; exact (Nat.le_of_ble_eq_true rfl)) dX8_init_25 rfl ?_
  refine rf_dupR (n := 29) dX8_init_28 rfl ?_
  refine rf_aload_n (n := 30) 0 dX8_init_29 rfl rfl rfl ?_
  refine rf_getRc (n := 33) (q := (RX8, TX8, 9)) (c := 8) (j := 0) (v := 1) rfl (by decide) rfl fwX8_9 kic_8_0 rfl rfl (Nat.le_of_ble_eq_true rfl) (Nat.le_of_ble_eq_true rfl) (Nat.le_of_ble_eq_true rfl) dX8_init_30 rfl ?_
  refine rf_cIs (n := 36) (As := [.ref 1]) 1 hk0 rfl okc_X3_init_15 liX8_22 hhX3_init rfl rfl (Nat.le_of_ble_eq_true rfl) dX8_init_33 rfl (Nat.le_of_ble_eq_true rfl) rfl rfl (Nat.le_of_ble_eq_true rfl) (by rw [← hmc]; exact (Nat.le_of_ble_eq_true rfl)) (by rw [← hms]; exact (Nat.le_of_ble_eq_true rfl)) ?_
  refine rf_putF (n := 39) (q := (RX8, TX8, 9)) (c := 8) (j := 3) (ty := .object "LatchTimes$Reader") rfl (by decide) ⟨rfl, rfl⟩ fwX8_25 rfl rfl kic_8_3 rfl ⟨rfl, rfl⟩ rfl (Nat.le_of_ble_eq_true rfl) (Nat.le_of_ble_eq_true rfl) (Nat.le_of_ble_eq_true rfl) dX8_init_36 rfl ?_
  refine rf_aload_n (n := 40) 0 dX8_init_39 rfl rfl rfl ?_
  refine rf_newO (n := 43) (q := (RX2, TX2, 5)) (c := 2) 1 hk0 rfl rfl rfl nwX8_29 (fun j hj => ax_fv_def (okty_2 j hj) (fun _ => rfl) (fun _ => rfl) (fun _ => rfl) j) (Nat.le_of_ble_eq_true rfl) (by rw [← hmc]; exact (Nat.le_of_ble_eq_true rfl)) (by rw [← hms]; exact (Nat.le_of_ble_eq_true rfl)) dX8_init_40 rfl ?_
  refine rf_dupR (n := 44) dX8_init_43 rfl ?_
  refine rf_cJs (n := 47) (As := []) 1 hk0 rfl okc_X2_init_29 ljX8_31 hhX2_init rfl rfl (Nat.le_of_ble_eq_true rfl) dX8_init_44 rfl (Nat.le_of_ble_eq_true rfl) rfl rfl (Nat.le_of_ble_eq_true rfl) (by rw [← hmc]; exact (Nat.le_of_ble_eq_true rfl)) (by rw [← hms]; exact (Nat.le_of_ble_eq_true rfl)) ?_
  refine rf_putF (n := 50) (q := (RX8, TX8, 9)) (c := 8) (j := 4) (ty := .object "LatchTimes$Past") rfl (by decide) ⟨rfl, rfl⟩ fwX8_32 rfl rfl kic_8_4 rfl ⟨rfl, rfl⟩ rfl (Nat.le_of_ble_eq_true rfl) (Nat.le_of_ble_eq_true rfl) (Nat.le_of_ble_eq_true rfl) dX8_init_47 rfl ?_
  refine rf_aload_n (n := 51) 0 dX8_init_50 rfl rfl rfl ?_
  refine rf_newO (n := 54) (q := (RX5, TX5, 7)) (c := 5) 1 hk0 rfl rfl rfl nwX8_36 (fun j hj => ax_fv_def (okty_5 j hj) (fun _ => rfl) (fun _ => rfl) (fun _ => rfl) j) (Nat.le_of_ble_eq_true rfl) (by rw [← hmc]; exact (Nat.le_of_ble_eq_true rfl)) (by rw [← hms]; exact (Nat.le_of_ble_eq_true rfl)) dX8_init_51 rfl ?_
  refine rf_dupR (n := 55) dX8_init_54 rfl ?_
  refine rf_aload_n (n := 56) 0 dX8_init_55 rfl rfl rfl ?_
  refine rf_getRc (n := 59) (q := (RX8, TX8, 9)) (c := 8) (j := 2) (v := 2) rfl (by decide) rfl fwX8_16 kic_8_2 rfl rfl (Nat.le_of_ble_eq_true rfl) (Nat.le_of_ble_eq_true rfl) (Nat.le_of_ble_eq_true rfl) dX8_init_56 rfl ?_
  refine rf_cIs (n := 62) (As := [.ref 2]) 1 hk0 rfl okc_X5_init_32 liX8_38 hhX5_init rfl rfl (Nat.le_of_ble_eq_true rfl) dX8_init_59 rfl (Nat.le_of_ble_eq_true rfl) rfl rfl (Nat.le_of_ble_eq_true rfl) (by rw [← hmc]; exact (Nat.le_of_ble_eq_true rfl)) (by rw [← hms]; exact (Nat.le_of_ble_eq_true rfl)) ?_
  refine rf_putF (n := 65) (q := (RX8, TX8, 9)) (c := 8) (j := 5) (ty := .object "LatchTimes$Times") rfl (by decide) ⟨rfl, rfl⟩ fwX8_41 rfl rfl kic_8_5 rfl ⟨rfl, rfl⟩ rfl (Nat.le_of_ble_eq_true rfl) (Nat.le_of_ble_eq_true rfl) (Nat.le_of_ble_eq_true rfl) dX8_init_62 rfl ?_
  refine rf_aload_n (n := 66) 0 dX8_init_65 rfl rfl rfl ?_
  refine rf_newO (n := 69) (q := (RX7, TX7, 4)) (c := 7) 1 hk0 rfl rfl rfl nwX8_45 (fun j hj => ax_fv_def (okty_7 j hj) (fun _ => rfl) (fun _ => rfl) (fun _ => rfl) j) (Nat.le_of_ble_eq_true rfl) (by rw [← hmc]; exact (Nat.le_of_ble_eq_true rfl)) (by rw [← hms]; exact (Nat.le_of_ble_eq_true rfl)) dX8_init_66 rfl ?_
  refine rf_dupR (n := 70) dX8_init_69 rfl ?_
  refine rf_aload_n (n := 71) 0 dX8_init_70 rfl rfl rfl ?_
  refine rf_getRc (n := 74) (q := (RX8, TX8, 9)) (c := 8) (j := 2) (v := 2) rfl (by decide) rfl fwX8_16 kic_8_2 rfl rfl (Nat.le_of_ble_eq_true rfl) (Nat.le_of_ble_eq_true rfl) (Nat.le_of_ble_eq_true rfl) dX8_init_71 rfl ?_
  refine rf_cIs (n := 77) (As := [.ref 2]) 1 hk0 rfl okc_X7_init_37 liX8_47 hhX7_init rfl rfl (Nat.le_of_ble_eq_true rfl) dX8_init_74 rfl (Nat.le_of_ble_eq_true rfl) rfl rfl (Nat.le_of_ble_eq_true rfl) (by rw [← hmc]; exact (Nat.le_of_ble_eq_true rfl)) (by rw [← hms]; exact (Nat.le_of_ble_eq_true rfl)) ?_
  refine rf_putF (n := 80) (q := (RX8, TX8, 9)) (c := 8) (j := 6) (ty := .object "LatchTimes$Waves") rfl (by decide) ⟨rfl, rfl⟩ fwX8_48 rfl rfl kic_8_6 rfl ⟨rfl, rfl⟩ rfl (Nat.le_of_ble_eq_true rfl) (Nat.le_of_ble_eq_true rfl) (Nat.le_of_ble_eq_true rfl) dX8_init_77 rfl ?_
  refine rf_aload_n (n := 81) 0 dX8_init_80 rfl rfl rfl ?_
  refine rf_newO (n := 84) (q := (RX0, TX0, 9)) (c := 0) 1 hk0 rfl rfl rfl nwX8_52 (fun j hj => ax_fv_def (okty_0 j hj) (fun _ => rfl) (fun _ => rfl) (fun _ => rfl) j) (Nat.le_of_ble_eq_true rfl) (by rw [← hmc]; exact (Nat.le_of_ble_eq_true rfl)) (by rw [← hms]; exact (Nat.le_of_ble_eq_true rfl)) dX8_init_81 rfl ?_
  refine rf_dupR (n := 85) dX8_init_84 rfl ?_
  refine rf_aload_n (n := 86) 0 dX8_init_85 rfl rfl rfl ?_
  refine rf_getRc (n := 89) (q := (RX8, TX8, 9)) (c := 8) (j := 2) (v := 2) rfl (by decide) rfl fwX8_16 kic_8_2 rfl rfl (Nat.le_of_ble_eq_true rfl) (Nat.le_of_ble_eq_true rfl) (Nat.le_of_ble_eq_true rfl) dX8_init_86 rfl ?_
  refine rf_cIs (n := 92) (As := [.ref 2]) 1 hk0 rfl okc_X0_init_41 liX8_54 hhX0_init rfl rfl (Nat.le_of_ble_eq_true rfl) dX8_init_89 rfl (Nat.le_of_ble_eq_true rfl) rfl rfl (Nat.le_of_ble_eq_true rfl) (by rw [← hmc]; exact (Nat.le_of_ble_eq_true rfl)) (by rw [← hms]; exact (Nat.le_of_ble_eq_true rfl)) ?_
  refine rf_putF (n := 95) (q := (RX8, TX8, 9)) (c := 8) (j := 7) (ty := .object "LatchTimes$Loops") rfl (by decide) ⟨rfl, rfl⟩ fwX8_55 rfl rfl kic_8_7 rfl ⟨rfl, rfl⟩ rfl (Nat.le_of_ble_eq_true rfl) (Nat.le_of_ble_eq_true rfl) (Nat.le_of_ble_eq_true rfl) dX8_init_92 rfl ?_
  refine rf_aload_n (n := 96) 0 dX8_init_95 rfl rfl rfl ?_
  refine rf_newO (n := 99) (q := (RX4, TX4, 5)) (c := 4) 1 hk0 rfl rfl rfl nwX8_59 (fun j hj => ax_fv_def (okty_4 j hj) (fun _ => rfl) (fun _ => rfl) (fun _ => rfl) j) (Nat.le_of_ble_eq_true rfl) (by rw [← hmc]; exact (Nat.le_of_ble_eq_true rfl)) (by rw [← hms]; exact (Nat.le_of_ble_eq_true rfl)) dX8_init_96 rfl ?_
  refine rf_dupR (n := 100) dX8_init_99 rfl ?_
  refine rf_aload_n (n := 101) 0 dX8_init_100 rfl rfl rfl ?_
  refine rf_getRc (n := 104) (q := (RX8, TX8, 9)) (c := 8) (j := 2) (v := 2) rfl (by decide) rfl fwX8_16 kic_8_2 rfl rfl (Nat.le_of_ble_eq_true rfl) (Nat.le_of_ble_eq_true rfl) (Nat.le_of_ble_eq_true rfl) dX8_init_101 rfl ?_
  refine rf_aload_n (n := 105) 0 dX8_init_104 rfl rfl rfl ?_
  refine rf_getRc (n := 108) (q := (RX8, TX8, 9)) (c := 8) (j := 5) (v := 32) rfl (by decide) rfl fwX8_41 kic_8_5 rfl rfl (Nat.le_of_ble_eq_true rfl) (Nat.le_of_ble_eq_true rfl) (Nat.le_of_ble_eq_true rfl) dX8_init_105 rfl ?_
  refine rf_cIs (n := 111) (As := [.ref 2, .ref 32]) 1 hk0 rfl okc_X4_init_46 liX8_61 hhX4_init rfl rfl (Nat.le_of_ble_eq_true rfl) dX8_init_108 rfl (Nat.le_of_ble_eq_true rfl) rfl rfl (Nat.le_of_ble_eq_true rfl) (by rw [← hmc]; exact (Nat.le_of_ble_eq_true rfl)) (by rw [← hms]; exact (Nat.le_of_ble_eq_true rfl)) ?_
  refine rf_putF (n := 114) (q := (RX8, TX8, 9)) (c := 8) (j := 8) (ty := .object "LatchTimes$Search") rfl (by decide) ⟨rfl, rfl⟩ fwX8_64 rfl rfl kic_8_8 rfl ⟨rfl, rfl⟩ rfl (Nat.le_of_ble_eq_true rfl) (Nat.le_of_ble_eq_true rfl) (Nat.le_of_ble_eq_true rfl) dX8_init_111 rfl ?_
  exact rf_retC rfl dX8_init_114
theorem olX9_1 : Cond.methodLink RX9 1 objectInit ∈ ax_tbl := ax_tbl_of 1181 (by decide +kernel) rfl
theorem kic_9_1 : ax_kR 9 1 := fun _ _ _ => rfl
theorem fwX9_7 : Cond.fieldLink RX9 7 RX9 (TX9 1).2.1 (TX9 1).2.2.1 ∈ ax_tbl := ax_tbl_of 1215 (by decide +kernel) rfl
def rh_64 : Nat → Nat → Option Nat := ax_upR rh_63 57 1 58
theorem kic_9_3 : ax_kR 9 3 := fun _ _ _ => rfl
theorem fwX9_13 : Cond.fieldLink RX9 13 RX9 (TX9 3).2.1 (TX9 3).2.2.1 ∈ ax_tbl := ax_tbl_of 1217 (by decide +kernel) rfl
def rh_65 : Nat → Nat → Option Nat := ax_upR rh_64 57 3 59
theorem kic_9_4 : ax_kR 9 4 := fun _ _ _ => rfl
theorem fwX9_16 : Cond.fieldLink RX9 16 RX9 (TX9 4).2.1 (TX9 4).2.2.1 ∈ ax_tbl := ax_tbl_of 1218 (by decide +kernel) rfl
def rh_66 : Nat → Nat → Option Nat := ax_upR rh_65 57 4 60
theorem kic_9_5 : ax_kR 9 5 := fun _ _ _ => rfl
theorem fwX9_20 : Cond.fieldLink RX9 20 RX9 (TX9 5).2.1 (TX9 5).2.2.1 ∈ ax_tbl := ax_tbl_of 1219 (by decide +kernel) rfl
def rh_67 : Nat → Nat → Option Nat := ax_upR rh_66 57 5 61
theorem kic_9_6 : ax_kR 9 6 := fun _ _ _ => rfl
theorem fwX9_23 : Cond.fieldLink RX9 23 RX9 (TX9 6).2.1 (TX9 6).2.2.1 ∈ ax_tbl := ax_tbl_of 1220 (by decide +kernel) rfl
def rh_68 : Nat → Nat → Option Nat := ax_upR rh_67 57 6 62
theorem kic_9_7 : ax_kR 9 7 := fun _ _ _ => rfl
theorem fwX9_26 : Cond.fieldLink RX9 26 RX9 (TX9 7).2.1 (TX9 7).2.2.1 ∈ ax_tbl := ax_tbl_of 1221 (by decide +kernel) rfl
def rh_69 : Nat → Nat → Option Nat := ax_upR rh_68 57 7 63
theorem kic_9_8 : ax_kR 9 8 := fun _ _ _ => rfl
theorem fwX9_29 : Cond.fieldLink RX9 29 RX9 (TX9 8).2.1 (TX9 8).2.2.1 ∈ ax_tbl := ax_tbl_of 1222 (by decide +kernel) rfl
def rh_70 : Nat → Nat → Option Nat := ax_upR rh_69 57 8 64
theorem kic_9_9 : ax_kR 9 9 := fun _ _ _ => rfl
theorem fwX9_32 : Cond.fieldLink RX9 32 RX9 (TX9 9).2.1 (TX9 9).2.2.1 ∈ ax_tbl := ax_tbl_of 1223 (by decide +kernel) rfl
def rh_71 : Nat → Nat → Option Nat := ax_upR rh_70 57 9 65
theorem kic_9_10 : ax_kR 9 10 := fun _ _ _ => rfl
theorem fwX9_35 : Cond.fieldLink RX9 35 RX9 (TX9 10).2.1 (TX9 10).2.2.1 ∈ ax_tbl := ax_tbl_of 1224 (by decide +kernel) rfl
def rh_72 : Nat → Nat → Option Nat := ax_upR rh_71 57 10 66
theorem kic_9_11 : ax_kR 9 11 := fun _ _ _ => rfl
theorem fwX9_38 : Cond.fieldLink RX9 38 RX9 (TX9 11).2.1 (TX9 11).2.2.1 ∈ ax_tbl := ax_tbl_of 1225 (by decide +kernel) rfl
def rh_73 : Nat → Nat → Option Nat := ax_upR rh_72 57 11 67
theorem kic_9_12 : ax_kR 9 12 := fun _ _ _ => rfl
theorem fwX9_41 : Cond.fieldLink RX9 41 RX9 (TX9 12).2.1 (TX9 12).2.2.1 ∈ ax_tbl := ax_tbl_of 1226 (by decide +kernel) rfl
def rh_74 : Nat → Nat → Option Nat := ax_upR rh_73 57 12 68
theorem kic_9_13 : ax_kR 9 13 := fun _ _ _ => rfl
theorem fwX9_44 : Cond.fieldLink RX9 44 RX9 (TX9 13).2.1 (TX9 13).2.2.1 ∈ ax_tbl := ax_tbl_of 1227 (by decide +kernel) rfl
def rh_75 : Nat → Nat → Option Nat := ax_upR rh_74 57 13 69
theorem kic_9_14 : ax_kR 9 14 := fun _ _ _ => rfl
theorem fwX9_47 : Cond.fieldLink RX9 47 RX9 (TX9 14).2.1 (TX9 14).2.2.1 ∈ ax_tbl := ax_tbl_of 1228 (by decide +kernel) rfl
def rh_76 : Nat → Nat → Option Nat := ax_upR rh_75 57 14 70
theorem kic_9_15 : ax_kR 9 15 := fun _ _ _ => rfl
theorem fwX9_50 : Cond.fieldLink RX9 50 RX9 (TX9 15).2.1 (TX9 15).2.2.1 ∈ ax_tbl := ax_tbl_of 1229 (by decide +kernel) rfl
def rh_77 : Nat → Nat → Option Nat := ax_upR rh_76 57 15 71
theorem kic_9_16 : ax_kR 9 16 := fun _ _ _ => rfl
theorem fwX9_53 : Cond.fieldLink RX9 53 RX9 (TX9 16).2.1 (TX9 16).2.2.1 ∈ ax_tbl := ax_tbl_of 1230 (by decide +kernel) rfl
def rh_78 : Nat → Nat → Option Nat := ax_upR rh_77 57 16 72
theorem kic_9_17 : ax_kR 9 17 := fun _ _ _ => rfl
theorem fwX9_56 : Cond.fieldLink RX9 56 RX9 (TX9 17).2.1 (TX9 17).2.2.1 ∈ ax_tbl := ax_tbl_of 1231 (by decide +kernel) rfl
def rh_79 : Nat → Nat → Option Nat := ax_upR rh_78 57 17 73
theorem kic_9_27 : ax_kI 9 27 := fun _ _ _ => rfl
theorem fwX9_59 : Cond.fieldLink RX9 59 RX9 (TX9 27).2.1 (TX9 27).2.2.1 ∈ ax_tbl := ax_tbl_of 1241 (by decide +kernel) rfl
def mu_4 : ax_M := ax_wi mu_3 57 27 (-1 : Int32)
theorem kic_9_28 : ax_kR 9 28 := fun _ _ _ => rfl
theorem fwX9_63 : Cond.fieldLink RX9 63 RX9 (TX9 28).2.1 (TX9 28).2.2.1 ∈ ax_tbl := ax_tbl_of 1242 (by decide +kernel) rfl
def rh_80 : Nat → Nat → Option Nat := ax_upR rh_79 57 28 74
theorem kic_9_29 : ax_kR 9 29 := fun _ _ _ => rfl
theorem fwX9_66 : Cond.fieldLink RX9 66 RX9 (TX9 29).2.1 (TX9 29).2.2.1 ∈ ax_tbl := ax_tbl_of 1243 (by decide +kernel) rfl
def rh_81 : Nat → Nat → Option Nat := ax_upR rh_80 57 29 75
theorem kic_9_32 : ax_kR 9 32 := fun _ _ _ => rfl
theorem fwX9_69 : Cond.fieldLink RX9 69 RX9 (TX9 32).2.1 (TX9 32).2.2.1 ∈ ax_tbl := ax_tbl_of 1246 (by decide +kernel) rfl
def rh_82 : Nat → Nat → Option Nat := ax_upR rh_81 57 32 76
theorem kic_9_33 : ax_kR 9 33 := fun _ _ _ => rfl
theorem fwX9_73 : Cond.fieldLink RX9 73 RX9 (TX9 33).2.1 (TX9 33).2.2.1 ∈ ax_tbl := ax_tbl_of 1247 (by decide +kernel) rfl
def rh_83 : Nat → Nat → Option Nat := ax_upR rh_82 57 33 77
theorem kic_9_34 : ax_kR 9 34 := fun _ _ _ => rfl
theorem fwX9_76 : Cond.fieldLink RX9 76 RX9 (TX9 34).2.1 (TX9 34).2.2.1 ∈ ax_tbl := ax_tbl_of 1248 (by decide +kernel) rfl
def rh_84 : Nat → Nat → Option Nat := ax_upR rh_83 57 34 78
theorem kic_9_36 : ax_kR 9 36 := fun _ _ _ => rfl
theorem fwX9_79 : Cond.fieldLink RX9 79 RX9 (TX9 36).2.1 (TX9 36).2.2.1 ∈ ax_tbl := ax_tbl_of 1250 (by decide +kernel) rfl
def rh_85 : Nat → Nat → Option Nat := ax_upR rh_84 57 36 79
theorem kic_9_38 : ax_kR 9 38 := fun _ _ _ => rfl
theorem fwX9_82 : Cond.fieldLink RX9 82 RX9 (TX9 38).2.1 (TX9 38).2.2.1 ∈ ax_tbl := ax_tbl_of 1252 (by decide +kernel) rfl
def rh_86 : Nat → Nat → Option Nat := ax_upR rh_85 57 38 80
theorem kic_9_39 : ax_kR 9 39 := fun _ _ _ => rfl
theorem fwX9_85 : Cond.fieldLink RX9 85 RX9 (TX9 39).2.1 (TX9 39).2.2.1 ∈ ax_tbl := ax_tbl_of 1253 (by decide +kernel) rfl
def rh_87 : Nat → Nat → Option Nat := ax_upR rh_86 57 39 81
theorem kic_9_40 : ax_kR 9 40 := fun _ _ _ => rfl
theorem fwX9_88 : Cond.fieldLink RX9 88 RX9 (TX9 40).2.1 (TX9 40).2.2.1 ∈ ax_tbl := ax_tbl_of 1254 (by decide +kernel) rfl
def rh_88 : Nat → Nat → Option Nat := ax_upR rh_87 57 40 82
theorem kic_9_45 : ax_kR 9 45 := fun _ _ _ => rfl
theorem fwX9_91 : Cond.fieldLink RX9 91 RX9 (TX9 45).2.1 (TX9 45).2.2.1 ∈ ax_tbl := ax_tbl_of 1259 (by decide +kernel) rfl
def rh_89 : Nat → Nat → Option Nat := ax_upR rh_88 57 45 83
abbrev mX9_init : ax_Mi := (yX9_init, cX9_init, 1, none)
theorem hhX9_init : ax_hd mX9_init 0 := ⟨by decide +kernel, Nat.le_of_ble_eq_true rfl, ax_tbl_of 1180 (by decide +kernel) rfl, ax_tbl_of 10 (by decide +kernel) rfl⟩
theorem okc_X9_init_57 : ax_OkC mX9_init 4 26 2645 [.ref 57] 58 84 rh_63 ax_R mu_3 (ax_bd (fX9_freshText mu_4) (fun _ m => ax_bd (fX9_takeText m) (fun _ m => ax_bd (fX9_begins m) (fun _ m => some ((), m))))) := by
  refine ax_startC (lc := [some (.ref 57)]) 0 (by decide) rfl (Nat.le_of_ble_eq_true rfl) (fun x D cA b gx hk0 hmc hms => ?_)
  have hG : ax_ok (ax_Gk D cA b 84 ax_R gx) := ⟨Nat.le_refl _, rfl⟩
  refine rf_aload_n (n := 1) 0 dX9_init_0 rfl rfl rfl ?_
  refine rf_objI (n := 4) olX9_1 ax_obj (Nat.le_of_ble_eq_true rfl) (Nat.le_of_ble_eq_true rfl) (Nat.le_of_ble_eq_true rfl) dX9_init_1 rfl ?_
  refine rf_aload_n (n := 5) 0 dX9_init_4 rfl rfl rfl ?_
  refine rf_sipush (n := 8) (700 : Int32) dX9_init_5 (by decide) rfl ?_
  refine rf_newAI (n := 10) 58 hk0 rfl (N := 700) rfl (by decide) (by decide) (by decide) (fun _ => rfl) (Nat.le_of_ble_eq_true rfl) (by rw [← hmc]; exact (Nat.le_of_ble_eq_true rfl)) (by rw [← hms]; exact (Nat.le_of_ble_eq_true rfl)) ax_arr_int dX9_init_8 rfl ?_
  refine rf_putF (n := 13) (q := (RX9, TX9, 46)) (c := 9) (j := 1) (ty := .array .int) rfl (by decide) ⟨rfl, rfl⟩ fwX9_7 rfl rfl kic_9_1 rfl ⟨rfl, rfl⟩ rfl (Nat.le_of_ble_eq_true rfl) (Nat.le_of_ble_eq_true rfl) (Nat.le_of_ble_eq_true rfl) dX9_init_10 rfl ?_
  refine rf_aload_n (n := 14) 0 dX9_init_13 rfl rfl rfl ?_
  refine rf_bipush (n := 16) (12 : Int32) dX9_init_14 (by decide) rfl ?_
  refine rf_newAI (n := 18) 58 hk0 rfl (N := 12) rfl (by decide) (by decide) (by decide) (fun _ => rfl) (Nat.le_of_ble_eq_true rfl) (by rw [← hmc]; exact (Nat.le_of_ble_eq_true rfl)) (by rw [← hms]; exact (Nat.le_of_ble_eq_true rfl)) ax_arr_int dX9_init_16 rfl ?_
  refine rf_putF (n := 21) (q := (RX9, TX9, 46)) (c := 9) (j := 3) (ty := .array .int) rfl (by decide) ⟨rfl, rfl⟩ fwX9_13 rfl rfl kic_9_3 rfl ⟨rfl, rfl⟩ rfl (Nat.le_of_ble_eq_true rfl) (Nat.le_of_ble_eq_true rfl) (Nat.le_of_ble_eq_true rfl) dX9_init_18 rfl ?_
  refine rf_aload_n (n := 22) 0 dX9_init_21 rfl rfl rfl ?_
  refine rf_bipush (n := 24) (7 : Int32) dX9_init_22 (by decide) rfl ?_
  refine rf_newAZ (n := 26) 58 hk0 rfl (N := 7) rfl (by decide) (by decide) (by decide) (fun _ => rfl) (Nat.le_of_ble_eq_true rfl) (by rw [← hmc]; exact (Nat.le_of_ble_eq_true rfl)) (by rw [← hms]; exact (Nat.le_of_ble_eq_true rfl)) ax_arr_boolean dX9_init_24 rfl ?_
  refine rf_putF (n := 29) (q := (RX9, TX9, 46)) (c := 9) (j := 4) (ty := .array .boolean) rfl (by decide) ⟨rfl, rfl⟩ fwX9_16 rfl rfl kic_9_4 rfl ⟨rfl, rfl⟩ rfl (Nat.le_of_ble_eq_true rfl) (Nat.le_of_ble_eq_true rfl) (Nat.le_of_ble_eq_true rfl) dX9_init_26 rfl ?_
  refine rf_aload_n (n := 30) 0 dX9_init_29 rfl rfl rfl ?_
  refine rf_bipush (n := 32) (8 : Int32) dX9_init_30 (by decide) rfl ?_
  refine rf_newAI (n := 34) 58 hk0 rfl (N := 8) rfl (by decide) (by decide) (by decide) (fun _ => rfl) (Nat.le_of_ble_eq_true rfl) (by rw [← hmc]; exact (Nat.le_of_ble_eq_true rfl)) (by rw [← hms]; exact (Nat.le_of_ble_eq_true rfl)) ax_arr_int dX9_init_32 rfl ?_
  refine rf_putF (n := 37) (q := (RX9, TX9, 46)) (c := 9) (j := 5) (ty := .array .int) rfl (by decide) ⟨rfl, rfl⟩ fwX9_20 rfl rfl kic_9_5 rfl ⟨rfl, rfl⟩ rfl (Nat.le_of_ble_eq_true rfl) (Nat.le_of_ble_eq_true rfl) (Nat.le_of_ble_eq_true rfl) dX9_init_34 rfl ?_
  refine rf_aload_n (n := 38) 0 dX9_init_37 rfl rfl rfl ?_
  refine rf_bipush (n := 40) (8 : Int32) dX9_init_38 (by decide) rfl ?_
  refine rf_newAI (n := 42) 58 hk0 rfl (N := 8) rfl (by decide) (by decide) (by decide) (fun _ => rfl) (Nat.le_of_ble_eq_true rfl) (by rw [← hmc]; exact (Nat.le_of_ble_eq_true rfl)) (by rw [← hms]; exact (Nat.le_of_ble_eq_true rfl)) ax_arr_int dX9_init_40 rfl ?_
  refine rf_putF (n := 45) (q := (RX9, TX9, 46)) (c := 9) (j := 6) (ty := .array .int) rfl (by decide) ⟨rfl, rfl⟩ fwX9_23 rfl rfl kic_9_6 rfl ⟨rfl, rfl⟩ rfl (Nat.le_of_ble_eq_true rfl) (Nat.le_of_ble_eq_true rfl) (Nat.le_of_ble_eq_true rfl) dX9_init_42 rfl ?_
  refine rf_aload_n (n := 46) 0 dX9_init_45 rfl rfl rfl ?_
  refine rf_bipush (n := 48) (8 : Int32) dX9_init_46 (by decide) rfl ?_
  refine rf_newAI (n := 50) 58 hk0 rfl (N := 8) rfl (by decide) (by decide) (by decide) (fun _ => rfl) (Nat.le_of_ble_eq_true rfl) (by rw [← hmc]; exact (Nat.le_of_ble_eq_true rfl)) (by rw [← hms]; exact (Nat.le_of_ble_eq_true rfl)) ax_arr_int dX9_init_48 rfl ?_
  refine rf_putF (n := 53) (q := (RX9, TX9, 46)) (c := 9) (j := 7) (ty := .array .int) rfl (by decide) ⟨rfl, rfl⟩ fwX9_26 rfl rfl kic_9_7 rfl ⟨rfl, rfl⟩ rfl (Nat.le_of_ble_eq_true rfl) (Nat.le_of_ble_eq_true rfl) (Nat.le_of_ble_eq_true rfl) dX9_init_50 rfl ?_
  refine rf_aload_n (n := 54) 0 dX9_init_53 rfl rfl rfl ?_
  refine rf_bipush (n := 56) (20 : Int32) dX9_init_54 (by decide) rfl ?_
  refine rf_newAI (n := 58) 58 hk0 rfl (N := 20) rfl (by decide) (by decide) (by decide) (fun _ => rfl) (Nat.le_of_ble_eq_true rfl) (by rw [← hmc]; exact (Nat.le_of_ble_eq_true rfl)) (by rw [← hms]; exact (Nat.le_of_ble_eq_true rfl)) ax_arr_int dX9_init_56 rfl ?_
  refine rf_putF (n := 61) (q := (RX9, TX9, 46)) (c := 9) (j := 8) (ty := .array .int) rfl (by decide) ⟨rfl, rfl⟩ fwX9_29 rfl rfl kic_9_8 rfl ⟨rfl, rfl⟩ rfl (Nat.le_of_ble_eq_true rfl) (Nat.le_of_ble_eq_true rfl) (Nat.le_of_ble_eq_true rfl) dX9_init_58 rfl ?_
  refine rf_aload_n (n := 62) 0 dX9_init_61 rfl rfl rfl ?_
  refine rf_bipush (n := 64) (20 : Int32) dX9_init_62 (by decide) rfl ?_
  refine rf_newAI (n := 66) 58 hk0 rfl (N := 20) rfl (by decide) (by decide) (by decide) (fun _ => rfl) (Nat.le_of_ble_eq_true rfl) (by rw [← hmc]; exact (Nat.le_of_ble_eq_true rfl)) (by rw [← hms]; exact (Nat.le_of_ble_eq_true rfl)) ax_arr_int dX9_init_64 rfl ?_
  refine rf_putF (n := 69) (q := (RX9, TX9, 46)) (c := 9) (j := 9) (ty := .array .int) rfl (by decide) ⟨rfl, rfl⟩ fwX9_32 rfl rfl kic_9_9 rfl ⟨rfl, rfl⟩ rfl (Nat.le_of_ble_eq_true rfl) (Nat.le_of_ble_eq_true rfl) (Nat.le_of_ble_eq_true rfl) dX9_init_66 rfl ?_
  refine rf_aload_n (n := 70) 0 dX9_init_69 rfl rfl rfl ?_
  refine rf_bipush (n := 72) (20 : Int32) dX9_init_70 (by decide) rfl ?_
  refine rf_newAI (n := 74) 58 hk0 rfl (N := 20) rfl (by decide) (by decide) (by decide) (fun _ => rfl) (Nat.le_of_ble_eq_true rfl) (by rw [← hmc]; exact (Nat.le_of_ble_eq_true rfl)) (by rw [← hms]; exact (Nat.le_of_ble_eq_true rfl)) ax_arr_int dX9_init_72 rfl ?_
  refine rf_putF (n := 77) (q := (RX9, TX9, 46)) (c := 9) (j := 10) (ty := .array .int) rfl (by decide) ⟨rfl, rfl⟩ fwX9_35 rfl rfl kic_9_10 rfl ⟨rfl, rfl⟩ rfl (Nat.le_of_ble_eq_true rfl) (Nat.le_of_ble_eq_true rfl) (Nat.le_of_ble_eq_true rfl) dX9_init_74 rfl ?_
  refine rf_aload_n (n := 78) 0 dX9_init_77 rfl rfl rfl ?_
  refine rf_bipush (n := 80) (20 : Int32) dX9_init_78 (by decide) rfl ?_
  refine rf_newAI (n := 82) 58 hk0 rfl (N := 20) rfl (by decide) (by decide) (by decide) (fun _ => rfl) (Nat.le_of_ble_eq_true rfl) (by rw [← hmc]; exact (Nat.le_of_ble_eq_true rfl)) (by rw [← hms]; exact (Nat.le_of_ble_eq_true rfl)) ax_arr_int dX9_init_80 rfl ?_
  refine rf_putF (n := 85) (q := (RX9, TX9, 46)) (c := 9) (j := 11) (ty := .array .int) rfl (by decide) ⟨rfl, rfl⟩ fwX9_38 rfl rfl kic_9_11 rfl ⟨rfl, rfl⟩ rfl (Nat.le_of_ble_eq_true rfl) (Nat.le_of_ble_eq_true rfl) (Nat.le_of_ble_eq_true rfl) dX9_init_82 rfl ?_
  refine rf_aload_n (n := 86) 0 dX9_init_85 rfl rfl rfl ?_
  refine rf_bipush (n := 88) (20 : Int32) dX9_init_86 (by decide) rfl ?_
  refine rf_newAI (n := 90) 58 hk0 rfl (N := 20) rfl (by decide) (by decide) (by decide) (fun _ => rfl) (Nat.le_of_ble_eq_true rfl) (by rw [← hmc]; exact (Nat.le_of_ble_eq_true rfl)) (by rw [← hms]; exact (Nat.le_of_ble_eq_true rfl)) ax_arr_int dX9_init_88 rfl ?_
  refine rf_putF (n := 93) (q := (RX9, TX9, 46)) (c := 9) (j := 12) (ty := .array .int) rfl (by decide) ⟨rfl, rfl⟩ fwX9_41 rfl rfl kic_9_12 rfl ⟨rfl, rfl⟩ rfl (Nat.le_of_ble_eq_true rfl) (Nat.le_of_ble_eq_true rfl) (Nat.le_of_ble_eq_true rfl) dX9_init_90 rfl ?_
  refine rf_aload_n (n := 94) 0 dX9_init_93 rfl rfl rfl ?_
  refine rf_bipush (n := 96) (20 : Int32) dX9_init_94 (by decide) rfl ?_
  refine rf_newAZ (n := 98) 58 hk0 rfl (N := 20) rfl (by decide) (by decide) (by decide) (fun _ => rfl) (Nat.le_of_ble_eq_true rfl) (by rw [← hmc]; exact (Nat.le_of_ble_eq_true rfl)) (by rw [← hms]; exact (Nat.le_of_ble_eq_true rfl)) ax_arr_boolean dX9_init_96 rfl ?_
  refine rf_putF (n := 101) (q := (RX9, TX9, 46)) (c := 9) (j := 13) (ty := .array .boolean) rfl (by decide) ⟨rfl, rfl⟩ fwX9_44 rfl rfl kic_9_13 rfl ⟨rfl, rfl⟩ rfl (Nat.le_of_ble_eq_true rfl) (Nat.le_of_ble_eq_true rfl) (Nat.le_of_ble_eq_true rfl) dX9_init_98 rfl ?_
  refine rf_aload_n (n := 102) 0 dX9_init_101 rfl rfl rfl ?_
  refine rf_bipush (n := 104) (48 : Int32) dX9_init_102 (by decide) rfl ?_
  refine rf_newAI (n := 106) 58 hk0 rfl (N := 48) rfl (by decide) (by decide) (by decide) (fun _ => rfl) (Nat.le_of_ble_eq_true rfl) (by rw [← hmc]; exact (Nat.le_of_ble_eq_true rfl)) (by rw [← hms]; exact (Nat.le_of_ble_eq_true rfl)) ax_arr_int dX9_init_104 rfl ?_
  refine rf_putF (n := 109) (q := (RX9, TX9, 46)) (c := 9) (j := 14) (ty := .array .int) rfl (by decide) ⟨rfl, rfl⟩ fwX9_47 rfl rfl kic_9_14 rfl ⟨rfl, rfl⟩ rfl (Nat.le_of_ble_eq_true rfl) (Nat.le_of_ble_eq_true rfl) (Nat.le_of_ble_eq_true rfl) dX9_init_106 rfl ?_
  refine rf_aload_n (n := 110) 0 dX9_init_109 rfl rfl rfl ?_
  refine rf_bipush (n := 112) (48 : Int32) dX9_init_110 (by decide) rfl ?_
  refine rf_newAI (n := 114) 58 hk0 rfl (N := 48) rfl (by decide) (by decide) (by decide) (fun _ => rfl) (Nat.le_of_ble_eq_true rfl) (by rw [← hmc]; exact (Nat.le_of_ble_eq_true rfl)) (by rw [← hms]; exact (Nat.le_of_ble_eq_true rfl)) ax_arr_int dX9_init_112 rfl ?_
  refine rf_putF (n := 117) (q := (RX9, TX9, 46)) (c := 9) (j := 15) (ty := .array .int) rfl (by decide) ⟨rfl, rfl⟩ fwX9_50 rfl rfl kic_9_15 rfl ⟨rfl, rfl⟩ rfl (Nat.le_of_ble_eq_true rfl) (Nat.le_of_ble_eq_true rfl) (Nat.le_of_ble_eq_true rfl) dX9_init_114 rfl ?_
  refine rf_aload_n (n := 118) 0 dX9_init_117 rfl rfl rfl ?_
  refine rf_bipush (n := 120) (48 : Int32) dX9_init_118 (by decide) rfl ?_
  refine rf_newAI (n := 122) 58 hk0 rfl (N := 48) rfl (by decide) (by decide) (by decide) (fun _ => rfl) (Nat.le_of_ble_eq_true rfl) (by rw [← hmc]; exact (Nat.le_of_ble_eq_true rfl)) (by rw [← hms]; exact (Nat.le_of_ble_eq_true rfl)) ax_arr_int dX9_init_120 rfl ?_
  refine rf_putF (n := 125) (q := (RX9, TX9, 46)) (c := 9) (j := 16) (ty := .array .int) rfl (by decide) ⟨rfl, rfl⟩ fwX9_53 rfl rfl kic_9_16 rfl ⟨rfl, rfl⟩ rfl (Nat.le_of_ble_eq_true rfl) (Nat.le_of_ble_eq_true rfl) (Nat.le_of_ble_eq_true rfl) dX9_init_122 rfl ?_
  refine rf_aload_n (n := 126) 0 dX9_init_125 rfl rfl rfl ?_
  refine rf_bipush (n := 128) (48 : Int32) dX9_init_126 (by decide) rfl ?_
  refine rf_newAI (n := 130) 58 hk0 rfl (N := 48) rfl (by decide) (by decide) (by decide) (fun _ => rfl) (Nat.le_of_ble_eq_true rfl) (by rw [← hmc]; exact (Nat.le_of_ble_eq_true rfl)) (by rw [← hms]; exact (Nat.le_of_ble_eq_true rfl)) ax_arr_int dX9_init_128 rfl ?_
  refine rf_putF (n := 133) (q := (RX9, TX9, 46)) (c := 9) (j := 17) (ty := .array .int) rfl (by decide) ⟨rfl, rfl⟩ fwX9_56 rfl rfl kic_9_17 rfl ⟨rfl, rfl⟩ rfl (Nat.le_of_ble_eq_true rfl) (Nat.le_of_ble_eq_true rfl) (Nat.le_of_ble_eq_true rfl) dX9_init_130 rfl ?_
  refine rf_aload_n (n := 134) 0 dX9_init_133 rfl rfl rfl ?_
  refine rf_iconst (n := 135) (-1 : Int32) dX9_init_134 (by decide) rfl ?_
  refine rf_putIc (n := 138) (q := (RX9, TX9, 46)) (c := 9) (j := 27) rfl (by decide) rfl fwX9_59 rfl kic_9_27 rfl rfl (Nat.le_of_ble_eq_true rfl) (Nat.le_of_ble_eq_true rfl) dX9_init_135 rfl ?_
  refine rf_aload_n (n := 139) 0 dX9_init_138 rfl rfl rfl ?_
  refine rf_bipush (n := 141) (68 : Int32) dX9_init_139 (by decide) rfl ?_
  refine rf_newAI (n := 143) 58 hk0 rfl (N := 68) rfl (by decide) (by decide) (by decide) (fun _ => rfl) (Nat.le_of_ble_eq_true rfl) (by rw [← hmc]; exact (Nat.le_of_ble_eq_true rfl)) (by rw [← hms]; exact (Nat.le_of_ble_eq_true rfl)) ax_arr_int dX9_init_141 rfl ?_
  refine rf_putF (n := 146) (q := (RX9, TX9, 46)) (c := 9) (j := 28) (ty := .array .int) rfl (by decide) ⟨rfl, rfl⟩ fwX9_63 rfl rfl kic_9_28 rfl ⟨rfl, rfl⟩ rfl (Nat.le_of_ble_eq_true rfl) (Nat.le_of_ble_eq_true rfl) (Nat.le_of_ble_eq_true rfl) dX9_init_143 rfl ?_
  refine rf_aload_n (n := 147) 0 dX9_init_146 rfl rfl rfl ?_
  refine rf_sipush (n := 150) (1428 : Int32) dX9_init_147 (by decide) rfl ?_
  refine rf_newAI (n := 152) 58 hk0 rfl (N := 1428) rfl (by decide) (by decide) (by decide) (fun _ => rfl) (Nat.le_of_ble_eq_true rfl) (by rw [← hmc]; exact (Nat.le_of_ble_eq_true rfl)) (by rw [← hms]; exact (Nat.le_of_ble_eq_true rfl)) ax_arr_int dX9_init_150 rfl ?_
  refine rf_putF (n := 155) (q := (RX9, TX9, 46)) (c := 9) (j := 29) (ty := .array .int) rfl (by decide) ⟨rfl, rfl⟩ fwX9_66 rfl rfl kic_9_29 rfl ⟨rfl, rfl⟩ rfl (Nat.le_of_ble_eq_true rfl) (Nat.le_of_ble_eq_true rfl) (Nat.le_of_ble_eq_true rfl) dX9_init_152 rfl ?_
  refine rf_aload_n (n := 156) 0 dX9_init_155 rfl rfl rfl ?_
  refine rf_bipush (n := 158) (10 : Int32) dX9_init_156 (by decide) rfl ?_
  refine rf_newAL (n := 160) 58 hk0 rfl (N := 10) rfl (by decide) (by decide) (by decide) (fun _ => rfl) (Nat.le_of_ble_eq_true rfl) (by rw [← hmc]; exact (Nat.le_of_ble_eq_true rfl)) (by rw [← hms]; exact (Nat.le_of_ble_eq_true rfl)) ax_arr_long dX9_init_158 rfl ?_
  refine rf_putF (n := 163) (q := (RX9, TX9, 46)) (c := 9) (j := 32) (ty := .array .long) rfl (by decide) ⟨rfl, rfl⟩ fwX9_69 rfl rfl kic_9_32 rfl ⟨rfl, rfl⟩ rfl (Nat.le_of_ble_eq_true rfl) (Nat.le_of_ble_eq_true rfl) (Nat.le_of_ble_eq_true rfl) dX9_init_160 rfl ?_
  refine rf_aload_n (n := 164) 0 dX9_init_163 rfl rfl rfl ?_
  refine rf_bipush (n := 166) (10 : Int32) dX9_init_164 (by decide) rfl ?_
  refine rf_newAL (n := 168) 58 hk0 rfl (N := 10) rfl (by decide) (by decide) (by decide) (fun _ => rfl) (Nat.le_of_ble_eq_true rfl) (by rw [← hmc]; exact (Nat.le_of_ble_eq_true rfl)) (by rw [← hms]; exact (Nat.le_of_ble_eq_true rfl)) ax_arr_long dX9_init_166 rfl ?_
  refine rf_putF (n := 171) (q := (RX9, TX9, 46)) (c := 9) (j := 33) (ty := .array .long) rfl (by decide) ⟨rfl, rfl⟩ fwX9_73 rfl rfl kic_9_33 rfl ⟨rfl, rfl⟩ rfl (Nat.le_of_ble_eq_true rfl) (Nat.le_of_ble_eq_true rfl) (Nat.le_of_ble_eq_true rfl) dX9_init_168 rfl ?_
  refine rf_aload_n (n := 172) 0 dX9_init_171 rfl rfl rfl ?_
  refine rf_bipush (n := 174) (10 : Int32) dX9_init_172 (by decide) rfl ?_
  refine rf_newAL (n := 176) 58 hk0 rfl (N := 10) rfl (by decide) (by decide) (by decide) (fun _ => rfl) (Nat.le_of_ble_eq_true rfl) (by rw [← hmc]; exact (Nat.le_of_ble_eq_true rfl)) (by rw [← hms]; exact (Nat.le_of_ble_eq_true rfl)) ax_arr_long dX9_init_174 rfl ?_
  refine rf_putF (n := 179) (q := (RX9, TX9, 46)) (c := 9) (j := 34) (ty := .array .long) rfl (by decide) ⟨rfl, rfl⟩ fwX9_76 rfl rfl kic_9_34 rfl ⟨rfl, rfl⟩ rfl (Nat.le_of_ble_eq_true rfl) (Nat.le_of_ble_eq_true rfl) (Nat.le_of_ble_eq_true rfl) dX9_init_176 rfl ?_
  refine rf_aload_n (n := 180) 0 dX9_init_179 rfl rfl rfl ?_
  refine rf_bipush (n := 182) (10 : Int32) dX9_init_180 (by decide) rfl ?_
  refine rf_newAI (n := 184) 58 hk0 rfl (N := 10) rfl (by decide) (by decide) (by decide) (fun _ => rfl) (Nat.le_of_ble_eq_true rfl) (by rw [← hmc]; exact (Nat.le_of_ble_eq_true rfl)) (by rw [← hms]; exact (Nat.le_of_ble_eq_true rfl)) ax_arr_int dX9_init_182 rfl ?_
  refine rf_putF (n := 187) (q := (RX9, TX9, 46)) (c := 9) (j := 36) (ty := .array .int) rfl (by decide) ⟨rfl, rfl⟩ fwX9_79 rfl rfl kic_9_36 rfl ⟨rfl, rfl⟩ rfl (Nat.le_of_ble_eq_true rfl) (Nat.le_of_ble_eq_true rfl) (Nat.le_of_ble_eq_true rfl) dX9_init_184 rfl ?_
  refine rf_aload_n (n := 188) 0 dX9_init_187 rfl rfl rfl ?_
  refine rf_bipush (n := 190) (10 : Int32) dX9_init_188 (by decide) rfl ?_
  refine rf_newAI (n := 192) 58 hk0 rfl (N := 10) rfl (by decide) (by decide) (by decide) (fun _ => rfl) (Nat.le_of_ble_eq_true rfl) (by rw [← hmc]; exact (Nat.le_of_ble_eq_true rfl)) (by rw [← hms]; exact (Nat.le_of_ble_eq_true rfl)) ax_arr_int dX9_init_190 rfl ?_
  refine rf_putF (n := 195) (q := (RX9, TX9, 46)) (c := 9) (j := 38) (ty := .array .int) rfl (by decide) ⟨rfl, rfl⟩ fwX9_82 rfl rfl kic_9_38 rfl ⟨rfl, rfl⟩ rfl (Nat.le_of_ble_eq_true rfl) (Nat.le_of_ble_eq_true rfl) (Nat.le_of_ble_eq_true rfl) dX9_init_192 rfl ?_
  refine rf_aload_n (n := 196) 0 dX9_init_195 rfl rfl rfl ?_
  refine rf_bipush (n := 198) (10 : Int32) dX9_init_196 (by decide) rfl ?_
  refine rf_newAI (n := 200) 58 hk0 rfl (N := 10) rfl (by decide) (by decide) (by decide) (fun _ => rfl) (Nat.le_of_ble_eq_true rfl) (by rw [← hmc]; exact (Nat.le_of_ble_eq_true rfl)) (by rw [← hms]; exact (Nat.le_of_ble_eq_true rfl)) ax_arr_int dX9_init_198 rfl ?_
  refine rf_putF (n := 203) (q := (RX9, TX9, 46)) (c := 9) (j := 39) (ty := .array .int) rfl (by decide) ⟨rfl, rfl⟩ fwX9_85 rfl rfl kic_9_39 rfl ⟨rfl, rfl⟩ rfl (Nat.le_of_ble_eq_true rfl) (Nat.le_of_ble_eq_true rfl) (Nat.le_of_ble_eq_true rfl) dX9_init_200 rfl ?_
  refine rf_aload_n (n := 204) 0 dX9_init_203 rfl rfl rfl ?_
  refine rf_bipush (n := 206) (10 : Int32) dX9_init_204 (by decide) rfl ?_
  refine rf_newAI (n := 208) 58 hk0 rfl (N := 10) rfl (by decide) (by decide) (by decide) (fun _ => rfl) (Nat.le_of_ble_eq_true rfl) (by rw [← hmc]; exact (Nat.le_of_ble_eq_true rfl)) (by rw [← hms]; exact (Nat.le_of_ble_eq_true rfl)) ax_arr_int dX9_init_206 rfl ?_
  refine rf_putF (n := 211) (q := (RX9, TX9, 46)) (c := 9) (j := 40) (ty := .array .int) rfl (by decide) ⟨rfl, rfl⟩ fwX9_88 rfl rfl kic_9_40 rfl ⟨rfl, rfl⟩ rfl (Nat.le_of_ble_eq_true rfl) (Nat.le_of_ble_eq_true rfl) (Nat.le_of_ble_eq_true rfl) dX9_init_208 rfl ?_
  refine rf_aload_n (n := 212) 0 dX9_init_211 rfl rfl rfl ?_
  refine rf_bipush (n := 214) (24 : Int32) dX9_init_212 (by decide) rfl ?_
  refine rf_newAI (n := 216) 58 hk0 rfl (N := 24) rfl (by decide) (by decide) (by decide) (fun _ => rfl) (Nat.le_of_ble_eq_true rfl) (by rw [← hmc]; exact (Nat.le_of_ble_eq_true rfl)) (by rw [← hms]; exact (Nat.le_of_ble_eq_true rfl)) ax_arr_int dX9_init_214 rfl ?_
  refine rf_putF (n := 219) (q := (RX9, TX9, 46)) (c := 9) (j := 45) (ty := .array .int) rfl (by decide) ⟨rfl, rfl⟩ fwX9_91 rfl rfl kic_9_45 rfl ⟨rfl, rfl⟩ rfl (Nat.le_of_ble_eq_true rfl) (Nat.le_of_ble_eq_true rfl) (Nat.le_of_ble_eq_true rfl) dX9_init_216 rfl ?_
  refine rf_swap (ρ2 := ax_R) (by decide +kernel) ?_
  refine rf_aload_n (n := 220) 0 dX9_init_219 rfl rfl rfl ?_
  refine rf_cV0V (n := 223) hG (okX9_freshText _) lVX9_94 hhX9_freshText kk_57 sS_57 ⟨_, rfl, rfl⟩ dX9_init_220 rfl (Nat.le_of_ble_eq_true rfl) (Nat.le_of_ble_eq_true rfl) (fun _ m => ?_)
  refine rf_aload_n (n := 224) 0 dX9_init_223 rfl rfl rfl ?_
  refine rf_cV0V (n := 227) hG (okX9_takeText _) lVX9_97 hhX9_takeText kk_57 sS_57 ⟨_, rfl, rfl⟩ dX9_init_224 rfl (Nat.le_of_ble_eq_true rfl) (Nat.le_of_ble_eq_true rfl) (fun _ m => ?_)
  refine rf_aload_n (n := 228) 0 dX9_init_227 rfl rfl rfl ?_
  refine rf_cV0V (n := 231) hG (okX9_begins _) lVX9_100 hhX9_begins kk_57 sS_57 ⟨_, rfl, rfl⟩ dX9_init_228 rfl (Nat.le_of_ble_eq_true rfl) (Nat.le_of_ble_eq_true rfl) (fun _ m => ?_)
  exact rf_retC rfl dX9_init_231
