/-! the constructors -/
def M00 : xMe := (fun _ _ => 0, fun _ _ => 0)
theorem wA_int : Cond.arrayClass (newarray.typeOf .int) ∈ xtb := xtbm (List.mem_of_getElem? (i := 186) rfl) rfl
theorem wA_long : Cond.arrayClass (newarray.typeOf .long) ∈ xtb := xtbm (List.mem_of_getElem? (i := 188) rfl) rfl
theorem wA_bool : Cond.arrayClass (newarray.typeOf .boolean) ∈ xtb := xtbm (List.mem_of_getElem? (i := 187) rfl) rfl
section XIN
variable (l : Launch) (G : xG)
set_option maxRecDepth 20000 in
theorem I_Pr_init (S : List (Nat × Nat)) : xT l G y_Pr_init [.ref 1] M00 (some (2, S)) (fun r M' g' => r = none ∧ M' = M00 ∧ g' = some (16, (1, 13) :: (1, 12) :: (1, 11) :: (1, 10) :: (1, 9) :: (1, 8) :: (1, 7) :: (1, 6) :: (1, 5) :: (1, 4) :: (1, 3) :: (1, 2) :: (1, 1) :: (1, 0) :: S)) := by
  refine xT_of (by decide +kernel) (Nat.le_of_ble_eq_true rfl) ?_
  refine xc_aload_n (i := 0) rfl rfl (xat_dec o_Pr_init rfl rfl) ?_
  refine xc_obj (xtbm (List.mem_of_getElem? (i := 111) rfl) rfl) (xtbm (List.mem_of_getElem? (i := 104) rfl) rfl) (xtbm (List.mem_of_getElem? (i := 105) rfl) rfl) (by decide) (by decide) (xat_dec o_Pr_init rfl rfl) ?_
  refine xc_aload_n (i := 0) rfl rfl (xat_dec o_Pr_init rfl rfl) ?_
  refine xc_bipush (c := 24) (by decide) (xat_dec o_Pr_init rfl rfl) ?_
  refine xc_newa (kd := 0) (N := 24) (Or.inl ⟨rfl, rfl⟩) wA_int (by decide) rfl rfl (by decide) (by decide) (by decide) (fun _ => rfl) (fun _ => rfl) (Nat.le_of_ble_eq_true rfl) (Nat.le_of_ble_eq_true rfl) (xat_dec o_Pr_init rfl rfl) ?_
  refine xc_putF (i := 9) (ci := 4) (j := 0) (xfld o_Pr_init.1 rfl) rfl (by decide) rfl (by decide) rfl (fun c hc => by cases hc; exact ⟨rfl, rfl⟩) rfl (fun a => ⟨rfl, rfl⟩) (xat_dec o_Pr_init rfl rfl) ?_
  refine xc_aload_n (i := 0) rfl rfl (xat_dec o_Pr_init rfl rfl) ?_
  refine xc_bipush (c := 24) (by decide) (xat_dec o_Pr_init rfl rfl) ?_
  refine xc_newa (kd := 0) (N := 24) (Or.inl ⟨rfl, rfl⟩) wA_int (by decide) rfl rfl (by decide) (by decide) (by decide) (fun _ => rfl) (fun _ => rfl) (Nat.le_of_ble_eq_true rfl) (Nat.le_of_ble_eq_true rfl) (xat_dec o_Pr_init rfl rfl) ?_
  refine xc_putF (i := 15) (ci := 4) (j := 1) (xfld o_Pr_init.1 rfl) rfl (by decide) rfl (by decide) rfl (fun c hc => by cases hc; exact ⟨rfl, rfl⟩) rfl (fun a => ⟨rfl, rfl⟩) (xat_dec o_Pr_init rfl rfl) ?_
  refine xc_aload_n (i := 0) rfl rfl (xat_dec o_Pr_init rfl rfl) ?_
  refine xc_bipush (c := 24) (by decide) (xat_dec o_Pr_init rfl rfl) ?_
  refine xc_newa (kd := 0) (N := 24) (Or.inl ⟨rfl, rfl⟩) wA_int (by decide) rfl rfl (by decide) (by decide) (by decide) (fun _ => rfl) (fun _ => rfl) (Nat.le_of_ble_eq_true rfl) (Nat.le_of_ble_eq_true rfl) (xat_dec o_Pr_init rfl rfl) ?_
  refine xc_putF (i := 18) (ci := 4) (j := 2) (xfld o_Pr_init.1 rfl) rfl (by decide) rfl (by decide) rfl (fun c hc => by cases hc; exact ⟨rfl, rfl⟩) rfl (fun a => ⟨rfl, rfl⟩) (xat_dec o_Pr_init rfl rfl) ?_
  refine xc_aload_n (i := 0) rfl rfl (xat_dec o_Pr_init rfl rfl) ?_
  refine xc_bipush (c := 24) (by decide) (xat_dec o_Pr_init rfl rfl) ?_
  refine xc_newa (kd := 2) (N := 24) (Or.inr (Or.inr ⟨rfl, rfl⟩)) wA_bool (by decide) rfl rfl (by decide) (by decide) (by decide) (fun _ => rfl) (fun _ => rfl) (Nat.le_of_ble_eq_true rfl) (Nat.le_of_ble_eq_true rfl) (xat_dec o_Pr_init rfl rfl) ?_
  refine xc_putF (i := 21) (ci := 4) (j := 3) (xfld o_Pr_init.1 rfl) rfl (by decide) rfl (by decide) rfl (fun c hc => by cases hc; exact ⟨rfl, rfl⟩) rfl (fun a => ⟨rfl, rfl⟩) (xat_dec o_Pr_init rfl rfl) ?_
  refine xc_aload_n (i := 0) rfl rfl (xat_dec o_Pr_init rfl rfl) ?_
  refine xc_sipush (c := 1536) (by decide) (xat_dec o_Pr_init rfl rfl) ?_
  refine xc_newa (kd := 0) (N := 1536) (Or.inl ⟨rfl, rfl⟩) wA_int (by decide) rfl rfl (by decide) (by decide) (by decide) (fun _ => rfl) (fun _ => rfl) (Nat.le_of_ble_eq_true rfl) (Nat.le_of_ble_eq_true rfl) (xat_dec o_Pr_init rfl rfl) ?_
  refine xc_putF (i := 25) (ci := 4) (j := 4) (xfld o_Pr_init.1 rfl) rfl (by decide) rfl (by decide) rfl (fun c hc => by cases hc; exact ⟨rfl, rfl⟩) rfl (fun a => ⟨rfl, rfl⟩) (xat_dec o_Pr_init rfl rfl) ?_
  refine xc_aload_n (i := 0) rfl rfl (xat_dec o_Pr_init rfl rfl) ?_
  refine xc_sipush (c := 1536) (by decide) (xat_dec o_Pr_init rfl rfl) ?_
  refine xc_newa (kd := 0) (N := 1536) (Or.inl ⟨rfl, rfl⟩) wA_int (by decide) rfl rfl (by decide) (by decide) (by decide) (fun _ => rfl) (fun _ => rfl) (Nat.le_of_ble_eq_true rfl) (Nat.le_of_ble_eq_true rfl) (xat_dec o_Pr_init rfl rfl) ?_
  refine xc_putF (i := 28) (ci := 4) (j := 5) (xfld o_Pr_init.1 rfl) rfl (by decide) rfl (by decide) rfl (fun c hc => by cases hc; exact ⟨rfl, rfl⟩) rfl (fun a => ⟨rfl, rfl⟩) (xat_dec o_Pr_init rfl rfl) ?_
  refine xc_aload_n (i := 0) rfl rfl (xat_dec o_Pr_init rfl rfl) ?_
  refine xc_bipush (c := 24) (by decide) (xat_dec o_Pr_init rfl rfl) ?_
  refine xc_newa (kd := 1) (N := 24) (Or.inr (Or.inl ⟨rfl, rfl⟩)) wA_long (by decide) rfl rfl (by decide) (by decide) (by decide) (fun _ => rfl) (fun _ => rfl) (Nat.le_of_ble_eq_true rfl) (Nat.le_of_ble_eq_true rfl) (xat_dec o_Pr_init rfl rfl) ?_
  refine xc_putF (i := 31) (ci := 4) (j := 6) (xfld o_Pr_init.1 rfl) rfl (by decide) rfl (by decide) rfl (fun c hc => by cases hc; exact ⟨rfl, rfl⟩) rfl (fun a => ⟨rfl, rfl⟩) (xat_dec o_Pr_init rfl rfl) ?_
  refine xc_aload_n (i := 0) rfl rfl (xat_dec o_Pr_init rfl rfl) ?_
  refine xc_bipush (c := 12) (by decide) (xat_dec o_Pr_init rfl rfl) ?_
  refine xc_newa (kd := 0) (N := 12) (Or.inl ⟨rfl, rfl⟩) wA_int (by decide) rfl rfl (by decide) (by decide) (by decide) (fun _ => rfl) (fun _ => rfl) (Nat.le_of_ble_eq_true rfl) (Nat.le_of_ble_eq_true rfl) (xat_dec o_Pr_init rfl rfl) ?_
  refine xc_putF (i := 35) (ci := 4) (j := 7) (xfld o_Pr_init.1 rfl) rfl (by decide) rfl (by decide) rfl (fun c hc => by cases hc; exact ⟨rfl, rfl⟩) rfl (fun a => ⟨rfl, rfl⟩) (xat_dec o_Pr_init rfl rfl) ?_
  refine xc_aload_n (i := 0) rfl rfl (xat_dec o_Pr_init rfl rfl) ?_
  refine xc_sipush (c := 480) (by decide) (xat_dec o_Pr_init rfl rfl) ?_
  refine xc_newa (kd := 0) (N := 480) (Or.inl ⟨rfl, rfl⟩) wA_int (by decide) rfl rfl (by decide) (by decide) (by decide) (fun _ => rfl) (fun _ => rfl) (Nat.le_of_ble_eq_true rfl) (Nat.le_of_ble_eq_true rfl) (xat_dec o_Pr_init rfl rfl) ?_
  refine xc_putF (i := 38) (ci := 4) (j := 8) (xfld o_Pr_init.1 rfl) rfl (by decide) rfl (by decide) rfl (fun c hc => by cases hc; exact ⟨rfl, rfl⟩) rfl (fun a => ⟨rfl, rfl⟩) (xat_dec o_Pr_init rfl rfl) ?_
  refine xc_aload_n (i := 0) rfl rfl (xat_dec o_Pr_init rfl rfl) ?_
  refine xc_sipush (c := 480) (by decide) (xat_dec o_Pr_init rfl rfl) ?_
  refine xc_newa (kd := 0) (N := 480) (Or.inl ⟨rfl, rfl⟩) wA_int (by decide) rfl rfl (by decide) (by decide) (by decide) (fun _ => rfl) (fun _ => rfl) (Nat.le_of_ble_eq_true rfl) (Nat.le_of_ble_eq_true rfl) (xat_dec o_Pr_init rfl rfl) ?_
  refine xc_putF (i := 41) (ci := 4) (j := 9) (xfld o_Pr_init.1 rfl) rfl (by decide) rfl (by decide) rfl (fun c hc => by cases hc; exact ⟨rfl, rfl⟩) rfl (fun a => ⟨rfl, rfl⟩) (xat_dec o_Pr_init rfl rfl) ?_
  refine xc_aload_n (i := 0) rfl rfl (xat_dec o_Pr_init rfl rfl) ?_
  refine xc_sipush (c := 480) (by decide) (xat_dec o_Pr_init rfl rfl) ?_
  refine xc_newa (kd := 0) (N := 480) (Or.inl ⟨rfl, rfl⟩) wA_int (by decide) rfl rfl (by decide) (by decide) (by decide) (fun _ => rfl) (fun _ => rfl) (Nat.le_of_ble_eq_true rfl) (Nat.le_of_ble_eq_true rfl) (xat_dec o_Pr_init rfl rfl) ?_
  refine xc_putF (i := 44) (ci := 4) (j := 10) (xfld o_Pr_init.1 rfl) rfl (by decide) rfl (by decide) rfl (fun c hc => by cases hc; exact ⟨rfl, rfl⟩) rfl (fun a => ⟨rfl, rfl⟩) (xat_dec o_Pr_init rfl rfl) ?_
  refine xc_aload_n (i := 0) rfl rfl (xat_dec o_Pr_init rfl rfl) ?_
  refine xc_sipush (c := 480) (by decide) (xat_dec o_Pr_init rfl rfl) ?_
  refine xc_newa (kd := 0) (N := 480) (Or.inl ⟨rfl, rfl⟩) wA_int (by decide) rfl rfl (by decide) (by decide) (by decide) (fun _ => rfl) (fun _ => rfl) (Nat.le_of_ble_eq_true rfl) (Nat.le_of_ble_eq_true rfl) (xat_dec o_Pr_init rfl rfl) ?_
  refine xc_putF (i := 47) (ci := 4) (j := 11) (xfld o_Pr_init.1 rfl) rfl (by decide) rfl (by decide) rfl (fun c hc => by cases hc; exact ⟨rfl, rfl⟩) rfl (fun a => ⟨rfl, rfl⟩) (xat_dec o_Pr_init rfl rfl) ?_
  refine xc_aload_n (i := 0) rfl rfl (xat_dec o_Pr_init rfl rfl) ?_
  refine xc_bipush (c := 12) (by decide) (xat_dec o_Pr_init rfl rfl) ?_
  refine xc_newa (kd := 2) (N := 12) (Or.inr (Or.inr ⟨rfl, rfl⟩)) wA_bool (by decide) rfl rfl (by decide) (by decide) (by decide) (fun _ => rfl) (fun _ => rfl) (Nat.le_of_ble_eq_true rfl) (Nat.le_of_ble_eq_true rfl) (xat_dec o_Pr_init rfl rfl) ?_
  refine xc_putF (i := 50) (ci := 4) (j := 12) (xfld o_Pr_init.1 rfl) rfl (by decide) rfl (by decide) rfl (fun c hc => by cases hc; exact ⟨rfl, rfl⟩) rfl (fun a => ⟨rfl, rfl⟩) (xat_dec o_Pr_init rfl rfl) ?_
  refine xc_aload_n (i := 0) rfl rfl (xat_dec o_Pr_init rfl rfl) ?_
  refine xc_sipush (c := 200) (by decide) (xat_dec o_Pr_init rfl rfl) ?_
  refine xc_newa (kd := 0) (N := 200) (Or.inl ⟨rfl, rfl⟩) wA_int (by decide) rfl rfl (by decide) (by decide) (by decide) (fun _ => rfl) (fun _ => rfl) (Nat.le_of_ble_eq_true rfl) (Nat.le_of_ble_eq_true rfl) (xat_dec o_Pr_init rfl rfl) ?_
  refine xc_putF (i := 53) (ci := 4) (j := 13) (xfld o_Pr_init.1 rfl) rfl (by decide) rfl (by decide) rfl (fun c hc => by cases hc; exact ⟨rfl, rfl⟩) rfl (fun a => ⟨rfl, rfl⟩) (xat_dec o_Pr_init rfl rfl) ?_
  exact xc_vret rfl (by decide) (by decide) (xat_dec o_Pr_init rfl rfl) ⟨rfl, rfl, rfl⟩
set_option maxRecDepth 20000 in
theorem I_Ch_init (S : List (Nat × Nat)) : xT l G y_Ch_init [.ref 17] M00 (some (18, S)) (fun r M' g' => r = none ∧ M' = M00 ∧ g' = some (20, (17, 1) :: (17, 0) :: S)) := by
  refine xT_of (by decide +kernel) (Nat.le_of_ble_eq_true rfl) ?_
  refine xc_aload_n (i := 0) rfl rfl (xat_dec o_Ch_init rfl rfl) ?_
  refine xc_obj (xtbm (List.mem_of_getElem? (i := 200) rfl) rfl) (xtbm (List.mem_of_getElem? (i := 104) rfl) rfl) (xtbm (List.mem_of_getElem? (i := 105) rfl) rfl) (by decide) (by decide) (xat_dec o_Ch_init rfl rfl) ?_
  refine xc_aload_n (i := 0) rfl rfl (xat_dec o_Ch_init rfl rfl) ?_
  refine xc_bipush (c := 36) (by decide) (xat_dec o_Ch_init rfl rfl) ?_
  refine xc_newa (kd := 1) (N := 36) (Or.inr (Or.inl ⟨rfl, rfl⟩)) wA_long (by decide) rfl rfl (by decide) (by decide) (by decide) (fun _ => rfl) (fun _ => rfl) (Nat.le_of_ble_eq_true rfl) (Nat.le_of_ble_eq_true rfl) (xat_dec o_Ch_init rfl rfl) ?_
  refine xc_putF (i := 9) (ci := 1) (j := 0) (xfld o_Ch_init.1 rfl) rfl (by decide) rfl (by decide) rfl (fun c hc => by cases hc; exact ⟨rfl, rfl⟩) rfl (fun a => ⟨rfl, rfl⟩) (xat_dec o_Ch_init rfl rfl) ?_
  refine xc_aload_n (i := 0) rfl rfl (xat_dec o_Ch_init rfl rfl) ?_
  refine xc_bipush (c := 36) (by decide) (xat_dec o_Ch_init rfl rfl) ?_
  refine xc_newa (kd := 0) (N := 36) (Or.inl ⟨rfl, rfl⟩) wA_int (by decide) rfl rfl (by decide) (by decide) (by decide) (fun _ => rfl) (fun _ => rfl) (Nat.le_of_ble_eq_true rfl) (Nat.le_of_ble_eq_true rfl) (xat_dec o_Ch_init rfl rfl) ?_
  refine xc_putF (i := 15) (ci := 1) (j := 1) (xfld o_Ch_init.1 rfl) rfl (by decide) rfl (by decide) rfl (fun c hc => by cases hc; exact ⟨rfl, rfl⟩) rfl (fun a => ⟨rfl, rfl⟩) (xat_dec o_Ch_init rfl rfl) ?_
  exact xc_vret rfl (by decide) (by decide) (xat_dec o_Ch_init rfl rfl) ⟨rfl, rfl, rfl⟩
set_option maxRecDepth 20000 in
theorem I_Re_init (S : List (Nat × Nat)) (hS : ∀ j, xin S 17 j = false) : xT l G y_Re_init [.ref 16, .ref 1] M00 (some (17, S)) (fun r M' g' => r = none ∧ M' = M00 ∧ g' = some (30, (16, 0) :: (16, 11) :: (16, 10) :: (16, 9) :: (16, 8) :: (16, 7) :: (16, 6) :: (16, 5) :: (16, 4) :: (16, 3) :: (16, 2) :: (16, 1) :: (17, 1) :: (17, 0) :: S)) := by
  refine xT_of (by decide +kernel) (Nat.le_of_ble_eq_true rfl) ?_
  refine xc_aload_n (i := 0) rfl rfl (xat_dec o_Re_init rfl rfl) ?_
  refine xc_obj (xtbm (List.mem_of_getElem? (i := 194) rfl) rfl) (xtbm (List.mem_of_getElem? (i := 104) rfl) rfl) (xtbm (List.mem_of_getElem? (i := 105) rfl) rfl) (by decide) (by decide) (xat_dec o_Re_init rfl rfl) ?_
  refine xc_aload_n (i := 0) rfl rfl (xat_dec o_Re_init rfl rfl) ?_
  refine xc_new (ci := 1) (q := xcls[1]) (xtbm (List.mem_of_getElem? (i := 195) rfl) rfl) (xtbm (List.mem_of_getElem? (i := 196) rfl) rfl) (xtbm (List.mem_of_getElem? (i := 87) rfl) rfl) rfl rfl rfl (fun j hj => by
    match j, hj with
    | 0, _ => rfl
    | 1, _ => rfl
    | j + 2, hj => exact absurd hj (by show ¬ _ < 2; omega)) (fun _ => rfl) hS (Nat.le_of_ble_eq_true rfl) (Nat.le_of_ble_eq_true rfl) (xat_dec o_Re_init rfl rfl) ?_
  refine xc_dup rfl (xat_dec o_Re_init rfl rfl) ?_
  refine xc_callI [] z_Ch_init rfl rfl i_Ch_init l_Re_13 rfl ⟨by decide, by decide⟩ (by decide) ⟨by decide, by decide⟩ rfl (xat_dec o_Re_init rfl rfl) (I_Ch_init l G _) ?_
  rintro v M' g' ⟨rfl, rfl, rfl⟩
  refine ⟨rfl, ?_⟩
  refine xc_putF (i := 14) (ci := 5) (j := 1) (xfld o_Re_init.1 rfl) rfl (by decide) rfl (by decide) rfl (fun c hc => by cases hc; exact ⟨rfl, rfl⟩) rfl (fun a => ⟨rfl, rfl⟩) (xat_dec o_Re_init rfl rfl) ?_
  refine xc_aload_n (i := 0) rfl rfl (xat_dec o_Re_init rfl rfl) ?_
  refine xc_bipush (c := 12) (by decide) (xat_dec o_Re_init rfl rfl) ?_
  refine xc_newa (kd := 0) (N := 12) (Or.inl ⟨rfl, rfl⟩) wA_int (by decide) rfl rfl (by decide) (by decide) (by decide) (fun _ => rfl) (fun _ => rfl) (Nat.le_of_ble_eq_true rfl) (Nat.le_of_ble_eq_true rfl) (xat_dec o_Re_init rfl rfl) ?_
  refine xc_putF (i := 20) (ci := 5) (j := 2) (xfld o_Re_init.1 rfl) rfl (by decide) rfl (by decide) rfl (fun c hc => by cases hc; exact ⟨rfl, rfl⟩) rfl (fun a => ⟨rfl, rfl⟩) (xat_dec o_Re_init rfl rfl) ?_
  refine xc_aload_n (i := 0) rfl rfl (xat_dec o_Re_init rfl rfl) ?_
  refine xc_sipush (c := 7872) (by decide) (xat_dec o_Re_init rfl rfl) ?_
  refine xc_newa (kd := 1) (N := 7872) (Or.inr (Or.inl ⟨rfl, rfl⟩)) wA_long (by decide) rfl rfl (by decide) (by decide) (by decide) (fun _ => rfl) (fun _ => rfl) (Nat.le_of_ble_eq_true rfl) (Nat.le_of_ble_eq_true rfl) (xat_dec o_Re_init rfl rfl) ?_
  refine xc_putF (i := 24) (ci := 5) (j := 3) (xfld o_Re_init.1 rfl) rfl (by decide) rfl (by decide) rfl (fun c hc => by cases hc; exact ⟨rfl, rfl⟩) rfl (fun a => ⟨rfl, rfl⟩) (xat_dec o_Re_init rfl rfl) ?_
  refine xc_aload_n (i := 0) rfl rfl (xat_dec o_Re_init rfl rfl) ?_
  refine xc_sipush (c := 6144) (by decide) (xat_dec o_Re_init rfl rfl) ?_
  refine xc_newa (kd := 1) (N := 6144) (Or.inr (Or.inl ⟨rfl, rfl⟩)) wA_long (by decide) rfl rfl (by decide) (by decide) (by decide) (fun _ => rfl) (fun _ => rfl) (Nat.le_of_ble_eq_true rfl) (Nat.le_of_ble_eq_true rfl) (xat_dec o_Re_init rfl rfl) ?_
  refine xc_putF (i := 28) (ci := 5) (j := 4) (xfld o_Re_init.1 rfl) rfl (by decide) rfl (by decide) rfl (fun c hc => by cases hc; exact ⟨rfl, rfl⟩) rfl (fun a => ⟨rfl, rfl⟩) (xat_dec o_Re_init rfl rfl) ?_
  refine xc_aload_n (i := 0) rfl rfl (xat_dec o_Re_init rfl rfl) ?_
  refine xc_bipush (c := 12) (by decide) (xat_dec o_Re_init rfl rfl) ?_
  refine xc_newa (kd := 1) (N := 12) (Or.inr (Or.inl ⟨rfl, rfl⟩)) wA_long (by decide) rfl rfl (by decide) (by decide) (by decide) (fun _ => rfl) (fun _ => rfl) (Nat.le_of_ble_eq_true rfl) (Nat.le_of_ble_eq_true rfl) (xat_dec o_Re_init rfl rfl) ?_
  refine xc_putF (i := 31) (ci := 5) (j := 5) (xfld o_Re_init.1 rfl) rfl (by decide) rfl (by decide) rfl (fun c hc => by cases hc; exact ⟨rfl, rfl⟩) rfl (fun a => ⟨rfl, rfl⟩) (xat_dec o_Re_init rfl rfl) ?_
  refine xc_aload_n (i := 0) rfl rfl (xat_dec o_Re_init rfl rfl) ?_
  refine xc_bipush (c := 12) (by decide) (xat_dec o_Re_init rfl rfl) ?_
  refine xc_newa (kd := 1) (N := 12) (Or.inr (Or.inl ⟨rfl, rfl⟩)) wA_long (by decide) rfl rfl (by decide) (by decide) (by decide) (fun _ => rfl) (fun _ => rfl) (Nat.le_of_ble_eq_true rfl) (Nat.le_of_ble_eq_true rfl) (xat_dec o_Re_init rfl rfl) ?_
  refine xc_putF (i := 34) (ci := 5) (j := 6) (xfld o_Re_init.1 rfl) rfl (by decide) rfl (by decide) rfl (fun c hc => by cases hc; exact ⟨rfl, rfl⟩) rfl (fun a => ⟨rfl, rfl⟩) (xat_dec o_Re_init rfl rfl) ?_
  refine xc_aload_n (i := 0) rfl rfl (xat_dec o_Re_init rfl rfl) ?_
  refine xc_sipush (c := 444) (by decide) (xat_dec o_Re_init rfl rfl) ?_
  refine xc_newa (kd := 1) (N := 444) (Or.inr (Or.inl ⟨rfl, rfl⟩)) wA_long (by decide) rfl rfl (by decide) (by decide) (by decide) (fun _ => rfl) (fun _ => rfl) (Nat.le_of_ble_eq_true rfl) (Nat.le_of_ble_eq_true rfl) (xat_dec o_Re_init rfl rfl) ?_
  refine xc_putF (i := 37) (ci := 5) (j := 7) (xfld o_Re_init.1 rfl) rfl (by decide) rfl (by decide) rfl (fun c hc => by cases hc; exact ⟨rfl, rfl⟩) rfl (fun a => ⟨rfl, rfl⟩) (xat_dec o_Re_init rfl rfl) ?_
  refine xc_aload_n (i := 0) rfl rfl (xat_dec o_Re_init rfl rfl) ?_
  refine xc_iconst (c := 4) (by decide) (xat_dec o_Re_init rfl rfl) ?_
  refine xc_newa (kd := 1) (N := 4) (Or.inr (Or.inl ⟨rfl, rfl⟩)) wA_long (by decide) rfl rfl (by decide) (by decide) (by decide) (fun _ => rfl) (fun _ => rfl) (Nat.le_of_ble_eq_true rfl) (Nat.le_of_ble_eq_true rfl) (xat_dec o_Re_init rfl rfl) ?_
  refine xc_putF (i := 40) (ci := 5) (j := 8) (xfld o_Re_init.1 rfl) rfl (by decide) rfl (by decide) rfl (fun c hc => by cases hc; exact ⟨rfl, rfl⟩) rfl (fun a => ⟨rfl, rfl⟩) (xat_dec o_Re_init rfl rfl) ?_
  refine xc_aload_n (i := 0) rfl rfl (xat_dec o_Re_init rfl rfl) ?_
  refine xc_bipush (c := 24) (by decide) (xat_dec o_Re_init rfl rfl) ?_
  refine xc_newa (kd := 1) (N := 24) (Or.inr (Or.inl ⟨rfl, rfl⟩)) wA_long (by decide) rfl rfl (by decide) (by decide) (by decide) (fun _ => rfl) (fun _ => rfl) (Nat.le_of_ble_eq_true rfl) (Nat.le_of_ble_eq_true rfl) (xat_dec o_Re_init rfl rfl) ?_
  refine xc_putF (i := 43) (ci := 5) (j := 9) (xfld o_Re_init.1 rfl) rfl (by decide) rfl (by decide) rfl (fun c hc => by cases hc; exact ⟨rfl, rfl⟩) rfl (fun a => ⟨rfl, rfl⟩) (xat_dec o_Re_init rfl rfl) ?_
  refine xc_aload_n (i := 0) rfl rfl (xat_dec o_Re_init rfl rfl) ?_
  refine xc_bipush (c := 24) (by decide) (xat_dec o_Re_init rfl rfl) ?_
  refine xc_newa (kd := 2) (N := 24) (Or.inr (Or.inr ⟨rfl, rfl⟩)) wA_bool (by decide) rfl rfl (by decide) (by decide) (by decide) (fun _ => rfl) (fun _ => rfl) (Nat.le_of_ble_eq_true rfl) (Nat.le_of_ble_eq_true rfl) (xat_dec o_Re_init rfl rfl) ?_
  refine xc_putF (i := 46) (ci := 5) (j := 10) (xfld o_Re_init.1 rfl) rfl (by decide) rfl (by decide) rfl (fun c hc => by cases hc; exact ⟨rfl, rfl⟩) rfl (fun a => ⟨rfl, rfl⟩) (xat_dec o_Re_init rfl rfl) ?_
  refine xc_aload_n (i := 0) rfl rfl (xat_dec o_Re_init rfl rfl) ?_
  refine xc_bipush (c := 24) (by decide) (xat_dec o_Re_init rfl rfl) ?_
  refine xc_newa (kd := 2) (N := 24) (Or.inr (Or.inr ⟨rfl, rfl⟩)) wA_bool (by decide) rfl rfl (by decide) (by decide) (by decide) (fun _ => rfl) (fun _ => rfl) (Nat.le_of_ble_eq_true rfl) (Nat.le_of_ble_eq_true rfl) (xat_dec o_Re_init rfl rfl) ?_
  refine xc_putF (i := 50) (ci := 5) (j := 11) (xfld o_Re_init.1 rfl) rfl (by decide) rfl (by decide) rfl (fun c hc => by cases hc; exact ⟨rfl, rfl⟩) rfl (fun a => ⟨rfl, rfl⟩) (xat_dec o_Re_init rfl rfl) ?_
  refine xc_aload_n (i := 0) rfl rfl (xat_dec o_Re_init rfl rfl) ?_
  refine xc_aload_n (i := 1) rfl rfl (xat_dec o_Re_init rfl rfl) ?_
  refine xc_putF (i := 53) (ci := 5) (j := 0) (xfld o_Re_init.1 rfl) rfl (by decide) rfl (by decide) rfl (fun c hc => by cases hc; exact ⟨rfl, rfl⟩) rfl (fun a => ⟨rfl, rfl⟩) (xat_dec o_Re_init rfl rfl) ?_
  exact xc_vret rfl (by decide) (by decide) (xat_dec o_Re_init rfl rfl) ⟨rfl, rfl, rfl⟩
set_option maxRecDepth 20000 in
theorem I_BO_init (S : List (Nat × Nat)) : xT l G y_BO_init [.ref 31] M00 (some (32, S)) (fun r M' g' => r = none ∧ M' = M00 ∧ g' = some (34, (31, 1) :: (31, 0) :: S)) := by
  refine xT_of (by decide +kernel) (Nat.le_of_ble_eq_true rfl) ?_
  refine xc_aload_n (i := 0) rfl rfl (xat_dec o_BO_init rfl rfl) ?_
  refine xc_obj (xtbm (List.mem_of_getElem? (i := 266) rfl) rfl) (xtbm (List.mem_of_getElem? (i := 104) rfl) rfl) (xtbm (List.mem_of_getElem? (i := 105) rfl) rfl) (by decide) (by decide) (xat_dec o_BO_init rfl rfl) ?_
  refine xc_aload_n (i := 0) rfl rfl (xat_dec o_BO_init rfl rfl) ?_
  refine xc_bipush (c := 7) (by decide) (xat_dec o_BO_init rfl rfl) ?_
  refine xc_newa (kd := 0) (N := 7) (Or.inl ⟨rfl, rfl⟩) wA_int (by decide) rfl rfl (by decide) (by decide) (by decide) (fun _ => rfl) (fun _ => rfl) (Nat.le_of_ble_eq_true rfl) (Nat.le_of_ble_eq_true rfl) (xat_dec o_BO_init rfl rfl) ?_
  refine xc_putF (i := 11) (ci := 0) (j := 0) (xfld o_BO_init.1 rfl) rfl (by decide) rfl (by decide) rfl (fun c hc => by cases hc; exact ⟨rfl, rfl⟩) rfl (fun a => ⟨rfl, rfl⟩) (xat_dec o_BO_init rfl rfl) ?_
  refine xc_aload_n (i := 0) rfl rfl (xat_dec o_BO_init rfl rfl) ?_
  refine xc_sipush (c := 1024) (by decide) (xat_dec o_BO_init rfl rfl) ?_
  refine xc_newa (kd := 0) (N := 1024) (Or.inl ⟨rfl, rfl⟩) wA_int (by decide) rfl rfl (by decide) (by decide) (by decide) (fun _ => rfl) (fun _ => rfl) (Nat.le_of_ble_eq_true rfl) (Nat.le_of_ble_eq_true rfl) (xat_dec o_BO_init rfl rfl) ?_
  refine xc_putF (i := 15) (ci := 0) (j := 1) (xfld o_BO_init.1 rfl) rfl (by decide) rfl (by decide) rfl (fun c hc => by cases hc; exact ⟨rfl, rfl⟩) rfl (fun a => ⟨rfl, rfl⟩) (xat_dec o_BO_init rfl rfl) ?_
  exact xc_vret rfl (by decide) (by decide) (xat_dec o_BO_init rfl rfl) ⟨rfl, rfl, rfl⟩
set_option maxRecDepth 20000 in
theorem I_La_init (S : List (Nat × Nat)) (hS : ∀ j, xin S 31 j = false) : xT l G y_La_init [.ref 30, .ref 1, .ref 16] M00 (some (31, S)) (fun r M' g' => r = none ∧ M' = M00 ∧ g' = some (43, (30, 1) :: (30, 0) :: (30, 12) :: (30, 10) :: (30, 9) :: (30, 8) :: (30, 7) :: (30, 6) :: (30, 5) :: (30, 4) :: (30, 3) :: (30, 2) :: (31, 1) :: (31, 0) :: S)) := by
  refine xT_of (by decide +kernel) (Nat.le_of_ble_eq_true rfl) ?_
  refine xc_aload_n (i := 0) rfl rfl (xat_dec o_La_init rfl rfl) ?_
  refine xc_obj (xtbm (List.mem_of_getElem? (i := 260) rfl) rfl) (xtbm (List.mem_of_getElem? (i := 104) rfl) rfl) (xtbm (List.mem_of_getElem? (i := 105) rfl) rfl) (by decide) (by decide) (xat_dec o_La_init rfl rfl) ?_
  refine xc_aload_n (i := 0) rfl rfl (xat_dec o_La_init rfl rfl) ?_
  refine xc_new (ci := 0) (q := xcls[0]) (xtbm (List.mem_of_getElem? (i := 261) rfl) rfl) (xtbm (List.mem_of_getElem? (i := 262) rfl) rfl) (xtbm (List.mem_of_getElem? (i := 89) rfl) rfl) rfl rfl rfl (fun j hj => by
    match j, hj with
    | 0, _ => rfl
    | 1, _ => rfl
    | j + 2, hj => exact absurd hj (by show ¬ _ < 2; omega)) (fun _ => rfl) hS (Nat.le_of_ble_eq_true rfl) (Nat.le_of_ble_eq_true rfl) (xat_dec o_La_init rfl rfl) ?_
  refine xc_dup rfl (xat_dec o_La_init rfl rfl) ?_
  refine xc_callI [] z_BO_init rfl rfl i_BO_init l_La_11 rfl ⟨by decide, by decide⟩ (by decide) ⟨by decide, by decide⟩ rfl (xat_dec o_La_init rfl rfl) (I_BO_init l G _) ?_
  rintro v M' g' ⟨rfl, rfl, rfl⟩
  refine ⟨rfl, ?_⟩
  refine xc_putF (i := 12) (ci := 2) (j := 2) (xfld o_La_init.1 rfl) rfl (by decide) rfl (by decide) rfl (fun c hc => by cases hc; exact ⟨rfl, rfl⟩) rfl (fun a => ⟨rfl, rfl⟩) (xat_dec o_La_init rfl rfl) ?_
  refine xc_aload_n (i := 0) rfl rfl (xat_dec o_La_init rfl rfl) ?_
  refine xc_bipush (c := 24) (by decide) (xat_dec o_La_init rfl rfl) ?_
  refine xc_newa (kd := 0) (N := 24) (Or.inl ⟨rfl, rfl⟩) wA_int (by decide) rfl rfl (by decide) (by decide) (by decide) (fun _ => rfl) (fun _ => rfl) (Nat.le_of_ble_eq_true rfl) (Nat.le_of_ble_eq_true rfl) (xat_dec o_La_init rfl rfl) ?_
  refine xc_putF (i := 18) (ci := 2) (j := 3) (xfld o_La_init.1 rfl) rfl (by decide) rfl (by decide) rfl (fun c hc => by cases hc; exact ⟨rfl, rfl⟩) rfl (fun a => ⟨rfl, rfl⟩) (xat_dec o_La_init rfl rfl) ?_
  refine xc_aload_n (i := 0) rfl rfl (xat_dec o_La_init rfl rfl) ?_
  refine xc_bipush (c := 24) (by decide) (xat_dec o_La_init rfl rfl) ?_
  refine xc_newa (kd := 0) (N := 24) (Or.inl ⟨rfl, rfl⟩) wA_int (by decide) rfl rfl (by decide) (by decide) (by decide) (fun _ => rfl) (fun _ => rfl) (Nat.le_of_ble_eq_true rfl) (Nat.le_of_ble_eq_true rfl) (xat_dec o_La_init rfl rfl) ?_
  refine xc_putF (i := 22) (ci := 2) (j := 4) (xfld o_La_init.1 rfl) rfl (by decide) rfl (by decide) rfl (fun c hc => by cases hc; exact ⟨rfl, rfl⟩) rfl (fun a => ⟨rfl, rfl⟩) (xat_dec o_La_init rfl rfl) ?_
  refine xc_aload_n (i := 0) rfl rfl (xat_dec o_La_init rfl rfl) ?_
  refine xc_bipush (c := 24) (by decide) (xat_dec o_La_init rfl rfl) ?_
  refine xc_newa (kd := 2) (N := 24) (Or.inr (Or.inr ⟨rfl, rfl⟩)) wA_bool (by decide) rfl rfl (by decide) (by decide) (by decide) (fun _ => rfl) (fun _ => rfl) (Nat.le_of_ble_eq_true rfl) (Nat.le_of_ble_eq_true rfl) (xat_dec o_La_init rfl rfl) ?_
  refine xc_putF (i := 25) (ci := 2) (j := 5) (xfld o_La_init.1 rfl) rfl (by decide) rfl (by decide) rfl (fun c hc => by cases hc; exact ⟨rfl, rfl⟩) rfl (fun a => ⟨rfl, rfl⟩) (xat_dec o_La_init rfl rfl) ?_
  refine xc_aload_n (i := 0) rfl rfl (xat_dec o_La_init rfl rfl) ?_
  refine xc_bipush (c := 24) (by decide) (xat_dec o_La_init rfl rfl) ?_
  refine xc_newa (kd := 2) (N := 24) (Or.inr (Or.inr ⟨rfl, rfl⟩)) wA_bool (by decide) rfl rfl (by decide) (by decide) (by decide) (fun _ => rfl) (fun _ => rfl) (Nat.le_of_ble_eq_true rfl) (Nat.le_of_ble_eq_true rfl) (xat_dec o_La_init rfl rfl) ?_
  refine xc_putF (i := 29) (ci := 2) (j := 6) (xfld o_La_init.1 rfl) rfl (by decide) rfl (by decide) rfl (fun c hc => by cases hc; exact ⟨rfl, rfl⟩) rfl (fun a => ⟨rfl, rfl⟩) (xat_dec o_La_init rfl rfl) ?_
  refine xc_aload_n (i := 0) rfl rfl (xat_dec o_La_init rfl rfl) ?_
  refine xc_bipush (c := 24) (by decide) (xat_dec o_La_init rfl rfl) ?_
  refine xc_newa (kd := 0) (N := 24) (Or.inl ⟨rfl, rfl⟩) wA_int (by decide) rfl rfl (by decide) (by decide) (by decide) (fun _ => rfl) (fun _ => rfl) (Nat.le_of_ble_eq_true rfl) (Nat.le_of_ble_eq_true rfl) (xat_dec o_La_init rfl rfl) ?_
  refine xc_putF (i := 32) (ci := 2) (j := 7) (xfld o_La_init.1 rfl) rfl (by decide) rfl (by decide) rfl (fun c hc => by cases hc; exact ⟨rfl, rfl⟩) rfl (fun a => ⟨rfl, rfl⟩) (xat_dec o_La_init rfl rfl) ?_
  refine xc_aload_n (i := 0) rfl rfl (xat_dec o_La_init rfl rfl) ?_
  refine xc_bipush (c := 24) (by decide) (xat_dec o_La_init rfl rfl) ?_
  refine xc_newa (kd := 0) (N := 24) (Or.inl ⟨rfl, rfl⟩) wA_int (by decide) rfl rfl (by decide) (by decide) (by decide) (fun _ => rfl) (fun _ => rfl) (Nat.le_of_ble_eq_true rfl) (Nat.le_of_ble_eq_true rfl) (xat_dec o_La_init rfl rfl) ?_
  refine xc_putF (i := 35) (ci := 2) (j := 8) (xfld o_La_init.1 rfl) rfl (by decide) rfl (by decide) rfl (fun c hc => by cases hc; exact ⟨rfl, rfl⟩) rfl (fun a => ⟨rfl, rfl⟩) (xat_dec o_La_init rfl rfl) ?_
  refine xc_aload_n (i := 0) rfl rfl (xat_dec o_La_init rfl rfl) ?_
  refine xc_bipush (c := 24) (by decide) (xat_dec o_La_init rfl rfl) ?_
  refine xc_newa (kd := 0) (N := 24) (Or.inl ⟨rfl, rfl⟩) wA_int (by decide) rfl rfl (by decide) (by decide) (by decide) (fun _ => rfl) (fun _ => rfl) (Nat.le_of_ble_eq_true rfl) (Nat.le_of_ble_eq_true rfl) (xat_dec o_La_init rfl rfl) ?_
  refine xc_putF (i := 38) (ci := 2) (j := 9) (xfld o_La_init.1 rfl) rfl (by decide) rfl (by decide) rfl (fun c hc => by cases hc; exact ⟨rfl, rfl⟩) rfl (fun a => ⟨rfl, rfl⟩) (xat_dec o_La_init rfl rfl) ?_
  refine xc_aload_n (i := 0) rfl rfl (xat_dec o_La_init rfl rfl) ?_
  refine xc_bipush (c := 24) (by decide) (xat_dec o_La_init rfl rfl) ?_
  refine xc_newa (kd := 0) (N := 24) (Or.inl ⟨rfl, rfl⟩) wA_int (by decide) rfl rfl (by decide) (by decide) (by decide) (fun _ => rfl) (fun _ => rfl) (Nat.le_of_ble_eq_true rfl) (Nat.le_of_ble_eq_true rfl) (xat_dec o_La_init rfl rfl) ?_
  refine xc_putF (i := 41) (ci := 2) (j := 10) (xfld o_La_init.1 rfl) rfl (by decide) rfl (by decide) rfl (fun c hc => by cases hc; exact ⟨rfl, rfl⟩) rfl (fun a => ⟨rfl, rfl⟩) (xat_dec o_La_init rfl rfl) ?_
  refine xc_aload_n (i := 0) rfl rfl (xat_dec o_La_init rfl rfl) ?_
  refine xc_sipush (c := 1728) (by decide) (xat_dec o_La_init rfl rfl) ?_
  refine xc_newa (kd := 0) (N := 1728) (Or.inl ⟨rfl, rfl⟩) wA_int (by decide) rfl rfl (by decide) (by decide) (by decide) (fun _ => rfl) (fun _ => rfl) (Nat.le_of_ble_eq_true rfl) (Nat.le_of_ble_eq_true rfl) (xat_dec o_La_init rfl rfl) ?_
  refine xc_putF (i := 44) (ci := 2) (j := 12) (xfld o_La_init.1 rfl) rfl (by decide) rfl (by decide) rfl (fun c hc => by cases hc; exact ⟨rfl, rfl⟩) rfl (fun a => ⟨rfl, rfl⟩) (xat_dec o_La_init rfl rfl) ?_
  refine xc_aload_n (i := 0) rfl rfl (xat_dec o_La_init rfl rfl) ?_
  refine xc_aload_n (i := 1) rfl rfl (xat_dec o_La_init rfl rfl) ?_
  refine xc_putF (i := 47) (ci := 2) (j := 0) (xfld o_La_init.1 rfl) rfl (by decide) rfl (by decide) rfl (fun c hc => by cases hc; exact ⟨rfl, rfl⟩) rfl (fun a => ⟨rfl, rfl⟩) (xat_dec o_La_init rfl rfl) ?_
  refine xc_aload_n (i := 0) rfl rfl (xat_dec o_La_init rfl rfl) ?_
  refine xc_aload_n (i := 2) rfl rfl (xat_dec o_La_init rfl rfl) ?_
  refine xc_putF (i := 51) (ci := 2) (j := 1) (xfld o_La_init.1 rfl) rfl (by decide) rfl (by decide) rfl (fun c hc => by cases hc; exact ⟨rfl, rfl⟩) rfl (fun a => ⟨rfl, rfl⟩) (xat_dec o_La_init rfl rfl) ?_
  exact xc_vret rfl (by decide) (by decide) (xat_dec o_La_init rfl rfl) ⟨rfl, rfl, rfl⟩
set_option maxRecDepth 20000 in
theorem I_Ma_init (S : List (Nat × Nat)) : xT l G y_Ma_init [.ref 43, .ref 1] M00 (some (44, S)) (fun r M' g' => r = none ∧ M' = M00 ∧ g' = some (50, (43, 0) :: (43, 6) :: (43, 5) :: (43, 4) :: (43, 3) :: (43, 2) :: (43, 1) :: S)) := by
  refine xT_of (by decide +kernel) (Nat.le_of_ble_eq_true rfl) ?_
  refine xc_aload_n (i := 0) rfl rfl (xat_dec o_Ma_init rfl rfl) ?_
  refine xc_obj (xtbm (List.mem_of_getElem? (i := 332) rfl) rfl) (xtbm (List.mem_of_getElem? (i := 104) rfl) rfl) (xtbm (List.mem_of_getElem? (i := 105) rfl) rfl) (by decide) (by decide) (xat_dec o_Ma_init rfl rfl) ?_
  refine xc_aload_n (i := 0) rfl rfl (xat_dec o_Ma_init rfl rfl) ?_
  refine xc_sipush (c := 1728) (by decide) (xat_dec o_Ma_init rfl rfl) ?_
  refine xc_newa (kd := 0) (N := 1728) (Or.inl ⟨rfl, rfl⟩) wA_int (by decide) rfl rfl (by decide) (by decide) (by decide) (fun _ => rfl) (fun _ => rfl) (Nat.le_of_ble_eq_true rfl) (Nat.le_of_ble_eq_true rfl) (xat_dec o_Ma_init rfl rfl) ?_
  refine xc_putF (i := 9) (ci := 3) (j := 1) (xfld o_Ma_init.1 rfl) rfl (by decide) rfl (by decide) rfl (fun c hc => by cases hc; exact ⟨rfl, rfl⟩) rfl (fun a => ⟨rfl, rfl⟩) (xat_dec o_Ma_init rfl rfl) ?_
  refine xc_aload_n (i := 0) rfl rfl (xat_dec o_Ma_init rfl rfl) ?_
  refine xc_bipush (c := 24) (by decide) (xat_dec o_Ma_init rfl rfl) ?_
  refine xc_newa (kd := 0) (N := 24) (Or.inl ⟨rfl, rfl⟩) wA_int (by decide) rfl rfl (by decide) (by decide) (by decide) (fun _ => rfl) (fun _ => rfl) (Nat.le_of_ble_eq_true rfl) (Nat.le_of_ble_eq_true rfl) (xat_dec o_Ma_init rfl rfl) ?_
  refine xc_putF (i := 15) (ci := 3) (j := 2) (xfld o_Ma_init.1 rfl) rfl (by decide) rfl (by decide) rfl (fun c hc => by cases hc; exact ⟨rfl, rfl⟩) rfl (fun a => ⟨rfl, rfl⟩) (xat_dec o_Ma_init rfl rfl) ?_
  refine xc_aload_n (i := 0) rfl rfl (xat_dec o_Ma_init rfl rfl) ?_
  refine xc_iconst (c := 4) (by decide) (xat_dec o_Ma_init rfl rfl) ?_
  refine xc_newa (kd := 0) (N := 4) (Or.inl ⟨rfl, rfl⟩) wA_int (by decide) rfl rfl (by decide) (by decide) (by decide) (fun _ => rfl) (fun _ => rfl) (Nat.le_of_ble_eq_true rfl) (Nat.le_of_ble_eq_true rfl) (xat_dec o_Ma_init rfl rfl) ?_
  refine xc_putF (i := 18) (ci := 3) (j := 3) (xfld o_Ma_init.1 rfl) rfl (by decide) rfl (by decide) rfl (fun c hc => by cases hc; exact ⟨rfl, rfl⟩) rfl (fun a => ⟨rfl, rfl⟩) (xat_dec o_Ma_init rfl rfl) ?_
  refine xc_aload_n (i := 0) rfl rfl (xat_dec o_Ma_init rfl rfl) ?_
  refine xc_bipush (c := 16) (by decide) (xat_dec o_Ma_init rfl rfl) ?_
  refine xc_newa (kd := 0) (N := 16) (Or.inl ⟨rfl, rfl⟩) wA_int (by decide) rfl rfl (by decide) (by decide) (by decide) (fun _ => rfl) (fun _ => rfl) (Nat.le_of_ble_eq_true rfl) (Nat.le_of_ble_eq_true rfl) (xat_dec o_Ma_init rfl rfl) ?_
  refine xc_putF (i := 21) (ci := 3) (j := 4) (xfld o_Ma_init.1 rfl) rfl (by decide) rfl (by decide) rfl (fun c hc => by cases hc; exact ⟨rfl, rfl⟩) rfl (fun a => ⟨rfl, rfl⟩) (xat_dec o_Ma_init rfl rfl) ?_
  refine xc_aload_n (i := 0) rfl rfl (xat_dec o_Ma_init rfl rfl) ?_
  refine xc_bipush (c := 16) (by decide) (xat_dec o_Ma_init rfl rfl) ?_
  refine xc_newa (kd := 0) (N := 16) (Or.inl ⟨rfl, rfl⟩) wA_int (by decide) rfl rfl (by decide) (by decide) (by decide) (fun _ => rfl) (fun _ => rfl) (Nat.le_of_ble_eq_true rfl) (Nat.le_of_ble_eq_true rfl) (xat_dec o_Ma_init rfl rfl) ?_
  refine xc_putF (i := 24) (ci := 3) (j := 5) (xfld o_Ma_init.1 rfl) rfl (by decide) rfl (by decide) rfl (fun c hc => by cases hc; exact ⟨rfl, rfl⟩) rfl (fun a => ⟨rfl, rfl⟩) (xat_dec o_Ma_init rfl rfl) ?_
  refine xc_aload_n (i := 0) rfl rfl (xat_dec o_Ma_init rfl rfl) ?_
  refine xc_bipush (c := 100) (by decide) (xat_dec o_Ma_init rfl rfl) ?_
  refine xc_newa (kd := 0) (N := 100) (Or.inl ⟨rfl, rfl⟩) wA_int (by decide) rfl rfl (by decide) (by decide) (by decide) (fun _ => rfl) (fun _ => rfl) (Nat.le_of_ble_eq_true rfl) (Nat.le_of_ble_eq_true rfl) (xat_dec o_Ma_init rfl rfl) ?_
  refine xc_putF (i := 27) (ci := 3) (j := 6) (xfld o_Ma_init.1 rfl) rfl (by decide) rfl (by decide) rfl (fun c hc => by cases hc; exact ⟨rfl, rfl⟩) rfl (fun a => ⟨rfl, rfl⟩) (xat_dec o_Ma_init rfl rfl) ?_
  refine xc_aload_n (i := 0) rfl rfl (xat_dec o_Ma_init rfl rfl) ?_
  refine xc_aload_n (i := 1) rfl rfl (xat_dec o_Ma_init rfl rfl) ?_
  refine xc_putF (i := 30) (ci := 3) (j := 0) (xfld o_Ma_init.1 rfl) rfl (by decide) rfl (by decide) rfl (fun c hc => by cases hc; exact ⟨rfl, rfl⟩) rfl (fun a => ⟨rfl, rfl⟩) (xat_dec o_Ma_init rfl rfl) ?_
  exact xc_vret rfl (by decide) (by decide) (xat_dec o_Ma_init rfl rfl) ⟨rfl, rfl, rfl⟩
def SDS : List (Nat × Nat) := [(0, 3), (43, 0), (43, 6), (43, 5), (43, 4), (43, 3), (43, 2), (43, 1), (0, 2), (30, 1), (30, 0), (30, 12), (30, 10), (30, 9), (30, 8), (30, 7), (30, 6), (30, 5), (30, 4), (30, 3), (30, 2), (31, 1), (31, 0), (0, 1), (16, 0), (16, 11), (16, 10), (16, 9), (16, 8), (16, 7), (16, 6), (16, 5), (16, 4), (16, 3), (16, 2), (16, 1), (17, 1), (17, 0), (0, 0), (1, 13), (1, 12), (1, 11), (1, 10), (1, 9), (1, 8), (1, 7), (1, 6), (1, 5), (1, 4), (1, 3), (1, 2), (1, 1), (1, 0)]
set_option maxRecDepth 20000 in
theorem I_DS_init : xT l G y_DS_init [.ref 0] M00 (some (1, [])) (fun r M' g' => r = none ∧ M' = M00 ∧ g' = some (50, SDS)) := by
  refine xT_of (by decide +kernel) (Nat.le_of_ble_eq_true rfl) ?_
  refine xc_aload_n (i := 0) rfl rfl (xat_dec o_DS_init rfl rfl) ?_
  refine xc_obj (xtbm (List.mem_of_getElem? (i := 103) rfl) rfl) (xtbm (List.mem_of_getElem? (i := 104) rfl) rfl) (xtbm (List.mem_of_getElem? (i := 105) rfl) rfl) (by decide) (by decide) (xat_dec o_DS_init rfl rfl) ?_
  refine xc_aload_n (i := 0) rfl rfl (xat_dec o_DS_init rfl rfl) ?_
  refine xc_new (ci := 4) (q := xcls[4]) (xtbm (List.mem_of_getElem? (i := 106) rfl) rfl) (xtbm (List.mem_of_getElem? (i := 107) rfl) rfl) (xtbm (List.mem_of_getElem? (i := 85) rfl) rfl) rfl rfl rfl (fun j hj => by
    match j, hj with
    | 0, _ => rfl
    | 1, _ => rfl
    | 2, _ => rfl
    | 3, _ => rfl
    | 4, _ => rfl
    | 5, _ => rfl
    | 6, _ => rfl
    | 7, _ => rfl
    | 8, _ => rfl
    | 9, _ => rfl
    | 10, _ => rfl
    | 11, _ => rfl
    | 12, _ => rfl
    | 13, _ => rfl
    | 14, _ => rfl
    | j + 15, hj => exact absurd hj (by show ¬ _ < 15; omega)) (fun _ => rfl) (fun j => rfl) (Nat.le_of_ble_eq_true rfl) (Nat.le_of_ble_eq_true rfl) (xat_dec o_DS_init rfl rfl) ?_
  refine xc_dup rfl (xat_dec o_DS_init rfl rfl) ?_
  refine xc_callI [] z_Pr_init rfl rfl i_Pr_init l_DS_11 rfl ⟨by decide, by decide⟩ (by decide) ⟨by decide, by decide⟩ rfl (xat_dec o_DS_init rfl rfl) (I_Pr_init l G _) ?_
  rintro v M' g' ⟨rfl, rfl, rfl⟩
  refine ⟨rfl, ?_⟩
  refine xc_putF (i := 12) (ci := 6) (j := 0) (xfld o_DS_init.1 rfl) rfl (by decide) rfl (by decide) rfl (fun c hc => by cases hc; exact ⟨rfl, rfl⟩) rfl (fun a => ⟨rfl, rfl⟩) (xat_dec o_DS_init rfl rfl) ?_
  refine xc_aload_n (i := 0) rfl rfl (xat_dec o_DS_init rfl rfl) ?_
  refine xc_new (ci := 5) (q := xcls[5]) (xtbm (List.mem_of_getElem? (i := 189) rfl) rfl) (xtbm (List.mem_of_getElem? (i := 190) rfl) rfl) (xtbm (List.mem_of_getElem? (i := 86) rfl) rfl) rfl rfl rfl (fun j hj => by
    match j, hj with
    | 0, _ => rfl
    | 1, _ => rfl
    | 2, _ => rfl
    | 3, _ => rfl
    | 4, _ => rfl
    | 5, _ => rfl
    | 6, _ => rfl
    | 7, _ => rfl
    | 8, _ => rfl
    | 9, _ => rfl
    | 10, _ => rfl
    | 11, _ => rfl
    | j + 12, hj => exact absurd hj (by show ¬ _ < 12; omega)) (fun _ => rfl) (fun j => rfl) (Nat.le_of_ble_eq_true rfl) (Nat.le_of_ble_eq_true rfl) (xat_dec o_DS_init rfl rfl) ?_
  refine xc_dup rfl (xat_dec o_DS_init rfl rfl) ?_
  refine xc_aload_n (i := 0) rfl rfl (xat_dec o_DS_init rfl rfl) ?_
  refine xc_get (i := 12) (ci := 6) (j := 0) (xfld o_DS_init.1 rfl) rfl (by decide) rfl rfl (xat_dec o_DS_init rfl rfl) ?_
  refine xc_callI [.ref 1] z_Re_init rfl rfl i_Re_init l_DS_18 rfl ⟨by decide, by decide⟩ (by decide) ⟨by decide, by decide⟩ rfl (xat_dec o_DS_init rfl rfl) (I_Re_init l G _ (fun j => rfl)) ?_
  rintro v M' g' ⟨rfl, rfl, rfl⟩
  refine ⟨rfl, ?_⟩
  refine xc_putF (i := 21) (ci := 6) (j := 1) (xfld o_DS_init.1 rfl) rfl (by decide) rfl (by decide) rfl (fun c hc => by cases hc; exact ⟨rfl, rfl⟩) rfl (fun a => ⟨rfl, rfl⟩) (xat_dec o_DS_init rfl rfl) ?_
  refine xc_aload_n (i := 0) rfl rfl (xat_dec o_DS_init rfl rfl) ?_
  refine xc_new (ci := 2) (q := xcls[2]) (xtbm (List.mem_of_getElem? (i := 255) rfl) rfl) (xtbm (List.mem_of_getElem? (i := 256) rfl) rfl) (xtbm (List.mem_of_getElem? (i := 88) rfl) rfl) rfl rfl rfl (fun j hj => by
    match j, hj with
    | 0, _ => rfl
    | 1, _ => rfl
    | 2, _ => rfl
    | 3, _ => rfl
    | 4, _ => rfl
    | 5, _ => rfl
    | 6, _ => rfl
    | 7, _ => rfl
    | 8, _ => rfl
    | 9, _ => rfl
    | 10, _ => rfl
    | 11, _ => rfl
    | 12, _ => rfl
    | 13, _ => rfl
    | j + 14, hj => exact absurd hj (by show ¬ _ < 14; omega)) (fun _ => rfl) (fun j => rfl) (Nat.le_of_ble_eq_true rfl) (Nat.le_of_ble_eq_true rfl) (xat_dec o_DS_init rfl rfl) ?_
  refine xc_dup rfl (xat_dec o_DS_init rfl rfl) ?_
  refine xc_aload_n (i := 0) rfl rfl (xat_dec o_DS_init rfl rfl) ?_
  refine xc_get (i := 12) (ci := 6) (j := 0) (xfld o_DS_init.1 rfl) rfl (by decide) rfl rfl (xat_dec o_DS_init rfl rfl) ?_
  refine xc_aload_n (i := 0) rfl rfl (xat_dec o_DS_init rfl rfl) ?_
  refine xc_get (i := 21) (ci := 6) (j := 1) (xfld o_DS_init.1 rfl) rfl (by decide) rfl rfl (xat_dec o_DS_init rfl rfl) ?_
  refine xc_callI [.ref 1, .ref 16] z_La_init rfl rfl i_La_init l_DS_27 rfl ⟨by decide, by decide⟩ (by decide) ⟨by decide, by decide⟩ rfl (xat_dec o_DS_init rfl rfl) (I_La_init l G _ (fun j => rfl)) ?_
  rintro v M' g' ⟨rfl, rfl, rfl⟩
  refine ⟨rfl, ?_⟩
  refine xc_putF (i := 30) (ci := 6) (j := 2) (xfld o_DS_init.1 rfl) rfl (by decide) rfl (by decide) rfl (fun c hc => by cases hc; exact ⟨rfl, rfl⟩) rfl (fun a => ⟨rfl, rfl⟩) (xat_dec o_DS_init rfl rfl) ?_
  refine xc_aload_n (i := 0) rfl rfl (xat_dec o_DS_init rfl rfl) ?_
  refine xc_new (ci := 3) (q := xcls[3]) (xtbm (List.mem_of_getElem? (i := 327) rfl) rfl) (xtbm (List.mem_of_getElem? (i := 328) rfl) rfl) (xtbm (List.mem_of_getElem? (i := 90) rfl) rfl) rfl rfl rfl (fun j hj => by
    match j, hj with
    | 0, _ => rfl
    | 1, _ => rfl
    | 2, _ => rfl
    | 3, _ => rfl
    | 4, _ => rfl
    | 5, _ => rfl
    | 6, _ => rfl
    | 7, _ => rfl
    | 8, _ => rfl
    | 9, _ => rfl
    | 10, _ => rfl
    | 11, _ => rfl
    | 12, _ => rfl
    | 13, _ => rfl
    | j + 14, hj => exact absurd hj (by show ¬ _ < 14; omega)) (fun _ => rfl) (fun j => rfl) (Nat.le_of_ble_eq_true rfl) (Nat.le_of_ble_eq_true rfl) (xat_dec o_DS_init rfl rfl) ?_
  refine xc_dup rfl (xat_dec o_DS_init rfl rfl) ?_
  refine xc_aload_n (i := 0) rfl rfl (xat_dec o_DS_init rfl rfl) ?_
  refine xc_get (i := 12) (ci := 6) (j := 0) (xfld o_DS_init.1 rfl) rfl (by decide) rfl rfl (xat_dec o_DS_init rfl rfl) ?_
  refine xc_callI [.ref 1] z_Ma_init rfl rfl i_Ma_init l_DS_36 rfl ⟨by decide, by decide⟩ (by decide) ⟨by decide, by decide⟩ rfl (xat_dec o_DS_init rfl rfl) (I_Ma_init l G _) ?_
  rintro v M' g' ⟨rfl, rfl, rfl⟩
  refine ⟨rfl, ?_⟩
  refine xc_putF (i := 37) (ci := 6) (j := 3) (xfld o_DS_init.1 rfl) rfl (by decide) rfl (by decide) rfl (fun c hc => by cases hc; exact ⟨rfl, rfl⟩) rfl (fun a => ⟨rfl, rfl⟩) (xat_dec o_DS_init rfl rfl) ?_
  exact xc_vret rfl (by decide) (by decide) (xat_dec o_DS_init rfl rfl) ⟨rfl, rfl, rfl⟩
end XIN
