/-! the law's start -/
section XLZ
variable (l : Launch) (G : xG)
theorem jJ_0 {M : xMe} (h1 : ∀ c, c ≠ 55 → c ≠ 50 → M.1 c = M00.1 c) (h2 : M.1 50 = upd (upd (M00.1 50) 22 (-1)) 23 (-1)) (h3 : M.2 = M00.2) (h4 : ∀ i, i < 1536 → M.1 55 i = -1) : jJ M := by
  have z1 : ∀ c, c ≠ 55 → c ≠ 50 → ∀ j, M.1 c j = 0 := fun c a b j => by rw [h1 c a b]; rfl
  have z2 : ∀ c j, M.2 c j = 0 := fun c j => by rw [h3]; rfl
  have z5 : ∀ j, j ≠ 22 → j ≠ 23 → M.1 50 j = 0 := fun j a b => by rw [h2, upd_n b, upd_n a]; rfl
  have hb : ∀ p, xbit 0 p = false := fun p => by unfold xbit; simp
  refine ⟨sP0, (false, [], 0, none, none), none, false, ⟨sP0_w, ⟨Nat.zero_le _, fun _ => rfl⟩, fun z => (by cases z)⟩, ⟨⟨?_, ?_, ?_, ?_, ?_, ?_⟩, ⟨?_, ?_, ?_, ?_⟩, ?_, ?_, ⟨?_, ?_⟩, ?_⟩, ⟨⟨?_, ?_, ?_, ?_, ?_, ?_⟩, ⟨?_, ?_, ?_, ?_⟩, ⟨?_, ?_⟩, ⟨?_, ?_⟩, ?_⟩⟩
  · exact fun k _ => ⟨z1 2 (by decide) (by decide) k, z1 3 (by decide) (by decide) k, z1 4 (by decide) (by decide) k, z1 5 (by decide) (by decide) k⟩
  · exact fun k _ p _ => z1 6 (by decide) (by decide) _
  · exact fun k _ p _ => ⟨by rw [z2, hb]; rfl, fun t z => (by cases z)⟩
  · exact fun f _ => ⟨z1 9 (by decide) (by decide) f, fun i q z => (by cases z)⟩
  · exact fun f _ => z1 14 (by decide) (by decide) f
  · exact ⟨z1 1 (by decide) (by decide) 14, fun i v z => (by cases z)⟩
  · exact z1 43 (by decide) (by decide) 7
  · exact z1 43 (by decide) (by decide) 12
  · exact fun i v _ z => (by cases z)
  · exact fun z => (by cases z)
  · exact fun a _ => ⟨0, by decide, z1 44 (by decide) (by decide) a⟩
  · intro f _ _ i _ r _ v _
    unfold sHas
    rw [z2, hb]
  · exact z1 0 (by decide) (by decide) 4
  · exact fun P V R z => (by cases z)
  · exact z1 0 (by decide) (by decide) 5
  · exact fun k _ => ⟨z1 51 (by decide) (by decide) k, z1 52 (by decide) (by decide) k, z1 53 (by decide) (by decide) k, z1 56 (by decide) (by decide) k⟩
  · exact fun k _ p _ => z1 54 (by decide) (by decide) _
  · exact fun k hk p hp => h4 _ (by omega)
  · exact fun f _ => ⟨z1 57 (by decide) (by decide) f, fun i q z => (by cases z)⟩
  · exact fun f _ => z1 62 (by decide) (by decide) f
  · exact ⟨z5 14 (by decide) (by decide), fun i v z => (by cases z)⟩
  · exact z5 24 (by decide) (by decide)
  · exact z5 20 (by decide) (by decide)
  · exact fun i v _ z => (by cases z)
  · exact fun z => (by cases z)
  · exact fun f _ => ⟨false, z1 73 (by decide) (by decide) f⟩
  · exact ⟨false, z5 39 (by decide) (by decide)⟩
  · exact z5 27 (by decide) (by decide)
  · exact fun P V R z => (by cases z)
  · exact z5 26 (by decide) (by decide)
set_option maxRecDepth 20000 in
theorem W_start (hL : gL G ≤ 3072) : xC l G y_Lw_law 0 [some (.ref 96), none, none, none] [] M00 (some (0, [])) 0 0 (fun r M' g' => g' = none ∧ r = some (.int 1)) := by
  refine xc_new (ci := 6) (q := xcls[6]) (xtbm (List.mem_of_getElem? (i := 98) rfl) rfl) (xtbm (List.mem_of_getElem? (i := 99) rfl) rfl) (xtbm (List.mem_of_getElem? (i := 84) rfl) rfl) rfl rfl rfl (fun j hj => by
    match j, hj with
    | 0, _ => rfl
    | 1, _ => rfl
    | 2, _ => rfl
    | 3, _ => rfl
    | 4, _ => rfl
    | 5, _ => rfl
    | j + 6, hj => exact absurd hj (by show ¬ _ < 6; omega)) (fun _ => rfl) (fun j => rfl) (Nat.le_of_ble_eq_true rfl) (Nat.le_of_ble_eq_true rfl) (xat_dec o_Lw_law rfl rfl) ?_
  refine xc_dup rfl (xat_dec o_Lw_law rfl rfl) ?_
  refine xc_callI [] z_DS_init rfl rfl i_DS_init l_Lw_9 rfl ⟨by decide, by decide⟩ (by decide) ⟨by decide, by decide⟩ rfl (xat_dec o_Lw_law rfl rfl) (I_DS_init l G) ?_
  rintro v M' g' ⟨rfl, rfl, rfl⟩
  refine ⟨rfl, ?_⟩
  refine xc_astore_n (i := 1) rfl (by decide) (xat_dec o_Lw_law rfl rfl) ?_
  refine xc_new (ci := 7) (q := xcls[7]) (xtbm (List.mem_of_getElem? (i := 942) rfl) rfl) (xtbm (List.mem_of_getElem? (i := 943) rfl) rfl) (xtbm (List.mem_of_getElem? (i := 91) rfl) rfl) rfl rfl rfl (fun j hj => by
    match j, hj with
    | 0, _ => rfl
    | 1, _ => rfl
    | 2, _ => rfl
    | 3, _ => rfl
    | 4, _ => rfl
    | 5, _ => rfl
    | 6, _ => rfl
    | 7, _ => rfl
    | 8, _ => rfl
    | 9, _ => rfl
    | 10, _ => rfl
    | 11, _ => rfl
    | 12, _ => rfl
    | 13, _ => rfl
    | 14, _ => rfl
    | 15, _ => rfl
    | 16, _ => rfl
    | 17, _ => rfl
    | 18, _ => rfl
    | 19, _ => rfl
    | 20, _ => rfl
    | 21, _ => rfl
    | 22, _ => rfl
    | 23, _ => rfl
    | 24, _ => rfl
    | 25, _ => rfl
    | 26, _ => rfl
    | 27, _ => rfl
    | 28, _ => rfl
    | 29, _ => rfl
    | 30, _ => rfl
    | 31, _ => rfl
    | 32, _ => rfl
    | 33, _ => rfl
    | 34, _ => rfl
    | 35, _ => rfl
    | 36, _ => rfl
    | 37, _ => rfl
    | 38, _ => rfl
    | 39, _ => rfl
    | 40, _ => rfl
    | 41, _ => rfl
    | 42, _ => rfl
    | 43, _ => rfl
    | 44, _ => rfl
    | 45, _ => rfl
    | 46, _ => rfl
    | 47, _ => rfl
    | 48, _ => rfl
    | 49, _ => rfl
    | 50, _ => rfl
    | 51, _ => rfl
    | 52, _ => rfl
    | 53, _ => rfl
    | 54, _ => rfl
    | 55, _ => rfl
    | 56, _ => rfl
    | 57, _ => rfl
    | 58, _ => rfl
    | j + 59, hj => exact absurd hj (by show ¬ _ < 59; omega)) (fun _ => rfl) (fun j => rfl) (Nat.le_of_ble_eq_true rfl) (Nat.le_of_ble_eq_true rfl) (xat_dec o_Lw_law rfl rfl) ?_
  refine xc_dup rfl (xat_dec o_Lw_law rfl rfl) ?_
  refine xc_callI [] z_Mo_init rfl rfl i_Mo_init l_Lw_12 rfl ⟨by decide, by decide⟩ (by decide) ⟨by decide, by decide⟩ rfl (xat_dec o_Lw_law rfl rfl) (I_Mo_init l G) ?_
  rintro v M' g' ⟨rfl, rfl, h1, h2, h3, h4⟩
  refine ⟨rfl, ?_⟩
  refine xc_seal SMo_all ?_
  refine xc_astore_n (i := 2) rfl (by decide) (xat_dec o_Lw_law rfl rfl) ?_
  refine xc_iconst (c := 0) (by decide) (xat_dec o_Lw_law rfl rfl) ?_
  refine xc_istore_n (i := 3) rfl (by decide) (xat_dec o_Lw_law rfl rfl) ?_
  have hW := W_loop l G hL (gL G + 1) 0 (by omega) (by omega) M' (jJ_0 h1 h2 h3 h4)
  exact hW
end XLZ
