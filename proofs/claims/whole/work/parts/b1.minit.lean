/-! the reference's constructor -/
section XIO
variable (l : Launch) (G : xG)
def SMo : List (Nat × Nat) := (50, 55) :: (50, 54) :: (50, 53) :: (50, 52) :: (50, 51) :: (50, 50) :: (50, 49) :: (50, 48) :: (50, 47) :: (50, 46) :: (50, 45) :: (50, 44) :: (50, 43) :: (50, 42) :: (50, 41) :: (50, 40) :: (50, 38) :: (50, 37) :: (50, 36) :: (50, 35) :: (50, 34) :: (50, 33) :: (50, 32) :: (50, 31) :: (50, 30) :: (50, 29) :: (50, 28) :: (50, 19) :: (50, 18) :: (50, 17) :: (50, 16) :: (50, 15) :: (50, 13) :: (50, 12) :: (50, 11) :: (50, 10) :: (50, 9) :: (50, 8) :: (50, 7) :: (50, 6) :: (50, 5) :: (50, 4) :: (50, 3) :: (50, 2) :: (50, 1) :: SDS
theorem SMo_all : ∀ k, k < 96 → ∀ j, j < 60 → (xnth (xrf k) j none).isSome = true → xin SMo k j = true := by decide +kernel
theorem xwl_all {G : xG} {M : xMe} {S : List (Nat × Nat)} (hS0 : ∀ k, k < 96 → ∀ j, j < 60 → (xnth (xrf k) j none).isSome = true → xin S k j = true) : xwl G M (some (96, S)) = xwl G M none := by
  show (List.range 96).map _ = (List.range 96).map _
  apply List.map_congr_left
  intro k hk
  have hk96 := List.mem_range.mp hk
  have e2 : ∀ n, xkd k = n + 3 → (List.range (xtl k)).map (xfv G M (some (96, S)) k) = (List.range (xtl k)).map (xfv G M none k) := by
    intro n hn
    apply List.map_congr_left
    intro j hj
    have hj1 := List.mem_range.mp hj
    have hj60 : j < 60 := by
      have : ∀ k, k < 96 → xkd k ≥ 3 → xtl k < 60 := by decide +kernel
      have := this k hk96 (by omega)
      omega
    unfold xfv
    cases ht : xnth (xrf k) j none with
    | none => rfl
    | some t =>
      have h4 : xis (some (96, S)) k j = true := hS0 k hk96 j hj60 (by rw [ht]; rfl)
      have h5 : xis none k j = true := rfl
      rw [h4, h5]
  have e3 : xent G M (some (96, S)) k = xent G M none k := by
    match hkd : xkd k with
    | 0 => rw [xent_i hkd, xent_i hkd]
    | 1 => rw [xent_l hkd, xent_l hkd]
    | 2 => rw [xent_z hkd, xent_z hkd]
    | n + 3 => rw [xent_o hkd, xent_o hkd, e2 n hkd]
  show (gB G + k, _) = (gB G + k, _)
  rw [e3]
theorem xc_unseal {l : Launch} {G : xG} {Y : xMD} {pc : Nat} {lv : xLv} {st : List Value} {M : xMe} {g : xGh} {cn sn : Nat} {S : List (Nat × Nat)} {Q : Option Value → xMe → Prop} (hS0 : ∀ k, k < 96 → ∀ j, j < 60 → (xnth (xrf k) j none).isSome = true → xin S k j = true) (h : xC l G Y pc lv st M g cn sn (fun r M' g' => g' = none ∧ Q r M')) : xC l G Y pc lv st M g cn sn (fun r M' g' => g' = some (96, S) ∧ Q r M') := by
  intro p e s m args below meth c hx hz H locs ls hR hS hl T hT X
  obtain ⟨t, a1, o, b1, b2, b3, b4⟩ := h p e s m args below meth c hx hz H locs ls hR hS hl T hT X
  refine ⟨t, a1, o, b1, b2, ?_, b4⟩
  obtain ⟨⟨r, M', g', e1, ⟨rfl, hq⟩, hR'⟩, hF⟩ := b3
  refine ⟨⟨r, M', some (96, S), e1, ⟨rfl, hq⟩, ?_⟩, hF⟩
  obtain ⟨h1, h2, h3⟩ := hR'
  refine ⟨h1, ?_, h3⟩
  rw [xwl_all hS0]
  exact h2
theorem xCg_go {l : Launch} {G : xG} {Y : xMD} {k : xK} {all : List xRw} (ok : xOK Y k all) (stops : List Nat) (n : Nat) {pc : Nat} {lv : xLv} {st : List Value} {M : xMe} {cn sn : Nat} {Q : Option Value → xMe → xGh → Prop} (h : ∀ K : Nat → xLv → List Value → xMe → Prop, (∀ pc lv st M, xC l G Y pc lv st M none cn sn Q → K pc lv st M) → xwp G (yL Y) all stops n (xjmp all pc) lv st M K) : xC l G Y pc lv st M none cn sn Q := by
  have h1 := h (fun pc lv st M => xC l G Y pc lv st M none cn sn Q) (fun _ _ _ _ z => z)
  cases hj : xjmp all pc with
  | nil =>
    rw [hj] at h1
    cases n <;> exact h1.elim
  | cons r rs =>
    rw [hj] at h1
    obtain ⟨r', t', e, hC⟩ := xwp_ok ok n _ _ _ _ _ (xchk_jmp _ _ _ _ ok.2 hj) (fun _ _ _ _ z => z) h1
    cases e
    rw [xjmp_hd _ _ _ _ hj] at hC
    exact hC
set_option maxRecDepth 20000 in
theorem L_Minit (M0 : xMe) (Q : Option Value → xMe → xGh → Prop) (hQ : ∀ M', (∀ c, c ≠ 55 → M'.1 c = M0.1 c) → M'.2 = M0.2 → (∀ i, i < 1536 → M'.1 55 i = -1) → Q none M' none) : xC l G y_Mo_init 387 [some (.ref 50), none] [] M0 none 45 29840 Q := by
  have loop : xC l G y_Mo_init 389 [some (.ref 50), some (.int (nI 0))] [] M0 none 45 29840 Q := by
    refine loopN (σ := xMe) 1536 (fun k M1 => (∀ c, c ≠ 55 → M1.1 c = M0.1 c) ∧ M1.2 = M0.2 ∧ ∀ i, i < k → M1.1 55 i = -1) (fun k M1 => xC l G y_Mo_init 389 [some (.ref 50), some (.int (nI k))] [] M1 none 45 29840 Q) ?_ ?_ 1536 0 rfl M0 ⟨fun _ _ => rfl, rfl, fun i hi => absurd hi (Nat.not_lt_zero _)⟩
    · intro k hk M1 hI next
      obtain ⟨a1, a2, a3⟩ := hI
      refine xCg_go o_Mo_init [389, 409] 60 (fun K hK => ?_)
      repeat' ((conv => whnf); first | refine ⟨fun h => ?_, fun h => ?_⟩ | refine ⟨?_, ?_⟩ | refine hK _ _ _ _ ?_)
      · exact absurd (nI_lt (b := 1536) hk (by decide)) h
      · exact vp_in_nI hk (by decide)
      · rw [nI_1, nI_clamp (by omega)]
        refine next _ ⟨fun c hc => ?_, a2, fun i hi => ?_⟩
        · show (if c = 55 then _ else M1.1 c) = _
          rw [if_neg hc]; exact a1 c hc
        · rw [xsI_s]
          by_cases q : i = k
          · rw [q, upd_s]
          · rw [upd_n q]; exact a3 i (by omega)
    · intro M1 hI
      obtain ⟨a1, a2, a3⟩ := hI
      refine xCg_go o_Mo_init [389, 409] 60 (fun K hK => ?_)
      repeat' ((conv => whnf); first | refine ⟨fun h => ?_, fun h => ?_⟩ | refine ⟨?_, ?_⟩ | refine hK _ _ _ _ ?_)
      · exact xc_vret rfl (by decide) (by decide) (xat_dec o_Mo_init rfl rfl) (hQ M1 a1 a2 a3)
      all_goals exact absurd h (by decide)
  refine xCg_go o_Mo_init [389, 409] 60 (fun K hK => ?_)
  repeat' ((conv => whnf); first | refine ⟨fun h => ?_, fun h => ?_⟩ | refine ⟨?_, ?_⟩ | refine hK _ _ _ _ ?_)
  exact loop
set_option maxRecDepth 20000 in
theorem I_Mo_init : xT l G y_Mo_init [.ref 50] M00 (some (51, SDS)) (fun r M' g' => g' = some (96, SMo) ∧ r = none ∧ (∀ c, c ≠ 55 → c ≠ 50 → M'.1 c = M00.1 c) ∧ M'.1 50 = upd (upd (M00.1 50) 22 (-1)) 23 (-1) ∧ M'.2 = M00.2 ∧ ∀ i, i < 1536 → M'.1 55 i = -1) := by
  refine xT_of (by decide +kernel) (Nat.le_of_ble_eq_true rfl) ?_
  refine xc_aload_n (i := 0) rfl rfl (xat_dec o_Mo_init rfl rfl) ?_
  refine xc_obj (xtbm (List.mem_of_getElem? (i := 947) rfl) rfl) (xtbm (List.mem_of_getElem? (i := 104) rfl) rfl) (xtbm (List.mem_of_getElem? (i := 105) rfl) rfl) (by decide) (by decide) (xat_dec o_Mo_init rfl rfl) ?_
  refine xc_aload_n (i := 0) rfl rfl (xat_dec o_Mo_init rfl rfl) ?_
  refine xc_bipush (c := 24) (by decide) (xat_dec o_Mo_init rfl rfl) ?_
  refine xc_newa (kd := 0) (N := 24) (Or.inl ⟨rfl, rfl⟩) wA_int (by decide) rfl rfl (by decide) (by decide) (by decide) (fun _ => rfl) (fun _ => rfl) (Nat.le_of_ble_eq_true rfl) (Nat.le_of_ble_eq_true rfl) (xat_dec o_Mo_init rfl rfl) ?_
  refine xc_putF (i := 9) (ci := 7) (j := 1) (xfld o_Mo_init.1 rfl) rfl (by decide) rfl (by decide) rfl (fun c hc => by cases hc; exact ⟨rfl, rfl⟩) rfl (fun a => ⟨rfl, rfl⟩) (xat_dec o_Mo_init rfl rfl) ?_
  refine xc_aload_n (i := 0) rfl rfl (xat_dec o_Mo_init rfl rfl) ?_
  refine xc_bipush (c := 24) (by decide) (xat_dec o_Mo_init rfl rfl) ?_
  refine xc_newa (kd := 0) (N := 24) (Or.inl ⟨rfl, rfl⟩) wA_int (by decide) rfl rfl (by decide) (by decide) (by decide) (fun _ => rfl) (fun _ => rfl) (Nat.le_of_ble_eq_true rfl) (Nat.le_of_ble_eq_true rfl) (xat_dec o_Mo_init rfl rfl) ?_
  refine xc_putF (i := 13) (ci := 7) (j := 2) (xfld o_Mo_init.1 rfl) rfl (by decide) rfl (by decide) rfl (fun c hc => by cases hc; exact ⟨rfl, rfl⟩) rfl (fun a => ⟨rfl, rfl⟩) (xat_dec o_Mo_init rfl rfl) ?_
  refine xc_aload_n (i := 0) rfl rfl (xat_dec o_Mo_init rfl rfl) ?_
  refine xc_bipush (c := 24) (by decide) (xat_dec o_Mo_init rfl rfl) ?_
  refine xc_newa (kd := 0) (N := 24) (Or.inl ⟨rfl, rfl⟩) wA_int (by decide) rfl rfl (by decide) (by decide) (by decide) (fun _ => rfl) (fun _ => rfl) (Nat.le_of_ble_eq_true rfl) (Nat.le_of_ble_eq_true rfl) (xat_dec o_Mo_init rfl rfl) ?_
  refine xc_putF (i := 16) (ci := 7) (j := 3) (xfld o_Mo_init.1 rfl) rfl (by decide) rfl (by decide) rfl (fun c hc => by cases hc; exact ⟨rfl, rfl⟩) rfl (fun a => ⟨rfl, rfl⟩) (xat_dec o_Mo_init rfl rfl) ?_
  refine xc_aload_n (i := 0) rfl rfl (xat_dec o_Mo_init rfl rfl) ?_
  refine xc_sipush (c := 1536) (by decide) (xat_dec o_Mo_init rfl rfl) ?_
  refine xc_newa (kd := 0) (N := 1536) (Or.inl ⟨rfl, rfl⟩) wA_int (by decide) rfl rfl (by decide) (by decide) (by decide) (fun _ => rfl) (fun _ => rfl) (Nat.le_of_ble_eq_true rfl) (Nat.le_of_ble_eq_true rfl) (xat_dec o_Mo_init rfl rfl) ?_
  refine xc_putF (i := 19) (ci := 7) (j := 4) (xfld o_Mo_init.1 rfl) rfl (by decide) rfl (by decide) rfl (fun c hc => by cases hc; exact ⟨rfl, rfl⟩) rfl (fun a => ⟨rfl, rfl⟩) (xat_dec o_Mo_init rfl rfl) ?_
  refine xc_aload_n (i := 0) rfl rfl (xat_dec o_Mo_init rfl rfl) ?_
  refine xc_sipush (c := 1536) (by decide) (xat_dec o_Mo_init rfl rfl) ?_
  refine xc_newa (kd := 0) (N := 1536) (Or.inl ⟨rfl, rfl⟩) wA_int (by decide) rfl rfl (by decide) (by decide) (by decide) (fun _ => rfl) (fun _ => rfl) (Nat.le_of_ble_eq_true rfl) (Nat.le_of_ble_eq_true rfl) (xat_dec o_Mo_init rfl rfl) ?_
  refine xc_putF (i := 22) (ci := 7) (j := 5) (xfld o_Mo_init.1 rfl) rfl (by decide) rfl (by decide) rfl (fun c hc => by cases hc; exact ⟨rfl, rfl⟩) rfl (fun a => ⟨rfl, rfl⟩) (xat_dec o_Mo_init rfl rfl) ?_
  refine xc_aload_n (i := 0) rfl rfl (xat_dec o_Mo_init rfl rfl) ?_
  refine xc_bipush (c := 24) (by decide) (xat_dec o_Mo_init rfl rfl) ?_
  refine xc_newa (kd := 2) (N := 24) (Or.inr (Or.inr ⟨rfl, rfl⟩)) wA_bool (by decide) rfl rfl (by decide) (by decide) (by decide) (fun _ => rfl) (fun _ => rfl) (Nat.le_of_ble_eq_true rfl) (Nat.le_of_ble_eq_true rfl) (xat_dec o_Mo_init rfl rfl) ?_
  refine xc_putF (i := 25) (ci := 7) (j := 6) (xfld o_Mo_init.1 rfl) rfl (by decide) rfl (by decide) rfl (fun c hc => by cases hc; exact ⟨rfl, rfl⟩) rfl (fun a => ⟨rfl, rfl⟩) (xat_dec o_Mo_init rfl rfl) ?_
  refine xc_aload_n (i := 0) rfl rfl (xat_dec o_Mo_init rfl rfl) ?_
  refine xc_bipush (c := 12) (by decide) (xat_dec o_Mo_init rfl rfl) ?_
  refine xc_newa (kd := 0) (N := 12) (Or.inl ⟨rfl, rfl⟩) wA_int (by decide) rfl rfl (by decide) (by decide) (by decide) (fun _ => rfl) (fun _ => rfl) (Nat.le_of_ble_eq_true rfl) (Nat.le_of_ble_eq_true rfl) (xat_dec o_Mo_init rfl rfl) ?_
  refine xc_putF (i := 29) (ci := 7) (j := 7) (xfld o_Mo_init.1 rfl) rfl (by decide) rfl (by decide) rfl (fun c hc => by cases hc; exact ⟨rfl, rfl⟩) rfl (fun a => ⟨rfl, rfl⟩) (xat_dec o_Mo_init rfl rfl) ?_
  refine xc_aload_n (i := 0) rfl rfl (xat_dec o_Mo_init rfl rfl) ?_
  refine xc_sipush (c := 492) (by decide) (xat_dec o_Mo_init rfl rfl) ?_
  refine xc_newa (kd := 0) (N := 492) (Or.inl ⟨rfl, rfl⟩) wA_int (by decide) rfl rfl (by decide) (by decide) (by decide) (fun _ => rfl) (fun _ => rfl) (Nat.le_of_ble_eq_true rfl) (Nat.le_of_ble_eq_true rfl) (xat_dec o_Mo_init rfl rfl) ?_
  refine xc_putF (i := 32) (ci := 7) (j := 8) (xfld o_Mo_init.1 rfl) rfl (by decide) rfl (by decide) rfl (fun c hc => by cases hc; exact ⟨rfl, rfl⟩) rfl (fun a => ⟨rfl, rfl⟩) (xat_dec o_Mo_init rfl rfl) ?_
  refine xc_aload_n (i := 0) rfl rfl (xat_dec o_Mo_init rfl rfl) ?_
  refine xc_sipush (c := 492) (by decide) (xat_dec o_Mo_init rfl rfl) ?_
  refine xc_newa (kd := 0) (N := 492) (Or.inl ⟨rfl, rfl⟩) wA_int (by decide) rfl rfl (by decide) (by decide) (by decide) (fun _ => rfl) (fun _ => rfl) (Nat.le_of_ble_eq_true rfl) (Nat.le_of_ble_eq_true rfl) (xat_dec o_Mo_init rfl rfl) ?_
  refine xc_putF (i := 35) (ci := 7) (j := 9) (xfld o_Mo_init.1 rfl) rfl (by decide) rfl (by decide) rfl (fun c hc => by cases hc; exact ⟨rfl, rfl⟩) rfl (fun a => ⟨rfl, rfl⟩) (xat_dec o_Mo_init rfl rfl) ?_
  refine xc_aload_n (i := 0) rfl rfl (xat_dec o_Mo_init rfl rfl) ?_
  refine xc_sipush (c := 492) (by decide) (xat_dec o_Mo_init rfl rfl) ?_
  refine xc_newa (kd := 0) (N := 492) (Or.inl ⟨rfl, rfl⟩) wA_int (by decide) rfl rfl (by decide) (by decide) (by decide) (fun _ => rfl) (fun _ => rfl) (Nat.le_of_ble_eq_true rfl) (Nat.le_of_ble_eq_true rfl) (xat_dec o_Mo_init rfl rfl) ?_
  refine xc_putF (i := 38) (ci := 7) (j := 10) (xfld o_Mo_init.1 rfl) rfl (by decide) rfl (by decide) rfl (fun c hc => by cases hc; exact ⟨rfl, rfl⟩) rfl (fun a => ⟨rfl, rfl⟩) (xat_dec o_Mo_init rfl rfl) ?_
  refine xc_aload_n (i := 0) rfl rfl (xat_dec o_Mo_init rfl rfl) ?_
  refine xc_sipush (c := 492) (by decide) (xat_dec o_Mo_init rfl rfl) ?_
  refine xc_newa (kd := 0) (N := 492) (Or.inl ⟨rfl, rfl⟩) wA_int (by decide) rfl rfl (by decide) (by decide) (by decide) (fun _ => rfl) (fun _ => rfl) (Nat.le_of_ble_eq_true rfl) (Nat.le_of_ble_eq_true rfl) (xat_dec o_Mo_init rfl rfl) ?_
  refine xc_putF (i := 41) (ci := 7) (j := 11) (xfld o_Mo_init.1 rfl) rfl (by decide) rfl (by decide) rfl (fun c hc => by cases hc; exact ⟨rfl, rfl⟩) rfl (fun a => ⟨rfl, rfl⟩) (xat_dec o_Mo_init rfl rfl) ?_
  refine xc_aload_n (i := 0) rfl rfl (xat_dec o_Mo_init rfl rfl) ?_
  refine xc_bipush (c := 12) (by decide) (xat_dec o_Mo_init rfl rfl) ?_
  refine xc_newa (kd := 2) (N := 12) (Or.inr (Or.inr ⟨rfl, rfl⟩)) wA_bool (by decide) rfl rfl (by decide) (by decide) (by decide) (fun _ => rfl) (fun _ => rfl) (Nat.le_of_ble_eq_true rfl) (Nat.le_of_ble_eq_true rfl) (xat_dec o_Mo_init rfl rfl) ?_
  refine xc_putF (i := 44) (ci := 7) (j := 12) (xfld o_Mo_init.1 rfl) rfl (by decide) rfl (by decide) rfl (fun c hc => by cases hc; exact ⟨rfl, rfl⟩) rfl (fun a => ⟨rfl, rfl⟩) (xat_dec o_Mo_init rfl rfl) ?_
  refine xc_aload_n (i := 0) rfl rfl (xat_dec o_Mo_init rfl rfl) ?_
  refine xc_sipush (c := 200) (by decide) (xat_dec o_Mo_init rfl rfl) ?_
  refine xc_newa (kd := 0) (N := 200) (Or.inl ⟨rfl, rfl⟩) wA_int (by decide) rfl rfl (by decide) (by decide) (by decide) (fun _ => rfl) (fun _ => rfl) (Nat.le_of_ble_eq_true rfl) (Nat.le_of_ble_eq_true rfl) (xat_dec o_Mo_init rfl rfl) ?_
  refine xc_putF (i := 47) (ci := 7) (j := 13) (xfld o_Mo_init.1 rfl) rfl (by decide) rfl (by decide) rfl (fun c hc => by cases hc; exact ⟨rfl, rfl⟩) rfl (fun a => ⟨rfl, rfl⟩) (xat_dec o_Mo_init rfl rfl) ?_
  refine xc_aload_n (i := 0) rfl rfl (xat_dec o_Mo_init rfl rfl) ?_
  refine xc_sipush (c := 3072) (by decide) (xat_dec o_Mo_init rfl rfl) ?_
  refine xc_newa (kd := 0) (N := 3072) (Or.inl ⟨rfl, rfl⟩) wA_int (by decide) rfl rfl (by decide) (by decide) (by decide) (fun _ => rfl) (fun _ => rfl) (Nat.le_of_ble_eq_true rfl) (Nat.le_of_ble_eq_true rfl) (xat_dec o_Mo_init rfl rfl) ?_
  refine xc_putF (i := 50) (ci := 7) (j := 15) (xfld o_Mo_init.1 rfl) rfl (by decide) rfl (by decide) rfl (fun c hc => by cases hc; exact ⟨rfl, rfl⟩) rfl (fun a => ⟨rfl, rfl⟩) (xat_dec o_Mo_init rfl rfl) ?_
  refine xc_aload_n (i := 0) rfl rfl (xat_dec o_Mo_init rfl rfl) ?_
  refine xc_iconst (c := 4) (by decide) (xat_dec o_Mo_init rfl rfl) ?_
  refine xc_newa (kd := 0) (N := 4) (Or.inl ⟨rfl, rfl⟩) wA_int (by decide) rfl rfl (by decide) (by decide) (by decide) (fun _ => rfl) (fun _ => rfl) (Nat.le_of_ble_eq_true rfl) (Nat.le_of_ble_eq_true rfl) (xat_dec o_Mo_init rfl rfl) ?_
  refine xc_putF (i := 53) (ci := 7) (j := 16) (xfld o_Mo_init.1 rfl) rfl (by decide) rfl (by decide) rfl (fun c hc => by cases hc; exact ⟨rfl, rfl⟩) rfl (fun a => ⟨rfl, rfl⟩) (xat_dec o_Mo_init rfl rfl) ?_
  refine xc_aload_n (i := 0) rfl rfl (xat_dec o_Mo_init rfl rfl) ?_
  refine xc_bipush (c := 100) (by decide) (xat_dec o_Mo_init rfl rfl) ?_
  refine xc_newa (kd := 0) (N := 100) (Or.inl ⟨rfl, rfl⟩) wA_int (by decide) rfl rfl (by decide) (by decide) (by decide) (fun _ => rfl) (fun _ => rfl) (Nat.le_of_ble_eq_true rfl) (Nat.le_of_ble_eq_true rfl) (xat_dec o_Mo_init rfl rfl) ?_
  refine xc_putF (i := 56) (ci := 7) (j := 17) (xfld o_Mo_init.1 rfl) rfl (by decide) rfl (by decide) rfl (fun c hc => by cases hc; exact ⟨rfl, rfl⟩) rfl (fun a => ⟨rfl, rfl⟩) (xat_dec o_Mo_init rfl rfl) ?_
  refine xc_aload_n (i := 0) rfl rfl (xat_dec o_Mo_init rfl rfl) ?_
  refine xc_bipush (c := 16) (by decide) (xat_dec o_Mo_init rfl rfl) ?_
  refine xc_newa (kd := 0) (N := 16) (Or.inl ⟨rfl, rfl⟩) wA_int (by decide) rfl rfl (by decide) (by decide) (by decide) (fun _ => rfl) (fun _ => rfl) (Nat.le_of_ble_eq_true rfl) (Nat.le_of_ble_eq_true rfl) (xat_dec o_Mo_init rfl rfl) ?_
  refine xc_putF (i := 59) (ci := 7) (j := 18) (xfld o_Mo_init.1 rfl) rfl (by decide) rfl (by decide) rfl (fun c hc => by cases hc; exact ⟨rfl, rfl⟩) rfl (fun a => ⟨rfl, rfl⟩) (xat_dec o_Mo_init rfl rfl) ?_
  refine xc_aload_n (i := 0) rfl rfl (xat_dec o_Mo_init rfl rfl) ?_
  refine xc_bipush (c := 16) (by decide) (xat_dec o_Mo_init rfl rfl) ?_
  refine xc_newa (kd := 0) (N := 16) (Or.inl ⟨rfl, rfl⟩) wA_int (by decide) rfl rfl (by decide) (by decide) (by decide) (fun _ => rfl) (fun _ => rfl) (Nat.le_of_ble_eq_true rfl) (Nat.le_of_ble_eq_true rfl) (xat_dec o_Mo_init rfl rfl) ?_
  refine xc_putF (i := 62) (ci := 7) (j := 19) (xfld o_Mo_init.1 rfl) rfl (by decide) rfl (by decide) rfl (fun c hc => by cases hc; exact ⟨rfl, rfl⟩) rfl (fun a => ⟨rfl, rfl⟩) (xat_dec o_Mo_init rfl rfl) ?_
  refine xc_aload_n (i := 0) rfl rfl (xat_dec o_Mo_init rfl rfl) ?_
  refine xc_iconst (c := (-1)) (by decide) (xat_dec o_Mo_init rfl rfl) ?_
  refine xc_put (i := 65) (ci := 7) (j := 22) (xfld o_Mo_init.1 rfl) rfl (by decide) rfl rfl (fun c hc => by cases hc; rfl) rfl rfl (xat_dec o_Mo_init rfl rfl) ?_
  refine xc_aload_n (i := 0) rfl rfl (xat_dec o_Mo_init rfl rfl) ?_
  refine xc_iconst (c := (-1)) (by decide) (xat_dec o_Mo_init rfl rfl) ?_
  refine xc_put (i := 69) (ci := 7) (j := 23) (xfld o_Mo_init.1 rfl) rfl (by decide) rfl rfl (fun c hc => by cases hc; rfl) rfl rfl (xat_dec o_Mo_init rfl rfl) ?_
  refine xc_aload_n (i := 0) rfl rfl (xat_dec o_Mo_init rfl rfl) ?_
  refine xc_sipush (c := 7872) (by decide) (xat_dec o_Mo_init rfl rfl) ?_
  refine xc_newa (kd := 1) (N := 7872) (Or.inr (Or.inl ⟨rfl, rfl⟩)) wA_long (by decide) rfl rfl (by decide) (by decide) (by decide) (fun _ => rfl) (fun _ => rfl) (Nat.le_of_ble_eq_true rfl) (Nat.le_of_ble_eq_true rfl) (xat_dec o_Mo_init rfl rfl) ?_
  refine xc_putF (i := 72) (ci := 7) (j := 28) (xfld o_Mo_init.1 rfl) rfl (by decide) rfl (by decide) rfl (fun c hc => by cases hc; exact ⟨rfl, rfl⟩) rfl (fun a => ⟨rfl, rfl⟩) (xat_dec o_Mo_init rfl rfl) ?_
  refine xc_aload_n (i := 0) rfl rfl (xat_dec o_Mo_init rfl rfl) ?_
  refine xc_sipush (c := 6144) (by decide) (xat_dec o_Mo_init rfl rfl) ?_
  refine xc_newa (kd := 1) (N := 6144) (Or.inr (Or.inl ⟨rfl, rfl⟩)) wA_long (by decide) rfl rfl (by decide) (by decide) (by decide) (fun _ => rfl) (fun _ => rfl) (Nat.le_of_ble_eq_true rfl) (Nat.le_of_ble_eq_true rfl) (xat_dec o_Mo_init rfl rfl) ?_
  refine xc_putF (i := 76) (ci := 7) (j := 29) (xfld o_Mo_init.1 rfl) rfl (by decide) rfl (by decide) rfl (fun c hc => by cases hc; exact ⟨rfl, rfl⟩) rfl (fun a => ⟨rfl, rfl⟩) (xat_dec o_Mo_init rfl rfl) ?_
  refine xc_aload_n (i := 0) rfl rfl (xat_dec o_Mo_init rfl rfl) ?_
  refine xc_sipush (c := 192) (by decide) (xat_dec o_Mo_init rfl rfl) ?_
  refine xc_newa (kd := 1) (N := 192) (Or.inr (Or.inl ⟨rfl, rfl⟩)) wA_long (by decide) rfl rfl (by decide) (by decide) (by decide) (fun _ => rfl) (fun _ => rfl) (Nat.le_of_ble_eq_true rfl) (Nat.le_of_ble_eq_true rfl) (xat_dec o_Mo_init rfl rfl) ?_
  refine xc_putF (i := 79) (ci := 7) (j := 30) (xfld o_Mo_init.1 rfl) rfl (by decide) rfl (by decide) rfl (fun c hc => by cases hc; exact ⟨rfl, rfl⟩) rfl (fun a => ⟨rfl, rfl⟩) (xat_dec o_Mo_init rfl rfl) ?_
  refine xc_aload_n (i := 0) rfl rfl (xat_dec o_Mo_init rfl rfl) ?_
  refine xc_sipush (c := 492) (by decide) (xat_dec o_Mo_init rfl rfl) ?_
  refine xc_newa (kd := 2) (N := 492) (Or.inr (Or.inr ⟨rfl, rfl⟩)) wA_bool (by decide) rfl rfl (by decide) (by decide) (by decide) (fun _ => rfl) (fun _ => rfl) (Nat.le_of_ble_eq_true rfl) (Nat.le_of_ble_eq_true rfl) (xat_dec o_Mo_init rfl rfl) ?_
  refine xc_putF (i := 82) (ci := 7) (j := 31) (xfld o_Mo_init.1 rfl) rfl (by decide) rfl (by decide) rfl (fun c hc => by cases hc; exact ⟨rfl, rfl⟩) rfl (fun a => ⟨rfl, rfl⟩) (xat_dec o_Mo_init rfl rfl) ?_
  refine xc_aload_n (i := 0) rfl rfl (xat_dec o_Mo_init rfl rfl) ?_
  refine xc_bipush (c := 12) (by decide) (xat_dec o_Mo_init rfl rfl) ?_
  refine xc_newa (kd := 2) (N := 12) (Or.inr (Or.inr ⟨rfl, rfl⟩)) wA_bool (by decide) rfl rfl (by decide) (by decide) (by decide) (fun _ => rfl) (fun _ => rfl) (Nat.le_of_ble_eq_true rfl) (Nat.le_of_ble_eq_true rfl) (xat_dec o_Mo_init rfl rfl) ?_
  refine xc_putF (i := 85) (ci := 7) (j := 32) (xfld o_Mo_init.1 rfl) rfl (by decide) rfl (by decide) rfl (fun c hc => by cases hc; exact ⟨rfl, rfl⟩) rfl (fun a => ⟨rfl, rfl⟩) (xat_dec o_Mo_init rfl rfl) ?_
  refine xc_aload_n (i := 0) rfl rfl (xat_dec o_Mo_init rfl rfl) ?_
  refine xc_sipush (c := 1536) (by decide) (xat_dec o_Mo_init rfl rfl) ?_
  refine xc_newa (kd := 2) (N := 1536) (Or.inr (Or.inr ⟨rfl, rfl⟩)) wA_bool (by decide) rfl rfl (by decide) (by decide) (by decide) (fun _ => rfl) (fun _ => rfl) (Nat.le_of_ble_eq_true rfl) (Nat.le_of_ble_eq_true rfl) (xat_dec o_Mo_init rfl rfl) ?_
  refine xc_putF (i := 88) (ci := 7) (j := 33) (xfld o_Mo_init.1 rfl) rfl (by decide) rfl (by decide) rfl (fun c hc => by cases hc; exact ⟨rfl, rfl⟩) rfl (fun a => ⟨rfl, rfl⟩) (xat_dec o_Mo_init rfl rfl) ?_
  refine xc_aload_n (i := 0) rfl rfl (xat_dec o_Mo_init rfl rfl) ?_
  refine xc_sipush (c := 1536) (by decide) (xat_dec o_Mo_init rfl rfl) ?_
  refine xc_newa (kd := 2) (N := 1536) (Or.inr (Or.inr ⟨rfl, rfl⟩)) wA_bool (by decide) rfl rfl (by decide) (by decide) (by decide) (fun _ => rfl) (fun _ => rfl) (Nat.le_of_ble_eq_true rfl) (Nat.le_of_ble_eq_true rfl) (xat_dec o_Mo_init rfl rfl) ?_
  refine xc_putF (i := 91) (ci := 7) (j := 34) (xfld o_Mo_init.1 rfl) rfl (by decide) rfl (by decide) rfl (fun c hc => by cases hc; exact ⟨rfl, rfl⟩) rfl (fun a => ⟨rfl, rfl⟩) (xat_dec o_Mo_init rfl rfl) ?_
  refine xc_aload_n (i := 0) rfl rfl (xat_dec o_Mo_init rfl rfl) ?_
  refine xc_bipush (c := 24) (by decide) (xat_dec o_Mo_init rfl rfl) ?_
  refine xc_newa (kd := 2) (N := 24) (Or.inr (Or.inr ⟨rfl, rfl⟩)) wA_bool (by decide) rfl rfl (by decide) (by decide) (by decide) (fun _ => rfl) (fun _ => rfl) (Nat.le_of_ble_eq_true rfl) (Nat.le_of_ble_eq_true rfl) (xat_dec o_Mo_init rfl rfl) ?_
  refine xc_putF (i := 94) (ci := 7) (j := 35) (xfld o_Mo_init.1 rfl) rfl (by decide) rfl (by decide) rfl (fun c hc => by cases hc; exact ⟨rfl, rfl⟩) rfl (fun a => ⟨rfl, rfl⟩) (xat_dec o_Mo_init rfl rfl) ?_
  refine xc_aload_n (i := 0) rfl rfl (xat_dec o_Mo_init rfl rfl) ?_
  refine xc_bipush (c := 24) (by decide) (xat_dec o_Mo_init rfl rfl) ?_
  refine xc_newa (kd := 2) (N := 24) (Or.inr (Or.inr ⟨rfl, rfl⟩)) wA_bool (by decide) rfl rfl (by decide) (by decide) (by decide) (fun _ => rfl) (fun _ => rfl) (Nat.le_of_ble_eq_true rfl) (Nat.le_of_ble_eq_true rfl) (xat_dec o_Mo_init rfl rfl) ?_
  refine xc_putF (i := 97) (ci := 7) (j := 36) (xfld o_Mo_init.1 rfl) rfl (by decide) rfl (by decide) rfl (fun c hc => by cases hc; exact ⟨rfl, rfl⟩) rfl (fun a => ⟨rfl, rfl⟩) (xat_dec o_Mo_init rfl rfl) ?_
  refine xc_aload_n (i := 0) rfl rfl (xat_dec o_Mo_init rfl rfl) ?_
  refine xc_bipush (c := 16) (by decide) (xat_dec o_Mo_init rfl rfl) ?_
  refine xc_newa (kd := 1) (N := 16) (Or.inr (Or.inl ⟨rfl, rfl⟩)) wA_long (by decide) rfl rfl (by decide) (by decide) (by decide) (fun _ => rfl) (fun _ => rfl) (Nat.le_of_ble_eq_true rfl) (Nat.le_of_ble_eq_true rfl) (xat_dec o_Mo_init rfl rfl) ?_
  refine xc_putF (i := 100) (ci := 7) (j := 37) (xfld o_Mo_init.1 rfl) rfl (by decide) rfl (by decide) rfl (fun c hc => by cases hc; exact ⟨rfl, rfl⟩) rfl (fun a => ⟨rfl, rfl⟩) (xat_dec o_Mo_init rfl rfl) ?_
  refine xc_aload_n (i := 0) rfl rfl (xat_dec o_Mo_init rfl rfl) ?_
  refine xc_iconst (c := 4) (by decide) (xat_dec o_Mo_init rfl rfl) ?_
  refine xc_newa (kd := 1) (N := 4) (Or.inr (Or.inl ⟨rfl, rfl⟩)) wA_long (by decide) rfl rfl (by decide) (by decide) (by decide) (fun _ => rfl) (fun _ => rfl) (Nat.le_of_ble_eq_true rfl) (Nat.le_of_ble_eq_true rfl) (xat_dec o_Mo_init rfl rfl) ?_
  refine xc_putF (i := 103) (ci := 7) (j := 38) (xfld o_Mo_init.1 rfl) rfl (by decide) rfl (by decide) rfl (fun c hc => by cases hc; exact ⟨rfl, rfl⟩) rfl (fun a => ⟨rfl, rfl⟩) (xat_dec o_Mo_init rfl rfl) ?_
  refine xc_aload_n (i := 0) rfl rfl (xat_dec o_Mo_init rfl rfl) ?_
  refine xc_bipush (c := 24) (by decide) (xat_dec o_Mo_init rfl rfl) ?_
  refine xc_newa (kd := 2) (N := 24) (Or.inr (Or.inr ⟨rfl, rfl⟩)) wA_bool (by decide) rfl rfl (by decide) (by decide) (by decide) (fun _ => rfl) (fun _ => rfl) (Nat.le_of_ble_eq_true rfl) (Nat.le_of_ble_eq_true rfl) (xat_dec o_Mo_init rfl rfl) ?_
  refine xc_putF (i := 106) (ci := 7) (j := 40) (xfld o_Mo_init.1 rfl) rfl (by decide) rfl (by decide) rfl (fun c hc => by cases hc; exact ⟨rfl, rfl⟩) rfl (fun a => ⟨rfl, rfl⟩) (xat_dec o_Mo_init rfl rfl) ?_
  refine xc_aload_n (i := 0) rfl rfl (xat_dec o_Mo_init rfl rfl) ?_
  refine xc_bipush (c := 12) (by decide) (xat_dec o_Mo_init rfl rfl) ?_
  refine xc_newa (kd := 2) (N := 12) (Or.inr (Or.inr ⟨rfl, rfl⟩)) wA_bool (by decide) rfl rfl (by decide) (by decide) (by decide) (fun _ => rfl) (fun _ => rfl) (Nat.le_of_ble_eq_true rfl) (Nat.le_of_ble_eq_true rfl) (xat_dec o_Mo_init rfl rfl) ?_
  refine xc_putF (i := 109) (ci := 7) (j := 41) (xfld o_Mo_init.1 rfl) rfl (by decide) rfl (by decide) rfl (fun c hc => by cases hc; exact ⟨rfl, rfl⟩) rfl (fun a => ⟨rfl, rfl⟩) (xat_dec o_Mo_init rfl rfl) ?_
  refine xc_aload_n (i := 0) rfl rfl (xat_dec o_Mo_init rfl rfl) ?_
  refine xc_bipush (c := 36) (by decide) (xat_dec o_Mo_init rfl rfl) ?_
  refine xc_newa (kd := 0) (N := 36) (Or.inl ⟨rfl, rfl⟩) wA_int (by decide) rfl rfl (by decide) (by decide) (by decide) (fun _ => rfl) (fun _ => rfl) (Nat.le_of_ble_eq_true rfl) (Nat.le_of_ble_eq_true rfl) (xat_dec o_Mo_init rfl rfl) ?_
  refine xc_putF (i := 112) (ci := 7) (j := 42) (xfld o_Mo_init.1 rfl) rfl (by decide) rfl (by decide) rfl (fun c hc => by cases hc; exact ⟨rfl, rfl⟩) rfl (fun a => ⟨rfl, rfl⟩) (xat_dec o_Mo_init rfl rfl) ?_
  refine xc_aload_n (i := 0) rfl rfl (xat_dec o_Mo_init rfl rfl) ?_
  refine xc_bipush (c := 24) (by decide) (xat_dec o_Mo_init rfl rfl) ?_
  refine xc_newa (kd := 0) (N := 24) (Or.inl ⟨rfl, rfl⟩) wA_int (by decide) rfl rfl (by decide) (by decide) (by decide) (fun _ => rfl) (fun _ => rfl) (Nat.le_of_ble_eq_true rfl) (Nat.le_of_ble_eq_true rfl) (xat_dec o_Mo_init rfl rfl) ?_
  refine xc_putF (i := 115) (ci := 7) (j := 43) (xfld o_Mo_init.1 rfl) rfl (by decide) rfl (by decide) rfl (fun c hc => by cases hc; exact ⟨rfl, rfl⟩) rfl (fun a => ⟨rfl, rfl⟩) (xat_dec o_Mo_init rfl rfl) ?_
  refine xc_aload_n (i := 0) rfl rfl (xat_dec o_Mo_init rfl rfl) ?_
  refine xc_bipush (c := 12) (by decide) (xat_dec o_Mo_init rfl rfl) ?_
  refine xc_newa (kd := 0) (N := 12) (Or.inl ⟨rfl, rfl⟩) wA_int (by decide) rfl rfl (by decide) (by decide) (by decide) (fun _ => rfl) (fun _ => rfl) (Nat.le_of_ble_eq_true rfl) (Nat.le_of_ble_eq_true rfl) (xat_dec o_Mo_init rfl rfl) ?_
  refine xc_putF (i := 118) (ci := 7) (j := 44) (xfld o_Mo_init.1 rfl) rfl (by decide) rfl (by decide) rfl (fun c hc => by cases hc; exact ⟨rfl, rfl⟩) rfl (fun a => ⟨rfl, rfl⟩) (xat_dec o_Mo_init rfl rfl) ?_
  refine xc_aload_n (i := 0) rfl rfl (xat_dec o_Mo_init rfl rfl) ?_
  refine xc_bipush (c := 24) (by decide) (xat_dec o_Mo_init rfl rfl) ?_
  refine xc_newa (kd := 0) (N := 24) (Or.inl ⟨rfl, rfl⟩) wA_int (by decide) rfl rfl (by decide) (by decide) (by decide) (fun _ => rfl) (fun _ => rfl) (Nat.le_of_ble_eq_true rfl) (Nat.le_of_ble_eq_true rfl) (xat_dec o_Mo_init rfl rfl) ?_
  refine xc_putF (i := 121) (ci := 7) (j := 45) (xfld o_Mo_init.1 rfl) rfl (by decide) rfl (by decide) rfl (fun c hc => by cases hc; exact ⟨rfl, rfl⟩) rfl (fun a => ⟨rfl, rfl⟩) (xat_dec o_Mo_init rfl rfl) ?_
  refine xc_aload_n (i := 0) rfl rfl (xat_dec o_Mo_init rfl rfl) ?_
  refine xc_bipush (c := 24) (by decide) (xat_dec o_Mo_init rfl rfl) ?_
  refine xc_newa (kd := 0) (N := 24) (Or.inl ⟨rfl, rfl⟩) wA_int (by decide) rfl rfl (by decide) (by decide) (by decide) (fun _ => rfl) (fun _ => rfl) (Nat.le_of_ble_eq_true rfl) (Nat.le_of_ble_eq_true rfl) (xat_dec o_Mo_init rfl rfl) ?_
  refine xc_putF (i := 124) (ci := 7) (j := 46) (xfld o_Mo_init.1 rfl) rfl (by decide) rfl (by decide) rfl (fun c hc => by cases hc; exact ⟨rfl, rfl⟩) rfl (fun a => ⟨rfl, rfl⟩) (xat_dec o_Mo_init rfl rfl) ?_
  refine xc_aload_n (i := 0) rfl rfl (xat_dec o_Mo_init rfl rfl) ?_
  refine xc_bipush (c := 24) (by decide) (xat_dec o_Mo_init rfl rfl) ?_
  refine xc_newa (kd := 0) (N := 24) (Or.inl ⟨rfl, rfl⟩) wA_int (by decide) rfl rfl (by decide) (by decide) (by decide) (fun _ => rfl) (fun _ => rfl) (Nat.le_of_ble_eq_true rfl) (Nat.le_of_ble_eq_true rfl) (xat_dec o_Mo_init rfl rfl) ?_
  refine xc_putF (i := 127) (ci := 7) (j := 47) (xfld o_Mo_init.1 rfl) rfl (by decide) rfl (by decide) rfl (fun c hc => by cases hc; exact ⟨rfl, rfl⟩) rfl (fun a => ⟨rfl, rfl⟩) (xat_dec o_Mo_init rfl rfl) ?_
  refine xc_aload_n (i := 0) rfl rfl (xat_dec o_Mo_init rfl rfl) ?_
  refine xc_bipush (c := 24) (by decide) (xat_dec o_Mo_init rfl rfl) ?_
  refine xc_newa (kd := 0) (N := 24) (Or.inl ⟨rfl, rfl⟩) wA_int (by decide) rfl rfl (by decide) (by decide) (by decide) (fun _ => rfl) (fun _ => rfl) (Nat.le_of_ble_eq_true rfl) (Nat.le_of_ble_eq_true rfl) (xat_dec o_Mo_init rfl rfl) ?_
  refine xc_putF (i := 130) (ci := 7) (j := 48) (xfld o_Mo_init.1 rfl) rfl (by decide) rfl (by decide) rfl (fun c hc => by cases hc; exact ⟨rfl, rfl⟩) rfl (fun a => ⟨rfl, rfl⟩) (xat_dec o_Mo_init rfl rfl) ?_
  refine xc_aload_n (i := 0) rfl rfl (xat_dec o_Mo_init rfl rfl) ?_
  refine xc_sipush (c := 3072) (by decide) (xat_dec o_Mo_init rfl rfl) ?_
  refine xc_newa (kd := 0) (N := 3072) (Or.inl ⟨rfl, rfl⟩) wA_int (by decide) rfl rfl (by decide) (by decide) (by decide) (fun _ => rfl) (fun _ => rfl) (Nat.le_of_ble_eq_true rfl) (Nat.le_of_ble_eq_true rfl) (xat_dec o_Mo_init rfl rfl) ?_
  refine xc_putF (i := 133) (ci := 7) (j := 49) (xfld o_Mo_init.1 rfl) rfl (by decide) rfl (by decide) rfl (fun c hc => by cases hc; exact ⟨rfl, rfl⟩) rfl (fun a => ⟨rfl, rfl⟩) (xat_dec o_Mo_init rfl rfl) ?_
  refine xc_aload_n (i := 0) rfl rfl (xat_dec o_Mo_init rfl rfl) ?_
  refine xc_bipush (c := 24) (by decide) (xat_dec o_Mo_init rfl rfl) ?_
  refine xc_newa (kd := 2) (N := 24) (Or.inr (Or.inr ⟨rfl, rfl⟩)) wA_bool (by decide) rfl rfl (by decide) (by decide) (by decide) (fun _ => rfl) (fun _ => rfl) (Nat.le_of_ble_eq_true rfl) (Nat.le_of_ble_eq_true rfl) (xat_dec o_Mo_init rfl rfl) ?_
  refine xc_putF (i := 136) (ci := 7) (j := 50) (xfld o_Mo_init.1 rfl) rfl (by decide) rfl (by decide) rfl (fun c hc => by cases hc; exact ⟨rfl, rfl⟩) rfl (fun a => ⟨rfl, rfl⟩) (xat_dec o_Mo_init rfl rfl) ?_
  refine xc_aload_n (i := 0) rfl rfl (xat_dec o_Mo_init rfl rfl) ?_
  refine xc_bipush (c := 24) (by decide) (xat_dec o_Mo_init rfl rfl) ?_
  refine xc_newa (kd := 2) (N := 24) (Or.inr (Or.inr ⟨rfl, rfl⟩)) wA_bool (by decide) rfl rfl (by decide) (by decide) (by decide) (fun _ => rfl) (fun _ => rfl) (Nat.le_of_ble_eq_true rfl) (Nat.le_of_ble_eq_true rfl) (xat_dec o_Mo_init rfl rfl) ?_
  refine xc_putF (i := 139) (ci := 7) (j := 51) (xfld o_Mo_init.1 rfl) rfl (by decide) rfl (by decide) rfl (fun c hc => by cases hc; exact ⟨rfl, rfl⟩) rfl (fun a => ⟨rfl, rfl⟩) (xat_dec o_Mo_init rfl rfl) ?_
  refine xc_aload_n (i := 0) rfl rfl (xat_dec o_Mo_init rfl rfl) ?_
  refine xc_bipush (c := 24) (by decide) (xat_dec o_Mo_init rfl rfl) ?_
  refine xc_newa (kd := 0) (N := 24) (Or.inl ⟨rfl, rfl⟩) wA_int (by decide) rfl rfl (by decide) (by decide) (by decide) (fun _ => rfl) (fun _ => rfl) (Nat.le_of_ble_eq_true rfl) (Nat.le_of_ble_eq_true rfl) (xat_dec o_Mo_init rfl rfl) ?_
  refine xc_putF (i := 142) (ci := 7) (j := 52) (xfld o_Mo_init.1 rfl) rfl (by decide) rfl (by decide) rfl (fun c hc => by cases hc; exact ⟨rfl, rfl⟩) rfl (fun a => ⟨rfl, rfl⟩) (xat_dec o_Mo_init rfl rfl) ?_
  refine xc_aload_n (i := 0) rfl rfl (xat_dec o_Mo_init rfl rfl) ?_
  refine xc_bipush (c := 24) (by decide) (xat_dec o_Mo_init rfl rfl) ?_
  refine xc_newa (kd := 0) (N := 24) (Or.inl ⟨rfl, rfl⟩) wA_int (by decide) rfl rfl (by decide) (by decide) (by decide) (fun _ => rfl) (fun _ => rfl) (Nat.le_of_ble_eq_true rfl) (Nat.le_of_ble_eq_true rfl) (xat_dec o_Mo_init rfl rfl) ?_
  refine xc_putF (i := 145) (ci := 7) (j := 53) (xfld o_Mo_init.1 rfl) rfl (by decide) rfl (by decide) rfl (fun c hc => by cases hc; exact ⟨rfl, rfl⟩) rfl (fun a => ⟨rfl, rfl⟩) (xat_dec o_Mo_init rfl rfl) ?_
  refine xc_aload_n (i := 0) rfl rfl (xat_dec o_Mo_init rfl rfl) ?_
  refine xc_bipush (c := 24) (by decide) (xat_dec o_Mo_init rfl rfl) ?_
  refine xc_newa (kd := 0) (N := 24) (Or.inl ⟨rfl, rfl⟩) wA_int (by decide) rfl rfl (by decide) (by decide) (by decide) (fun _ => rfl) (fun _ => rfl) (Nat.le_of_ble_eq_true rfl) (Nat.le_of_ble_eq_true rfl) (xat_dec o_Mo_init rfl rfl) ?_
  refine xc_putF (i := 148) (ci := 7) (j := 54) (xfld o_Mo_init.1 rfl) rfl (by decide) rfl (by decide) rfl (fun c hc => by cases hc; exact ⟨rfl, rfl⟩) rfl (fun a => ⟨rfl, rfl⟩) (xat_dec o_Mo_init rfl rfl) ?_
  refine xc_aload_n (i := 0) rfl rfl (xat_dec o_Mo_init rfl rfl) ?_
  refine xc_bipush (c := 24) (by decide) (xat_dec o_Mo_init rfl rfl) ?_
  refine xc_newa (kd := 2) (N := 24) (Or.inr (Or.inr ⟨rfl, rfl⟩)) wA_bool (by decide) rfl rfl (by decide) (by decide) (by decide) (fun _ => rfl) (fun _ => rfl) (Nat.le_of_ble_eq_true rfl) (Nat.le_of_ble_eq_true rfl) (xat_dec o_Mo_init rfl rfl) ?_
  refine xc_putF (i := 151) (ci := 7) (j := 55) (xfld o_Mo_init.1 rfl) rfl (by decide) rfl (by decide) rfl (fun c hc => by cases hc; exact ⟨rfl, rfl⟩) rfl (fun a => ⟨rfl, rfl⟩) (xat_dec o_Mo_init rfl rfl) ?_
  refine xc_unseal SMo_all (Q := fun r M' => r = none ∧ (∀ c, c ≠ 55 → c ≠ 50 → M'.1 c = M00.1 c) ∧ M'.1 50 = upd (upd (M00.1 50) 22 (-1)) 23 (-1) ∧ M'.2 = M00.2 ∧ ∀ i, i < 1536 → M'.1 55 i = -1) ?_
  refine xc_seal SMo_all ?_
  refine xc_lv (lv' := [some (.ref 50), none]) (fun i v hi => ?_) ?_
  · match i, hi with
    | 0, hi => exact hi
    | 1, hi => cases hi
    | i + 2, hi => cases hi
  refine L_Minit l G _ _ (fun M' h1 h2 h3 => ⟨rfl, rfl, fun c hc hc2 => ?_, ?_, h2, h3⟩)
  · rw [h1 c hc]
    show (if c = 50 then _ else if c = 50 then _ else M00.1 c) = _
    rw [if_neg hc2, if_neg hc2]
  · rw [h1 50 (by decide)]
    rfl
end XIO
