/-! Reach: an instruction taken on, the walk -/
def mkq (V : sV) (f i : Nat) (q : Nat × Int32 × Int32 × Int32) : sV × (Nat → Prop) := match q.1 with
  | 0 => (V, fun v => v = ix q.2.2.1)
  | 1 => (V, fun v => ∃ u, u < 256 ∧ vS V f i (ix q.2.1) u ∧ (u + ix (q.2.2.1 + 255) + 1) % 256 = v)
  | 2 => (V, fun v => ∃ u, u < 256 ∧ vS V f i (ix q.2.1) u ∧ u &&& ix q.2.2.1 = v)
  | 10 => (vComp V (ix q.2.2.1) (ix q.2.2.2), fun v => (ix q.2.2.1 = ix q.2.2.2 ∧ v = 1) ∨ (¬ ix q.2.2.1 = ix q.2.2.2 ∧ v = 0))
  | _ => (V, fun _ => True)
theorem slot_n (f i : Nat) : nI f * 41 + nI i = nI (f * 41 + i) := by rw [nI_41, nI_add]
section XTP
variable (l : Launch) (G : xG)
theorem E_makeSimple (P : sP) (V : sV) (M : xMe) (hP : cP P M) (hV : cV P V M) (hw : wP P) (f i : Nat) (hf : f < 12) (q : Nat × Int32 × Int32 × Int32) (hq : (pC P f)[i]? = some q) (ho : q.1 = 0 ∨ q.1 = 1 ∨ q.1 = 2 ∨ q.1 = 9 ∨ q.1 = 10) : xE l G y_Re_makeSimple [.ref 16, .int (nI (f * 40 + i)), .int (nI (f * 41 + i))] M (fun v M' => v = none ∧ cV P (mkq V f i q).1 M' ∧ (∀ v, v < 256 → (sHas (M'.2 26) 0 v = true ↔ (mkq V f i q).2 v)) ∧ xfr [26, 29] M M') := by
  have t1 : xtl 21 = 7872 := rfl
  obtain ⟨hl40, hv⟩ := hw.2.2.2.1 f hf
  have hlt : i < (pC P f).length := (List.getElem?_eq_some_iff.mp hq).1
  have hvq : vN q := hv q (List.mem_of_getElem? hq)
  obtain ⟨c1, c2, c3, c4⟩ := (hP.2.2.2.1 f hf).2 i q hq
  have hin : vp_in (nI (f * 40 + i)) 480 := vp_in_nI (by omega) (by decide)
  have hcl : (nI (f * 40 + i)).toNatClampNeg = f * 40 + i := nI_clamp (by omega)
  have h1 := hV.1
  obtain ⟨o, a, b, c⟩ := q
  replace ho : o = 0 ∨ o = 1 ∨ o = 2 ∨ o = 9 ∨ o = 10 := ho
  have ha : vR a := by
    rcases ho with rfl | rfl | rfl | rfl | rfl
    · exact hvq.1
    · exact hvq.1
    · exact hvq.1
    · exact hvq.1
    · exact hvq.1
  obtain ⟨ra, hra, rfl, era⟩ := vR_n ha
  refine xE_of [some (.ref 16), some (.int (nI (f * 40 + i))), some (.int (nI (f * 41 + i))), none, none] (by decide +kernel) (Nat.le_of_ble_eq_true rfl) rfl ?_
  refine xF_go o_Re_makeSimple [] 60 (fun K hK => ?_)
  repeat' ((conv => whnf); first | refine ⟨fun h => ?_, fun h => ?_⟩ | refine ⟨?_, ?_⟩ | refine hK _ _ _ _ ?_)
  · exact hin
  · exact hin
  · rw [hcl, c2, c3]
    refine xF_callS o_Re_makeSimple [.int (nI (f * 41 + i)), .int (nI ra)] rfl z_Re_setAt s_Re_setAt l_Re_95 rfl ⟨⟨by decide, by decide⟩, rfl, rfl⟩ (Nat.le_of_ble_eq_true rfl) rfl (E_setAt l G (nI (f * 41 + i)) (nI ra) M) ?_
    rintro v M' ⟨rfl, rfl⟩
    rw [set_n]
    clear hK K
    refine xF_go o_Re_makeSimple [34] 60 (fun K hK => ?_)
    repeat' ((conv => whnf); first | refine ⟨fun h => ?_, fun h => ?_⟩ | refine ⟨?_, ?_⟩ | refine hK _ _ _ _ ?_)
    · exact hin
    · rw [hcl, c1]
      clear hK K c1 c2 c3 
      refine xF_go o_Re_makeSimple [76, 87, 104, 121, 166] 60 (fun K hK => ?_)
      repeat' ((conv => whnf); first | refine ⟨fun h => ?_, fun h => ?_⟩ | refine ⟨?_, ?_⟩ | refine hK _ _ _ _ ?_)
      · obtain rfl : o = 0 := nI_inj (by omega) (by decide) (show nI o = nI 0 from by assumption)
        clear hK K
        obtain ⟨vb, hvb, rfl, evb⟩ := vO_n hvq.2.1
        refine xF_go o_Re_makeSimple [] 60 (fun K hK => ?_)
        repeat' ((conv => whnf); first | refine ⟨fun h => ?_, fun h => ?_⟩ | refine ⟨?_, ?_⟩ | refine hK _ _ _ _ ?_)
        refine xF_callS o_Re_makeSimple [.ref 26, .int (nI vb)] rfl z_OS_makeOnly s_OS_makeOnly l_Re_148 rfl ⟨⟨by decide, by decide⟩, rfl, rfl⟩ (Nat.le_of_ble_eq_true rfl) rfl (E_makeOnly l G vb hvb M') ?_
        rintro v M ⟨rfl, hfr, hX⟩
        clear hK K
        refine xF_go o_Re_makeSimple [] 60 (fun K hK => ?_)
        repeat' ((conv => whnf); first | refine ⟨fun h => ?_, fun h => ?_⟩ | refine ⟨?_, ?_⟩ | refine hK _ _ _ _ ?_)
        refine xF_vret o_Re_makeSimple rfl rfl ?_
        refine ⟨rfl, cV_fr hfr (by decide) hV, fun v hv => ?_, hfr.mono (by simp)⟩
        rw [hX v hv, decide_eq_true_iff]
        show v = vb ↔ v = ix (nI vb)
        rw [evb]
      · obtain rfl : o = 1 := nI_inj (by omega) (by decide) (show nI o = nI 1 from by assumption)
        clear hK K
        obtain ⟨vb, hvb, rfl, evb⟩ := vD_n hvq.2.1
        refine xF_go o_Re_makeSimple [] 60 (fun K hK => ?_)
        repeat' ((conv => whnf); first | refine ⟨fun h => ?_, fun h => ?_⟩ | refine ⟨?_, ?_⟩ | refine hK _ _ _ _ ?_)
        refine xF_callS o_Re_makeSimple [.ref 26, .ref 21, .int (nI ((f * 41 + i) * 16 + ra * 4)), .int (nI vb - 255)] rfl z_OS_makeSums s_OS_makeSums l_Re_206 rfl ⟨⟨by decide, by decide⟩, rfl, rfl⟩ (Nat.le_of_ble_eq_true rfl) rfl (E_makeSums l G vb hvb ((f * 41 + i) * 16 + ra * 4) (by omega) M') ?_
        rintro v M ⟨rfl, hfr, hX⟩
        clear hK K
        refine xF_go o_Re_makeSimple [] 60 (fun K hK => ?_)
        repeat' ((conv => whnf); first | refine ⟨fun h => ?_, fun h => ?_⟩ | refine ⟨?_, ?_⟩ | refine hK _ _ _ _ ?_)
        refine xF_vret o_Re_makeSimple rfl rfl ?_
        refine ⟨rfl, cV_fr hfr (by decide) hV, fun v hv => ?_, hfr.mono (by simp)⟩
        rw [hX v hv]
        show _ ↔ ∃ u, u < 256 ∧ vS V f i (ix (nI ra)) u ∧ (u + ix (nI vb - 255 + 255) + 1) % 256 = v
        rw [era, evb]
        exact ⟨fun ⟨u, z1, z2, z3⟩ => ⟨u, z1, (h1 f hf i (by omega) ra hra u z1).mp z2, z3⟩, fun ⟨u, z1, z2, z3⟩ => ⟨u, z1, (h1 f hf i (by omega) ra hra u z1).mpr z2, z3⟩⟩
      · obtain rfl : o = 2 := nI_inj (by omega) (by decide) (show nI o = nI 2 from by assumption)
        clear hK K
        obtain ⟨vb, hvb, rfl, evb⟩ := vO_n hvq.2.1
        refine xF_go o_Re_makeSimple [] 60 (fun K hK => ?_)
        repeat' ((conv => whnf); first | refine ⟨fun h => ?_, fun h => ?_⟩ | refine ⟨?_, ?_⟩ | refine hK _ _ _ _ ?_)
        refine xF_callS o_Re_makeSimple [.ref 26, .ref 21, .int (nI ((f * 41 + i) * 16 + ra * 4)), .int (nI vb)] rfl z_OS_makeMasked s_OS_makeMasked l_Re_210 rfl ⟨⟨by decide, by decide⟩, rfl, rfl⟩ (Nat.le_of_ble_eq_true rfl) rfl (E_makeMasked l G vb hvb ((f * 41 + i) * 16 + ra * 4) (by omega) M') ?_
        rintro v M ⟨rfl, hfr, hX⟩
        clear hK K
        refine xF_go o_Re_makeSimple [] 60 (fun K hK => ?_)
        repeat' ((conv => whnf); first | refine ⟨fun h => ?_, fun h => ?_⟩ | refine ⟨?_, ?_⟩ | refine hK _ _ _ _ ?_)
        refine xF_vret o_Re_makeSimple rfl rfl ?_
        refine ⟨rfl, cV_fr hfr (by decide) hV, fun v hv => ?_, hfr.mono (by simp)⟩
        rw [hX v hv]
        show _ ↔ ∃ u, u < 256 ∧ vS V f i (ix (nI ra)) u ∧ u &&& ix (nI vb) = v
        rw [era, evb]
        exact ⟨fun ⟨u, z1, z2, z3⟩ => ⟨u, z1, (h1 f hf i (by omega) ra hra u z1).mp z2, z3⟩, fun ⟨u, z1, z2, z3⟩ => ⟨u, z1, (h1 f hf i (by omega) ra hra u z1).mpr z2, z3⟩⟩
      · obtain rfl : o = 10 := nI_inj (by omega) (by decide) (show nI o = nI 10 from by assumption)
        clear hK K
        obtain ⟨k, hk, rfl, ek⟩ := vT_n hvq.2.1
        obtain ⟨k2, hk2, rfl, ek2⟩ := vT_n hvq.2.2
        refine xF_go o_Re_makeSimple [] 60 (fun K hK => ?_)
        repeat' ((conv => whnf); first | refine ⟨fun h => ?_, fun h => ?_⟩ | refine ⟨?_, ?_⟩ | refine hK _ _ _ _ ?_)
        · exact hin
        · rw [hcl, c4]
          refine xF_callV o_Re_makeSimple [.int (nI k), .int (nI k2)] rfl z_Re_compare i_Re_compare v_Re_compare l_Re_213 rfl ⟨⟨by decide, by decide⟩, rfl, rfl⟩ (Nat.le_of_ble_eq_true rfl) rfl rfl rfl (E_compare l G P V M' hV k k2 hk hk2) ?_
          rintro v M ⟨rfl, hV2, hfr⟩
          replace c4 : M.1 13 (f * 40 + i) = nI k2 := (congrFun (hfr 13 (by decide)).1 _).trans c4
          clear hK K
          by_cases e : k = k2
          · subst e
            refine xF_go o_Re_makeSimple [] 60 (fun K hK => ?_)
            repeat' ((conv => whnf); first | refine ⟨fun h => ?_, fun h => ?_⟩ | refine ⟨?_, ?_⟩ | refine hK _ _ _ _ ?_)
            · exact hin
            · refine absurd ?_ (show ¬ nI k = M.1 13 (nI (f * 40 + i)).toNatClampNeg from by assumption)
              rw [hcl, c4]
            · refine xF_callS o_Re_makeSimple [.int 1] rfl z_DS_asNumber s_DS_asNumber l_Re_216 rfl ⟨⟨by decide, by decide⟩, rfl, rfl⟩ (Nat.le_of_ble_eq_true rfl) rfl (E_asNumber l G 1 M) ?_
              rintro v M2 ⟨rfl, rfl⟩
              clear hK K
              refine xF_go o_Re_makeSimple [] 60 (fun K hK => ?_)
              repeat' ((conv => whnf); first | refine ⟨fun h => ?_, fun h => ?_⟩ | refine ⟨?_, ?_⟩ | refine hK _ _ _ _ ?_)
              refine xF_callS o_Re_makeSimple [.ref 26, .int (nI 1)] rfl z_OS_makeOnly s_OS_makeOnly l_Re_148 rfl ⟨⟨by decide, by decide⟩, rfl, rfl⟩ (Nat.le_of_ble_eq_true rfl) rfl (E_makeOnly l G 1 (by omega) M2) ?_
              rintro v M3 ⟨rfl, hfr3, hX⟩
              clear hK K
              refine xF_go o_Re_makeSimple [] 60 (fun K hK => ?_)
              repeat' ((conv => whnf); first | refine ⟨fun h => ?_, fun h => ?_⟩ | refine ⟨?_, ?_⟩ | refine hK _ _ _ _ ?_)
              refine xF_vret o_Re_makeSimple rfl rfl ?_
              refine ⟨rfl, ?_, fun v hv => ?_, (hfr.mono (by simp)).tr hfr3 (by simp)⟩
              · show cV P (vComp V (ix (nI k)) (ix (nI k))) M3
                rw [ek]
                exact cV_fr hfr3 (by decide) hV2
              · show _ ↔ ((ix (nI k) = ix (nI k) ∧ v = 1) ∨ (¬ ix (nI k) = ix (nI k) ∧ v = 0))
                rw [hX v hv, decide_eq_true_iff]
                simp
          · have hne : ¬ nI k = nI k2 := fun z => e (nI_inj (by omega) (by omega) z)
            refine xF_go o_Re_makeSimple [] 60 (fun K hK => ?_)
            repeat' ((conv => whnf); first | refine ⟨fun h => ?_, fun h => ?_⟩ | refine ⟨?_, ?_⟩ | refine hK _ _ _ _ ?_)
            · exact hin
            · refine xF_callS o_Re_makeSimple [.int 0] rfl z_DS_asNumber s_DS_asNumber l_Re_216 rfl ⟨⟨by decide, by decide⟩, rfl, rfl⟩ (Nat.le_of_ble_eq_true rfl) rfl (E_asNumber l G 0 M) ?_
              rintro v M2 ⟨rfl, rfl⟩
              clear hK K
              refine xF_go o_Re_makeSimple [] 60 (fun K hK => ?_)
              repeat' ((conv => whnf); first | refine ⟨fun h => ?_, fun h => ?_⟩ | refine ⟨?_, ?_⟩ | refine hK _ _ _ _ ?_)
              refine xF_callS o_Re_makeSimple [.ref 26, .int (nI 0)] rfl z_OS_makeOnly s_OS_makeOnly l_Re_148 rfl ⟨⟨by decide, by decide⟩, rfl, rfl⟩ (Nat.le_of_ble_eq_true rfl) rfl (E_makeOnly l G 0 (by omega) M2) ?_
              rintro v M3 ⟨rfl, hfr3, hX⟩
              clear hK K
              refine xF_go o_Re_makeSimple [] 60 (fun K hK => ?_)
              repeat' ((conv => whnf); first | refine ⟨fun h => ?_, fun h => ?_⟩ | refine ⟨?_, ?_⟩ | refine hK _ _ _ _ ?_)
              refine xF_vret o_Re_makeSimple rfl rfl ?_
              refine ⟨rfl, ?_, fun v hv => ?_, (hfr.mono (by simp)).tr hfr3 (by simp)⟩
              · show cV P (vComp V (ix (nI k)) (ix (nI k2))) M3
                rw [ek, ek2]
                exact cV_fr hfr3 (by decide) hV2
              · show _ ↔ ((ix (nI k) = ix (nI k2) ∧ v = 1) ∨ (¬ ix (nI k) = ix (nI k2) ∧ v = 0))
                rw [hX v hv, decide_eq_true_iff, ek, ek2]
                simp [e]
            · refine absurd ?_ hne
              have z : nI k = M.1 13 (nI (f * 40 + i)).toNatClampNeg := by assumption
              rw [hcl, c4] at z
              exact z
      · have ho9 : o = 9 := by
          have n0 : ¬ nI o = nI 0 := by assumption
          have n1 : ¬ nI o = nI 1 := by assumption
          have n2 : ¬ nI o = nI 2 := by assumption
          have n10 : ¬ nI o = nI 10 := by assumption
          rcases ho with rfl | rfl | rfl | rfl | rfl
          · exact absurd rfl n0
          · exact absurd rfl n1
          · exact absurd rfl n2
          · rfl
          · exact absurd rfl n10
        subst ho9
        clear hK K
        refine xF_go o_Re_makeSimple [] 60 (fun K hK => ?_)
        repeat' ((conv => whnf); first | refine ⟨fun h => ?_, fun h => ?_⟩ | refine ⟨?_, ?_⟩ | refine hK _ _ _ _ ?_)
        refine xF_callS o_Re_makeSimple [.ref 26, .long (-1)] rfl z_JA_fill2 s_JA_fill2 l_Re_106 rfl ⟨⟨by decide, by decide⟩, rfl, rfl⟩ (Nat.le_of_ble_eq_true rfl) rfl (E_fill2 l G 26 (by simp) (-1) M') ?_
        rintro v M ⟨rfl, rfl⟩
        clear hK K
        refine xF_go o_Re_makeSimple [] 60 (fun K hK => ?_)
        repeat' ((conv => whnf); first | refine ⟨fun h => ?_, fun h => ?_⟩ | refine ⟨?_, ?_⟩ | refine hK _ _ _ _ ?_)
        refine xF_vret o_Re_makeSimple rfl rfl ?_
        refine ⟨rfl, cV_fr (S := [26]) (xfr.rf.L (by simp)) (by decide) hV, fun v hv => ?_, xfr.rf.L (by simp)⟩
        show xbit (if 0 + v / 64 < 4 then (-1 : Int64) else M'.2 26 (0 + v / 64)) (v % 64) = true ↔ True
        rw [if_pos (by omega), xbit_m1, decide_eq_true_iff]
        exact ⟨fun _ => trivial, fun _ => by omega⟩
theorem E_takeCall (P : sP) (V : sV) (M : xMe) (hV : cV P V M) (hk : cK P M) (hw : wP P) (f i g : Nat) (hf : f < 12) (hi : i < 40) (hg : g < 12) : xE l G y_Re_takeCall [.ref 16, .int (nI f), .int (nI i), .int (nI g)] M (fun v M' => v = none ∧ (∃ V', (∃ V1, V1 = vAdd (vLnk V f g) g (place P g 0) (vS V f i) ∧ ((vC V1 g 40 ∧ V' = vAdd V1 f (place P f (nI i + 1)) (vS V1 g 40)) ∨ (¬ vC V1 g 40 ∧ V' = V1))) ∧ cV P V' M') ∧ xfr [18, 21, 23, 24] M M') := by
  obtain ⟨h1, h2, h3, h4, h5, h6, h7, h8⟩ := hV
  refine xE_of [some (.ref 16), some (.int (nI f)), some (.int (nI i)), some (.int (nI g))] (by decide +kernel) (Nat.le_of_ble_eq_true rfl) rfl ?_
  refine xF_go o_Re_takeCall [] 60 (fun K hK => ?_)
  repeat' ((conv => whnf); first | refine ⟨fun h => ?_, fun h => ?_⟩ | refine ⟨?_, ?_⟩ | refine hK _ _ _ _ ?_)
  refine xF_callV o_Re_takeCall [.int (nI f), .int (nI g)] rfl z_Ch_link i_Ch_link v_Ch_link l_Re_220 rfl ⟨⟨by decide, by decide⟩, rfl, rfl⟩ (Nat.le_of_ble_eq_true rfl) rfl rfl rfl (E_link l G f g (by omega) (by omega) M) ?_
  rintro v M1 ⟨rfl, rfl⟩
  have hfr1 : xfr [18, 21, 23, 24] M (xsL M 18 (vp_updL (M.2 18) f (M.2 18 f ||| (1 : Int64) <<< ((nI g).toInt64 &&& 63)))) := xfr.rf.L (by simp)
  have hV1 : cV P (vLnk V f g) (xsL M 18 (vp_updL (M.2 18) f (M.2 18 f ||| (1 : Int64) <<< ((nI g).toInt64 &&& 63)))) := by
    refine ⟨h1, h2, h3, h4, h5, h6, h7, fun a ha b hb => ?_⟩
    show xbit (vp_updL (M.2 18) f (M.2 18 f ||| (1 : Int64) <<< ((nI g).toInt64 &&& 63)) a) b = true ↔ (vLk V a b ∨ (a = f ∧ b = g))
    rw [bit_upd (by omega), Bool.or_eq_true, decide_eq_true_iff, h8 a ha b hb]
  generalize xsL M 18 (vp_updL (M.2 18) f (M.2 18 f ||| (1 : Int64) <<< ((nI g).toInt64 &&& 63))) = M1 at hfr1 hV1
  have hk1 := cK_fr hfr1 (by decide) hk
  clear hK K
  refine xF_go o_Re_takeCall [] 60 (fun K hK => ?_)
  repeat' ((conv => whnf); first | refine ⟨fun h => ?_, fun h => ?_⟩ | refine ⟨?_, ?_⟩ | refine hK _ _ _ _ ?_)
  refine xF_callS o_Re_takeCall [.int (nI f), .int (nI i)] rfl z_Re_slotOf s_Re_slotOf l_Re_91 rfl ⟨⟨by decide, by decide⟩, rfl, rfl⟩ (Nat.le_of_ble_eq_true rfl) rfl (E_slotOf l G (nI f) (nI i) M1) ?_
  rintro v M2 ⟨rfl, rfl⟩
  rw [slot_n]
  clear hK K
  refine xF_go o_Re_takeCall [] 60 (fun K hK => ?_)
  repeat' ((conv => whnf); first | refine ⟨fun h => ?_, fun h => ?_⟩ | refine ⟨?_, ?_⟩ | refine hK _ _ _ _ ?_)
  refine xF_callV o_Re_takeCall [.int (nI (f * 41 + i)), .int (nI g), .int 0, .int (-1)] rfl z_Re_flow i_Re_flow v_Re_flow l_Re_182 rfl ⟨⟨by decide, by decide⟩, rfl, rfl⟩ (Nat.le_of_ble_eq_true rfl) rfl rfl rfl (E_flowN l G P _ M2 hV1 hk1 hw f i g hf (by omega) hg 0) ?_
  rintro v M3 ⟨rfl, hV3, hfr3⟩
  have hk3 := cK_fr hfr3 (by decide) hk1
  clear hK K
  have hcl : (nI g).toNatClampNeg = g := nI_clamp (by omega)
  refine xF_go o_Re_takeCall [] 60 (fun K hK => ?_)
  repeat' ((conv => whnf); first | refine ⟨fun h => ?_, fun h => ?_⟩ | refine ⟨?_, ?_⟩ | refine hK _ _ _ _ ?_)
  · exact vp_in_nI hg (by decide)
  · have h0 : lg_cmp (((M3.2 23 (nI g).toNatClampNeg).toUInt64 >>> ((nI 40).toInt64.toUInt64 &&& Int64.toUInt64 63)).toInt64 &&& 1) 0 = 0 := by assumption
    rw [hcl, xcmp0, xbit_test _ (by omega)] at h0
    refine xF_vret o_Re_takeCall rfl rfl ?_
    refine ⟨rfl, ⟨_, ⟨_, rfl, Or.inr ⟨fun z => ?_, rfl⟩⟩, hV3⟩, hfr1.tr hfr3 (by simp)⟩
    rw [(hV3.2.2.1 g hg 40 (by omega)).mpr z] at h0
    cases h0
  · have h0 : ¬ lg_cmp (((M3.2 23 (nI g).toNatClampNeg).toUInt64 >>> ((nI 40).toInt64.toUInt64 &&& Int64.toUInt64 63)).toInt64 &&& 1) 0 = 0 := by assumption
    rw [hcl, xcmp0, xbit_test _ (by omega)] at h0
    have hc : vC (vAdd (vLnk V f g) g (place P g 0) (vS V f i)) g 40 := by
      refine (hV3.2.2.1 g hg 40 (by omega)).mp ?_
      cases e : xbit (M3.2 23 g) 40 with
      | true => rfl
      | false => exact absurd e h0
    refine xF_callS o_Re_takeCall [.int (nI g), .int (nI 40)] rfl z_Re_slotOf s_Re_slotOf l_Re_91 rfl ⟨⟨by decide, by decide⟩, rfl, rfl⟩ (Nat.le_of_ble_eq_true rfl) rfl (E_slotOf l G (nI g) (nI 40) M3) ?_
    rintro v M2 ⟨rfl, rfl⟩
    rw [slot_n]
    clear hK K
    refine xF_go o_Re_takeCall [] 60 (fun K hK => ?_)
    repeat' ((conv => whnf); first | refine ⟨fun h => ?_, fun h => ?_⟩ | refine ⟨?_, ?_⟩ | refine hK _ _ _ _ ?_)
    refine xF_callV o_Re_takeCall [.int (nI (g * 41 + 40)), .int (nI f), .int (nI i + 1), .int (-1)] rfl z_Re_flow i_Re_flow v_Re_flow l_Re_182 rfl ⟨⟨by decide, by decide⟩, rfl, rfl⟩ (Nat.le_of_ble_eq_true rfl) rfl rfl rfl (E_flowN l G P _ M2 hV3 hk3 hw g 40 f hg (by omega) hf (nI i + 1)) ?_
    rintro v M4 ⟨rfl, hV4, hfr4⟩
    clear hK K
    refine xF_go o_Re_takeCall [] 60 (fun K hK => ?_)
    repeat' ((conv => whnf); first | refine ⟨fun h => ?_, fun h => ?_⟩ | refine ⟨?_, ?_⟩ | refine hK _ _ _ _ ?_)
    refine xF_vret o_Re_takeCall rfl rfl ?_
    exact ⟨rfl, ⟨_, ⟨_, rfl, Or.inl ⟨hc, rfl⟩⟩, hV4⟩, (hfr1.tr hfr3 (by simp)).tr hfr4 (by simp)⟩
theorem E_takeNought (P : sP) (V : sV) (M : xMe) (hV : cV P V M) (hk : cK P M) (hw : wP P) (f i a : Nat) (hf : f < 12) (hi : i < 40) (ha : a < 4) (b : Int32) : xE l G y_Re_takeNought [.ref 16, .int (nI f), .int (nI i), .int (nI a), .int b] M (fun v M' => v = none ∧ (∃ V1, ((vS V f i a 0 ∧ V1 = vAdd V f (place P f (nI i + b + 1)) (rs (vS V f i) a (fun v => v = 0))) ∨ (¬ vS V f i a 0 ∧ V1 = V)) ∧ cV P V1 M') ∧ xfr [21, 23, 24, 26] M M') := by
  have h1 := hV.1
  refine xE_of [some (.ref 16), some (.int (nI f)), some (.int (nI i)), some (.int (nI a)), some (.int b), none] (by decide +kernel) (Nat.le_of_ble_eq_true rfl) rfl ?_
  refine xF_go o_Re_takeNought [] 60 (fun K hK => ?_)
  repeat' ((conv => whnf); first | refine ⟨fun h => ?_, fun h => ?_⟩ | refine ⟨?_, ?_⟩ | refine hK _ _ _ _ ?_)
  refine xF_callS o_Re_takeNought [.int (nI f), .int (nI i)] rfl z_Re_slotOf s_Re_slotOf l_Re_91 rfl ⟨⟨by decide, by decide⟩, rfl, rfl⟩ (Nat.le_of_ble_eq_true rfl) rfl (E_slotOf l G (nI f) (nI i) M) ?_
  rintro v M2 ⟨rfl, rfl⟩
  rw [slot_n]
  clear hK K
  refine xF_go o_Re_takeNought [] 60 (fun K hK => ?_)
  repeat' ((conv => whnf); first | refine ⟨fun h => ?_, fun h => ?_⟩ | refine ⟨?_, ?_⟩ | refine hK _ _ _ _ ?_)
  refine xF_callS o_Re_takeNought [.int (nI (f * 41 + i)), .int (nI a)] rfl z_Re_setAt s_Re_setAt l_Re_95 rfl ⟨⟨by decide, by decide⟩, rfl, rfl⟩ (Nat.le_of_ble_eq_true rfl) rfl (E_setAt l G (nI (f * 41 + i)) (nI a) M2) ?_
  rintro v M ⟨rfl, rfl⟩
  rw [set_n]
  clear hK K
  have hcl : (nI ((f * 41 + i) * 16 + a * 4)).toNatClampNeg = (f * 41 + i) * 16 + a * 4 := nI_clamp (by omega)
  have hb0 : M.2 21 ((f * 41 + i) * 16 + a * 4) &&& 1 = 0 ↔ ¬ vS V f i a 0 := by
    rw [← h1 f hf i (by omega) a ha 0 (by omega), shas_low _ _ (by omega), xbit_zero]
    constructor
    · intro z z2
      have := z 0 (by omega)
      rw [xbit_and, z2, xbit_one] at this
      cases this
    · intro z q hq
      rw [xbit_and, xbit_one]
      by_cases e : q = 0
      · subst e
        cases e2 : xbit (M.2 21 ((f * 41 + i) * 16 + a * 4)) 0 with
        | false => rfl
        | true => exact absurd e2 z
      · simp [e]
  refine xF_go o_Re_takeNought [] 60 (fun K hK => ?_)
  repeat' ((conv => whnf); first | refine ⟨fun h => ?_, fun h => ?_⟩ | refine ⟨?_, ?_⟩ | refine hK _ _ _ _ ?_)
  · exact vp_in_nI (N := 7872) (by omega) (by decide)
  · have h0 : lg_cmp (M.2 21 (nI ((f * 41 + i) * 16 + a * 4)).toNatClampNeg &&& 1) 0 = 0 := by assumption
    rw [hcl, xcmp0, hb0] at h0
    refine xF_vret o_Re_takeNought rfl rfl ?_
    exact ⟨rfl, ⟨V, Or.inr ⟨h0, rfl⟩, hV⟩, xfr.rf⟩
  · have h0 : ¬ lg_cmp (M.2 21 (nI ((f * 41 + i) * 16 + a * 4)).toNatClampNeg &&& 1) 0 = 0 := by assumption
    rw [hcl, xcmp0, hb0] at h0
    refine xF_callS o_Re_takeNought [.ref 26, .int (nI 0)] rfl z_OS_makeOnly s_OS_makeOnly l_Re_148 rfl ⟨⟨by decide, by decide⟩, rfl, rfl⟩ (Nat.le_of_ble_eq_true rfl) rfl (E_makeOnly l G 0 (by omega) M) ?_
    rintro v M' ⟨rfl, hfr, hX⟩
    clear hK K
    refine xF_go o_Re_takeNought [] 60 (fun K hK => ?_)
    repeat' ((conv => whnf); first | refine ⟨fun h => ?_, fun h => ?_⟩ | refine ⟨?_, ?_⟩ | refine hK _ _ _ _ ?_)
    refine xF_callV o_Re_takeNought [.int (nI (f * 41 + i)), .int (nI f), .int (nI i + b + 1), .int (nI a)] rfl z_Re_flow i_Re_flow v_Re_flow l_Re_182 rfl ⟨⟨by decide, by decide⟩, rfl, rfl⟩ (Nat.le_of_ble_eq_true rfl) rfl rfl rfl (E_flowR l G P V M' (cV_fr hfr (by decide) hV) (cK_fr hfr (by decide) hk) hw f i f hf (by omega) hf (nI i + b + 1) a ha (fun v => v = 0) (fun v hv => by rw [hX v hv, decide_eq_true_iff])) ?_
    rintro v M4 ⟨rfl, hV4, hfr4⟩
    clear hK K
    refine xF_go o_Re_takeNought [] 60 (fun K hK => ?_)
    repeat' ((conv => whnf); first | refine ⟨fun h => ?_, fun h => ?_⟩ | refine ⟨?_, ?_⟩ | refine hK _ _ _ _ ?_)
    refine xF_vret o_Re_takeNought rfl rfl ?_
    exact ⟨rfl, ⟨_, Or.inl ⟨Classical.byContradiction h0, rfl⟩, hV4⟩, (hfr.mono (by simp)).tr hfr4 (by simp)⟩
theorem E_takeOn (P : sP) (V : sV) (M : xMe) (hP : cP P M) (hV : cV P V M) (hk : cK P M) (hw : wP P) (f i : Nat) (hf : f < 12) (hi : i < 41) : xE l G y_Re_takeOn [.ref 16, .int (nI f), .int (nI i)] M (fun v M' => v = none ∧ (∃ V', tk P V f i V' ∧ cV P V' M') ∧ xfr [18, 21, 22, 23, 24, 26, 27, 28, 29] M M') := by
  obtain ⟨hl40, hv⟩ := hw.2.2.2.1 f hf
  have hlen := hk.1 f hf
  have hclf : (nI f).toNatClampNeg = f := nI_clamp (by omega)
  refine xE_of [some (.ref 16), some (.int (nI f)), some (.int (nI i)), none, none, none, none, none] (by decide +kernel) (Nat.le_of_ble_eq_true rfl) rfl ?_
  refine xF_go o_Re_takeOn [16] 60 (fun K hK => ?_)
  repeat' ((conv => whnf); first | refine ⟨fun h => ?_, fun h => ?_⟩ | refine ⟨?_, ?_⟩ | refine hK _ _ _ _ ?_)
  · exact vp_in_nI hf (by decide)
  · have hlt : nI i < M.1 20 (nI f).toNatClampNeg := by assumption
    rw [hclf, hlen, nI_ltI (by omega) (by omega)] at hlt
    clear hK K
    have hq := List.getElem?_eq_getElem hlt
    generalize (pC P f)[i] = q at hq
    have hvq : vN q := hv q (List.mem_of_getElem? hq)
    have hq12 := vN_le hvq
    have htk : ∀ V', tkq P V f i q V' → tk P V f i V' := by
      intro V' z
      unfold tk
      rw [hq]
      exact z
    obtain ⟨c1, c2, c3, c4⟩ := (hP.2.2.2.1 f hf).2 i q hq
    have e40 : nI f * 40 + nI i = nI (f * 40 + i) := by rw [nI_40, nI_add]
    have hin : vp_in (nI f * 40 + nI i) 480 := by rw [e40]; exact vp_in_nI (by omega) (by decide)
    have hcl : (nI f * 40 + nI i).toNatClampNeg = f * 40 + i := by rw [e40]; exact nI_clamp (by omega)
    refine xF_go o_Re_takeOn [] 60 (fun K hK => ?_)
    repeat' ((conv => whnf); first | refine ⟨fun h => ?_, fun h => ?_⟩ | refine ⟨?_, ?_⟩ | refine hK _ _ _ _ ?_)
    refine xF_callS o_Re_takeOn [.int (nI f), .int (nI i)] rfl z_Re_slotOf s_Re_slotOf l_Re_91 rfl ⟨⟨by decide, by decide⟩, rfl, rfl⟩ (Nat.le_of_ble_eq_true rfl) rfl (E_slotOf l G (nI f) (nI i) M) ?_
    rintro v M2 ⟨rfl, rfl⟩
    rw [slot_n]
    clear hK K
    refine xF_go o_Re_takeOn [76] 60 (fun K hK => ?_)
    repeat' ((conv => whnf); first | refine ⟨fun h => ?_, fun h => ?_⟩ | refine ⟨?_, ?_⟩ | refine hK _ _ _ _ ?_)
    · exact hin
    · exact hin
    · exact hin
    · exact hin
    rw [hcl, c1, c2, c3, c4]
    clear hK K c1 c2 c3 c4
    obtain ⟨o, a, b, c⟩ := q
    replace hq12 : o < 12 := hq12
    have hsim : (o = 0 ∨ o = 1 ∨ o = 2 ∨ o = 9 ∨ o = 10) → xF l G y_Re_takeOn 279 [some (.ref 16), some (.int (nI f)), some (.int (nI i)), some (.int (nI (f * 41 + i))), some (.int (nI f * 40 + nI i)), some (.int a), some (.int b), some (.int c)] [] M2 (fun v M' => v = none ∧ (∃ V', tk P V f i V' ∧ cV P V' M') ∧ xfr [18, 21, 22, 23, 24, 26, 27, 28, 29] M2 M') := by
      intro ho
      have ha : vR a := by
        rcases ho with rfl | rfl | rfl | rfl | rfl
        · exact hvq.1
        · exact hvq.1
        · exact hvq.1
        · exact hvq.1
        · exact hvq.1
      obtain ⟨ra, hra, rfl, era⟩ := vR_n ha
      rw [e40]
      refine xF_go o_Re_takeOn [] 60 (fun K hK => ?_)
      repeat' ((conv => whnf); first | refine ⟨fun h => ?_, fun h => ?_⟩ | refine ⟨?_, ?_⟩ | refine hK _ _ _ _ ?_)
      refine xF_callV o_Re_takeOn [.int (nI (f * 40 + i)), .int (nI (f * 41 + i))] rfl z_Re_makeSimple i_Re_makeSimple v_Re_makeSimple l_Re_203 rfl ⟨⟨by decide, by decide⟩, rfl, rfl⟩ (Nat.le_of_ble_eq_true rfl) rfl rfl rfl (E_makeSimple l G P V M2 hP hV hw f i hf _ hq ho) ?_
      rintro v M3 ⟨rfl, hV3, hX, hfr⟩
      clear hK K
      refine xF_go o_Re_takeOn [] 60 (fun K hK => ?_)
      repeat' ((conv => whnf); first | refine ⟨fun h => ?_, fun h => ?_⟩ | refine ⟨?_, ?_⟩ | refine hK _ _ _ _ ?_)
      refine xF_callV o_Re_takeOn [.int (nI (f * 41 + i)), .int (nI f), .int (nI i + 1), .int (nI ra)] rfl z_Re_flow i_Re_flow v_Re_flow l_Re_182 rfl ⟨⟨by decide, by decide⟩, rfl, rfl⟩ (Nat.le_of_ble_eq_true rfl) rfl rfl rfl (E_flowR l G P _ M3 hV3 (cK_fr hfr (by decide) hk) hw f i f hf hi hf (nI i + 1) ra hra _ hX) ?_
      rintro v M4 ⟨rfl, hV4, hfr4⟩
      clear hK K
      refine xF_go o_Re_takeOn [] 60 (fun K hK => ?_)
      repeat' ((conv => whnf); first | refine ⟨fun h => ?_, fun h => ?_⟩ | refine ⟨?_, ?_⟩ | refine hK _ _ _ _ ?_)
      refine xF_vret o_Re_takeOn rfl rfl ?_
      refine ⟨rfl, ⟨_, htk _ ?_, hV4⟩, (hfr.mono (by simp)).tr hfr4 (by simp)⟩
      have era' : ix (nI ra) = ra := era
      rcases ho with rfl | rfl | rfl | rfl | rfl
      · show _ = vAdd V f (place P f (nI i + 1)) (rs (vS V f i) (ix (nI ra)) _)
        rw [era']
        rfl
      · show _ = vAdd V f (place P f (nI i + 1)) (rs (vS V f i) (ix (nI ra)) _)
        rw [era']
        show vAdd V f (place P f (nI i + 1)) (rs (vS V f i) ra (fun v => ∃ u, u < 256 ∧ vS V f i (ix (nI ra)) u ∧ (u + ix (b + 255) + 1) % 256 = v)) = _
        rw [era']
      · show _ = vAdd V f (place P f (nI i + 1)) (rs (vS V f i) (ix (nI ra)) _)
        rw [era']
        show vAdd V f (place P f (nI i + 1)) (rs (vS V f i) ra (fun v => ∃ u, u < 256 ∧ vS V f i (ix (nI ra)) u ∧ u &&& ix b = v)) = _
        rw [era']
      · show _ = vAdd V f (place P f (nI i + 1)) (rs (vS V f i) (ix (nI ra)) _)
        rw [era']
        rfl
      · show _ = vAdd (vComp V (ix b) (ix c)) f (place P f (nI i + 1)) (rs (vS V f i) (ix (nI ra)) _)
        rw [era']
        rfl
    refine xF_go o_Re_takeOn [128, 155, 166, 179, 191, 225, 252, 279] 60 (fun K hK => ?_)
    repeat' ((conv => whnf); first | refine ⟨fun h => ?_, fun h => ?_⟩ | refine ⟨?_, ?_⟩ | refine hK _ _ _ _ ?_)
    · obtain rfl : o = 3 := nI_inj (by omega) (by decide) (show nI o = nI 3 from by assumption)
      clear hK K
      obtain ⟨ra, hra, rfl, era⟩ := vR_n hvq.1
      obtain ⟨k, hkk, rfl, ek⟩ := vT_n hvq.2.1
      obtain ⟨rc, hrc, rfl, erc⟩ := vR_n hvq.2.2
      refine xF_go o_Re_takeOn [] 60 (fun K hK => ?_)
      repeat' ((conv => whnf); first | refine ⟨fun h => ?_, fun h => ?_⟩ | refine ⟨?_, ?_⟩ | refine hK _ _ _ _ ?_)
      refine xF_callV o_Re_takeOn [.int (nI f), .int (nI (f * 41 + i)), .int (nI k), .int (nI rc)] rfl z_Re_takeLoad i_Re_takeLoad v_Re_takeLoad l_Re_197 rfl ⟨⟨by decide, by decide⟩, rfl, rfl⟩ (Nat.le_of_ble_eq_true rfl) rfl rfl rfl (E_takeLoad l G P V M2 hP hV hw f i k rc hf hi hkk hrc) ?_
      rintro v M3 ⟨b, rfl, hb1, hb2, hb3, hfr⟩
      clear hK K
      cases b with
      | false =>
        obtain rfl := hb2 rfl
        refine xF_go o_Re_takeOn [] 60 (fun K hK => ?_)
        repeat' ((conv => whnf); first | refine ⟨fun h => ?_, fun h => ?_⟩ | refine ⟨?_, ?_⟩ | refine hK _ _ _ _ ?_)
        all_goals first | exact absurd rfl (show ¬ b2 false = 0 from by assumption) | skip
        refine xF_vret o_Re_takeOn rfl rfl ?_
        refine ⟨rfl, ⟨V, htk _ (Or.inl ⟨fun z => ?_, rfl⟩), hV⟩, xfr.rf⟩
        replace z : ∃ p, p < pS P (ix (nI k)) ∧ vS V f i (ix (nI rc)) p := z
        rw [ek, erc] at z
        exact absurd (hb1.mpr z) (by decide)
      | true =>
        obtain ⟨hV3, hX⟩ := hb3 rfl
        refine xF_go o_Re_takeOn [] 60 (fun K hK => ?_)
        repeat' ((conv => whnf); first | refine ⟨fun h => ?_, fun h => ?_⟩ | refine ⟨?_, ?_⟩ | refine hK _ _ _ _ ?_)
        · exact absurd (show b2 true = 0 from by assumption) (by decide)
        · refine xF_callV o_Re_takeOn [.int (nI (f * 41 + i)), .int (nI f), .int (nI i + 1), .int (nI ra)] rfl z_Re_flow i_Re_flow v_Re_flow l_Re_182 rfl ⟨⟨by decide, by decide⟩, rfl, rfl⟩ (Nat.le_of_ble_eq_true rfl) rfl rfl rfl (E_flowR l G P _ M3 hV3 (cK_fr hfr (by decide) hk) hw f i f hf hi hf (nI i + 1) ra hra _ hX) ?_
          rintro v M4 ⟨rfl, hV4, hfr4⟩
          clear hK K
          refine xF_go o_Re_takeOn [] 60 (fun K hK => ?_)
          repeat' ((conv => whnf); first | refine ⟨fun h => ?_, fun h => ?_⟩ | refine ⟨?_, ?_⟩ | refine hK _ _ _ _ ?_)
          refine xF_vret o_Re_takeOn rfl rfl ?_
          refine ⟨rfl, ⟨_, htk _ (Or.inr ⟨?_, ?_⟩), hV4⟩, (hfr.mono (by simp)).tr hfr4 (by simp)⟩
          · show ∃ p, p < pS P (ix (nI k)) ∧ vS V f i (ix (nI rc)) p
            rw [ek, erc]
            exact hb1.mp rfl
          · show _ = vAdd (vLoad V f (ix (nI k)) (fun p => p < pS P (ix (nI k)) ∧ vS V f i (ix (nI rc)) p)) f (place P f (nI i + 1)) (rs (vS V f i) (ix (nI ra)) (fun v => ∃ p, (p < pS P (ix (nI k)) ∧ vS V f i (ix (nI rc)) p) ∧ vY V (ix (nI k)) p v))
            rw [era, ek, erc]
            rfl
    · obtain rfl : o = 4 := nI_inj (by omega) (by decide) (show nI o = nI 4 from by assumption)
      clear hK K
      obtain ⟨k, hkk, rfl, ek⟩ := vT_n hvq.1
      obtain ⟨rb, hrb, rfl, erb⟩ := vR_n hvq.2.1
      obtain ⟨rc, hrc, rfl, erc⟩ := vR_n hvq.2.2
      refine xF_go o_Re_takeOn [] 60 (fun K hK => ?_)
      repeat' ((conv => whnf); first | refine ⟨fun h => ?_, fun h => ?_⟩ | refine ⟨?_, ?_⟩ | refine hK _ _ _ _ ?_)
      refine xF_callV o_Re_takeOn [.int (nI (f * 41 + i)), .int (nI k), .int (nI rb), .int (nI rc)] rfl z_Re_takeStore i_Re_takeStore v_Re_takeStore l_Re_178 rfl ⟨⟨by decide, by decide⟩, rfl, rfl⟩ (Nat.le_of_ble_eq_true rfl) rfl rfl rfl (E_takeStore l G P V M2 hP hV hk hw f i k rb rc hf hi hkk hrb hrc) ?_
      rintro v M3 ⟨b, rfl, hb1, hb2, hb3, hfr⟩
      clear hK K
      cases b with
      | false =>
        obtain rfl := hb2 rfl
        refine xF_go o_Re_takeOn [] 60 (fun K hK => ?_)
        repeat' ((conv => whnf); first | refine ⟨fun h => ?_, fun h => ?_⟩ | refine ⟨?_, ?_⟩ | refine hK _ _ _ _ ?_)
        all_goals first | exact absurd rfl (show ¬ b2 false = 0 from by assumption) | skip
        refine xF_vret o_Re_takeOn rfl rfl ?_
        refine ⟨rfl, ⟨V, htk _ (Or.inl ⟨fun z => ?_, rfl⟩), hV⟩, xfr.rf⟩
        replace z : ∃ p, p < pS P (ix (nI k)) ∧ vS V f i (ix (nI rb)) p := z
        rw [ek, erb] at z
        exact absurd (hb1.mpr z) (by decide)
      | true =>
        have hV3 := hb3 rfl
        refine xF_go o_Re_takeOn [] 60 (fun K hK => ?_)
        repeat' ((conv => whnf); first | refine ⟨fun h => ?_, fun h => ?_⟩ | refine ⟨?_, ?_⟩ | refine hK _ _ _ _ ?_)
        · exact absurd (show b2 true = 0 from by assumption) (by decide)
        · refine xF_callV o_Re_takeOn [.int (nI (f * 41 + i)), .int (nI f), .int (nI i + 1), .int (-1)] rfl z_Re_flow i_Re_flow v_Re_flow l_Re_182 rfl ⟨⟨by decide, by decide⟩, rfl, rfl⟩ (Nat.le_of_ble_eq_true rfl) rfl rfl rfl (E_flowN l G P _ M3 hV3 (cK_fr hfr (by decide) hk) hw f i f hf hi hf (nI i + 1)) ?_
          rintro v M4 ⟨rfl, hV4, hfr4⟩
          clear hK K
          refine xF_go o_Re_takeOn [] 60 (fun K hK => ?_)
          repeat' ((conv => whnf); first | refine ⟨fun h => ?_, fun h => ?_⟩ | refine ⟨?_, ?_⟩ | refine hK _ _ _ _ ?_)
          refine xF_vret o_Re_takeOn rfl rfl ?_
          refine ⟨rfl, ⟨_, htk _ (Or.inr ⟨?_, ?_⟩), hV4⟩, (hfr.mono (by simp)).tr hfr4 (by simp)⟩
          · show ∃ p, p < pS P (ix (nI k)) ∧ vS V f i (ix (nI rb)) p
            rw [ek, erb]
            exact hb1.mp rfl
          · show _ = vAdd (vStore P V (ix (nI k)) (fun p => p < pS P (ix (nI k)) ∧ vS V f i (ix (nI rb)) p) (vS V f i (ix (nI rc)))) f (place P f (nI i + 1)) (vS V f i)
            rw [ek, erb, erc]
            rfl
    · obtain rfl : o = 5 := nI_inj (by omega) (by decide) (show nI o = nI 5 from by assumption)
      clear hK K
      obtain ⟨g, hg, rfl, eg⟩ := vF_n hvq.1
      refine xF_go o_Re_takeOn [] 60 (fun K hK => ?_)
      repeat' ((conv => whnf); first | refine ⟨fun h => ?_, fun h => ?_⟩ | refine ⟨?_, ?_⟩ | refine hK _ _ _ _ ?_)
      refine xF_callV o_Re_takeOn [.int (nI f), .int (nI i), .int (nI g)] rfl z_Re_takeCall i_Re_takeCall v_Re_takeCall l_Re_186 rfl ⟨⟨by decide, by decide⟩, rfl, rfl⟩ (Nat.le_of_ble_eq_true rfl) rfl rfl rfl (E_takeCall l G P V M2 hV hk hw f i g hf (by omega) hg) ?_
      rintro v M3 ⟨rfl, ⟨V', ht, hV'⟩, hfr⟩
      clear hK K
      refine xF_go o_Re_takeOn [] 60 (fun K hK => ?_)
      repeat' ((conv => whnf); first | refine ⟨fun h => ?_, fun h => ?_⟩ | refine ⟨?_, ?_⟩ | refine hK _ _ _ _ ?_)
      refine xF_vret o_Re_takeOn rfl rfl ?_
      refine ⟨rfl, ⟨V', htk _ ?_, hV'⟩, hfr.mono (by simp)⟩
      show ∃ V1, V1 = vAdd (vLnk V f (ix (nI g))) (ix (nI g)) (place P (ix (nI g)) 0) (vS V f i) ∧ ((vC V1 (ix (nI g)) 40 ∧ V' = vAdd V1 f (place P f (nI i + 1)) (vS V1 (ix (nI g)) 40)) ∨ (¬ vC V1 (ix (nI g)) 40 ∧ V' = V1))
      rw [eg]
      exact ht
    · obtain rfl : o = 6 := nI_inj (by omega) (by decide) (show nI o = nI 6 from by assumption)
      clear hK K
      obtain ⟨ra, hra, rfl, era⟩ := vR_n hvq.1
      refine xF_go o_Re_takeOn [] 60 (fun K hK => ?_)
      repeat' ((conv => whnf); first | refine ⟨fun h => ?_, fun h => ?_⟩ | refine ⟨?_, ?_⟩ | refine hK _ _ _ _ ?_)
      refine xF_callV o_Re_takeOn [.int (nI f), .int (nI i), .int (nI ra), .int b] rfl z_Re_takeNought i_Re_takeNought v_Re_takeNought l_Re_190 rfl ⟨⟨by decide, by decide⟩, rfl, rfl⟩ (Nat.le_of_ble_eq_true rfl) rfl rfl rfl (E_takeNought l G P V M2 hV hk hw f i ra hf (by omega) hra b) ?_
      rintro v M3 ⟨rfl, ⟨V1, ht1, hV1⟩, hfr⟩
      clear hK K
      have hk3 := cK_fr hfr (by decide) hk
      refine xF_go o_Re_takeOn [] 60 (fun K hK => ?_)
      repeat' ((conv => whnf); first | refine ⟨fun h => ?_, fun h => ?_⟩ | refine ⟨?_, ?_⟩ | refine hK _ _ _ _ ?_)
      refine xF_callV o_Re_takeOn [.int (nI (f * 41 + i)), .int (nI ra)] rfl z_Re_makeRest i_Re_makeRest v_Re_makeRest l_Re_193 rfl ⟨⟨by decide, by decide⟩, rfl, rfl⟩ (Nat.le_of_ble_eq_true rfl) rfl rfl rfl (E_makeRest l G P V1 M3 hV1 f i ra hf hi hra) ?_
      rintro v M4 ⟨b', rfl, hb1, hX, hfr4⟩
      clear hK K
      cases b' with
      | false =>
        refine xF_go o_Re_takeOn [] 60 (fun K hK => ?_)
        repeat' ((conv => whnf); first | refine ⟨fun h => ?_, fun h => ?_⟩ | refine ⟨?_, ?_⟩ | refine hK _ _ _ _ ?_)
        all_goals first | exact absurd rfl (show ¬ b2 false = 0 from by assumption) | skip
        refine xF_vret o_Re_takeOn rfl rfl ?_
        refine ⟨rfl, ⟨V1, htk _ ⟨V1, ?_, Or.inr ⟨?_, rfl⟩⟩, cV_fr hfr4 (by decide) hV1⟩, (hfr.mono (by simp)).tr hfr4 (by simp)⟩
        · show (vS V f i (ix (nI ra)) 0 ∧ V1 = vAdd V f (place P f (nI i + b + 1)) (rs (vS V f i) (ix (nI ra)) (fun v => v = 0))) ∨ (¬ vS V f i (ix (nI ra)) 0 ∧ V1 = V)
          rw [era]
          exact ht1
        · show ¬ ∃ v, v < 256 ∧ ¬ v = 0 ∧ vS V1 f i (ix (nI ra)) v
          rw [era]
          exact fun z => absurd (hb1.mpr z) (by decide)
      | true =>
        refine xF_go o_Re_takeOn [] 60 (fun K hK => ?_)
        repeat' ((conv => whnf); first | refine ⟨fun h => ?_, fun h => ?_⟩ | refine ⟨?_, ?_⟩ | refine hK _ _ _ _ ?_)
        · exact absurd (show b2 true = 0 from by assumption) (by decide)
        · refine xF_callV o_Re_takeOn [.int (nI (f * 41 + i)), .int (nI f), .int (nI i + 1), .int (nI ra)] rfl z_Re_flow i_Re_flow v_Re_flow l_Re_182 rfl ⟨⟨by decide, by decide⟩, rfl, rfl⟩ (Nat.le_of_ble_eq_true rfl) rfl rfl rfl (E_flowR l G P _ M4 (cV_fr hfr4 (by decide) hV1) (cK_fr hfr4 (by decide) hk3) hw f i f hf hi hf (nI i + 1) ra hra _ hX) ?_
          rintro v M5 ⟨rfl, hV5, hfr5⟩
          clear hK K
          refine xF_go o_Re_takeOn [] 60 (fun K hK => ?_)
          repeat' ((conv => whnf); first | refine ⟨fun h => ?_, fun h => ?_⟩ | refine ⟨?_, ?_⟩ | refine hK _ _ _ _ ?_)
          refine xF_vret o_Re_takeOn rfl rfl ?_
          refine ⟨rfl, ⟨_, htk _ ⟨V1, ?_, Or.inl ⟨?_, ?_⟩⟩, hV5⟩, ((hfr.mono (by simp)).tr hfr4 (by simp)).tr hfr5 (by simp)⟩
          · show (vS V f i (ix (nI ra)) 0 ∧ V1 = vAdd V f (place P f (nI i + b + 1)) (rs (vS V f i) (ix (nI ra)) (fun v => v = 0))) ∨ (¬ vS V f i (ix (nI ra)) 0 ∧ V1 = V)
            rw [era]
            exact ht1
          · show ∃ v, v < 256 ∧ ¬ v = 0 ∧ vS V1 f i (ix (nI ra)) v
            rw [era]
            exact hb1.mp rfl
          · show _ = vAdd V1 f (place P f (nI i + 1)) (rs (vS V1 f i) (ix (nI ra)) (fun v => ¬ v = 0 ∧ vS V1 f i (ix (nI ra)) v))
            rw [era]
    · obtain rfl : o = 7 := nI_inj (by omega) (by decide) (show nI o = nI 7 from by assumption)
      clear hK K
      refine xF_go o_Re_takeOn [] 60 (fun K hK => ?_)
      repeat' ((conv => whnf); first | refine ⟨fun h => ?_, fun h => ?_⟩ | refine ⟨?_, ?_⟩ | refine hK _ _ _ _ ?_)
      refine xF_callV o_Re_takeOn [.int (nI (f * 41 + i)), .int (nI f), .int (nI i + 1), .int (-1)] rfl z_Re_flow i_Re_flow v_Re_flow l_Re_182 rfl ⟨⟨by decide, by decide⟩, rfl, rfl⟩ (Nat.le_of_ble_eq_true rfl) rfl rfl rfl (E_flowN l G P _ M2 hV hk hw f i f hf hi hf (nI i + 1)) ?_
      rintro v M4 ⟨rfl, hV4, hfr4⟩
      clear hK K
      refine xF_go o_Re_takeOn [] 60 (fun K hK => ?_)
      repeat' ((conv => whnf); first | refine ⟨fun h => ?_, fun h => ?_⟩ | refine ⟨?_, ?_⟩ | refine hK _ _ _ _ ?_)
      refine xF_vret o_Re_takeOn rfl rfl ?_
      exact ⟨rfl, ⟨_, htk _ rfl, hV4⟩, hfr4.mono (by simp)⟩
    · obtain rfl : o = 8 := nI_inj (by omega) (by decide) (show nI o = nI 8 from by assumption)
      clear hK K
      refine xF_go o_Re_takeOn [] 60 (fun K hK => ?_)
      repeat' ((conv => whnf); first | refine ⟨fun h => ?_, fun h => ?_⟩ | refine ⟨?_, ?_⟩ | refine hK _ _ _ _ ?_)
      refine xF_callV o_Re_takeOn [.int (nI (f * 41 + i)), .int (nI f), .int (nI 40), .int (-1)] rfl z_Re_flow i_Re_flow v_Re_flow l_Re_182 rfl ⟨⟨by decide, by decide⟩, rfl, rfl⟩ (Nat.le_of_ble_eq_true rfl) rfl rfl rfl (E_flowN l G P _ M2 hV hk hw f i f hf hi hf (nI 40)) ?_
      rintro v M4 ⟨rfl, hV4, hfr4⟩
      clear hK K
      refine xF_go o_Re_takeOn [] 60 (fun K hK => ?_)
      repeat' ((conv => whnf); first | refine ⟨fun h => ?_, fun h => ?_⟩ | refine ⟨?_, ?_⟩ | refine hK _ _ _ _ ?_)
      refine xF_vret o_Re_takeOn rfl rfl ?_
      refine ⟨rfl, ⟨_, htk _ ?_, hV4⟩, hfr4.mono (by simp)⟩
      have : place P f (nI 40) = 40 := by
        unfold place
        rw [if_pos (Or.inr (fun z => by rw [nI_ltI (by omega) (by omega)] at z; omega))]
      rw [this]
      rfl
    · have ho : o = 9 := nI_inj (by omega) (by decide) (show nI o = nI 9 from by assumption)
      exact hsim (by omega)
    · have ho : o = 10 := nI_inj (by omega) (by decide) (show nI o = nI 10 from by assumption)
      exact hsim (by omega)
    · obtain rfl : o = 11 := nI_inj (by omega) (by decide) (show nI o = nI 11 from by assumption)
      clear hK K hsim
      obtain ⟨ra, hra, rfl, era⟩ := vR_n hvq.1
      obtain ⟨k, hkk, rfl, ek⟩ := vT_n hvq.2.1
      obtain ⟨rc, hrc, rfl, erc⟩ := vR_n hvq.2.2
      refine xF_go o_Re_takeOn [] 60 (fun K hK => ?_)
      repeat' ((conv => whnf); first | refine ⟨fun h => ?_, fun h => ?_⟩ | refine ⟨?_, ?_⟩ | refine hK _ _ _ _ ?_)
      refine xF_callV o_Re_takeOn [.int (nI f), .int (nI (f * 41 + i)), .int (nI k), .int (nI rc)] rfl z_Re_takeFollow i_Re_takeFollow v_Re_takeFollow l_Re_200 rfl ⟨⟨by decide, by decide⟩, rfl, rfl⟩ (Nat.le_of_ble_eq_true rfl) rfl rfl rfl (E_takeFollow l G P V M2 hP hV hw f i k rc hf hi hkk hrc) ?_
      rintro v M3 ⟨b, rfl, hb1, hb2, hb3, hfr⟩
      clear hK K
      cases b with
      | false =>
        obtain rfl := hb2 rfl
        refine xF_go o_Re_takeOn [] 60 (fun K hK => ?_)
        repeat' ((conv => whnf); first | refine ⟨fun h => ?_, fun h => ?_⟩ | refine ⟨?_, ?_⟩ | refine hK _ _ _ _ ?_)
        all_goals first | exact absurd rfl (show ¬ b2 false = 0 from by assumption) | skip
        refine xF_vret o_Re_takeOn rfl rfl ?_
        refine ⟨rfl, ⟨V, htk _ (Or.inl ⟨fun z => ?_, rfl⟩), hV⟩, xfr.rf⟩
        replace z : ∃ p, p < 64 ∧ vS V f i (ix (nI rc)) p ∧ (pR P (ix (nI k)) p).isSome := z
        rw [ek, erc] at z
        exact absurd (hb1.mpr z) (by decide)
      | true =>
        obtain ⟨hV3, hX⟩ := hb3 rfl
        refine xF_go o_Re_takeOn [] 60 (fun K hK => ?_)
        repeat' ((conv => whnf); first | refine ⟨fun h => ?_, fun h => ?_⟩ | refine ⟨?_, ?_⟩ | refine hK _ _ _ _ ?_)
        · exact absurd (show b2 true = 0 from by assumption) (by decide)
        · refine xF_callV o_Re_takeOn [.int (nI (f * 41 + i)), .int (nI f), .int (nI i + 1), .int (nI ra)] rfl z_Re_flow i_Re_flow v_Re_flow l_Re_182 rfl ⟨⟨by decide, by decide⟩, rfl, rfl⟩ (Nat.le_of_ble_eq_true rfl) rfl rfl rfl (E_flowR l G P _ M3 hV3 (cK_fr hfr (by decide) hk) hw f i f hf hi hf (nI i + 1) ra hra _ hX) ?_
          rintro v M4 ⟨rfl, hV4, hfr4⟩
          clear hK K
          refine xF_go o_Re_takeOn [] 60 (fun K hK => ?_)
          repeat' ((conv => whnf); first | refine ⟨fun h => ?_, fun h => ?_⟩ | refine ⟨?_, ?_⟩ | refine hK _ _ _ _ ?_)
          refine xF_vret o_Re_takeOn rfl rfl ?_
          refine ⟨rfl, ⟨_, htk _ (Or.inr ⟨?_, ?_⟩), hV4⟩, (hfr.mono (by simp)).tr hfr4 (by simp)⟩
          · show ∃ p, p < 64 ∧ vS V f i (ix (nI rc)) p ∧ (pR P (ix (nI k)) p).isSome
            rw [ek, erc]
            exact hb1.mp rfl
          · show _ = vAdd (vFollow P V f (ix (nI k)) (fun p => p < 64 ∧ vS V f i (ix (nI rc)) p ∧ (pR P (ix (nI k)) p).isSome)) f (place P f (nI i + 1)) (rs (vS V f i) (ix (nI ra)) (fun v => ∃ p, (p < 64 ∧ vS V f i (ix (nI rc)) p ∧ (pR P (ix (nI k)) p).isSome) ∧ ∃ t, pR P (ix (nI k)) p = some t ∧ vY V t 0 v))
            rw [era, ek, erc]
            rfl
    · refine hsim ?_
      have n3 : ¬ nI o = nI 3 := by assumption
      have n4 : ¬ nI o = nI 4 := by assumption
      have n5 : ¬ nI o = nI 5 := by assumption
      have n6 : ¬ nI o = nI 6 := by assumption
      have n7 : ¬ nI o = nI 7 := by assumption
      have n8 : ¬ nI o = nI 8 := by assumption
      have n11 : ¬ nI o = nI 11 := by assumption
      have m3 : o ≠ 3 := fun z => n3 (by rw [z])
      have m4 : o ≠ 4 := fun z => n4 (by rw [z])
      have m5 : o ≠ 5 := fun z => n5 (by rw [z])
      have m6 : o ≠ 6 := fun z => n6 (by rw [z])
      have m7 : o ≠ 7 := fun z => n7 (by rw [z])
      have m8 : o ≠ 8 := fun z => n8 (by rw [z])
      have m11 : o ≠ 11 := fun z => n11 (by rw [z])
      omega
  · have hlt : ¬ nI i < M.1 20 (nI f).toNatClampNeg := by assumption
    rw [hclf, hlen, nI_ltI (by omega) (by omega)] at hlt
    have hq : (pC P f)[i]? = none := List.getElem?_eq_none (by omega)
    refine xF_callV o_Re_takeOn [.int (nI f)] rfl z_Re_wake i_Re_wake v_Re_wake l_Re_171 rfl ⟨⟨by decide, by decide⟩, rfl, rfl⟩ (Nat.le_of_ble_eq_true rfl) rfl rfl rfl (E_wake l G P V M hV hk f (by omega)) ?_
    rintro v M2 ⟨rfl, hV2, hfr⟩
    clear hK K
    refine xF_go o_Re_takeOn [] 60 (fun K hK => ?_)
    repeat' ((conv => whnf); first | refine ⟨fun h => ?_, fun h => ?_⟩ | refine ⟨?_, ?_⟩ | refine hK _ _ _ _ ?_)
    refine xF_vret o_Re_takeOn rfl rfl ?_
    refine ⟨rfl, ⟨_, ?_, hV2⟩, hfr.mono (by simp)⟩
    unfold tk
    rw [hq]
end XTP
