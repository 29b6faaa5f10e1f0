/-! Rows for arrays, switches, returns -/
section XJ
variable {l : Launch} {G : xG} {Y : xMD} {pc : Nat} {lv : xLv} {st r : List Value} {M : xMe} {g : xGh} {cn sn : Nat} {Q : Option Value → xMe → xGh → Prop}
theorem xc_iald {k : Nat} {i : Int32} (hk : xkd k = 0) (h96 : k < 96) (hg : k < xgn g) (hin : vp_in i (xtl k)) (hd : decode (yB Y) pc = .ok (.iaload, 1)) (h : xC l G Y (pc + 1) lv (.int (M.1 k i.toNatClampNeg) :: r) M g cn sn Q) : xC l G Y pc lv (.int i :: .ref k :: r) M g cn sn Q := by
  intro p e s m args below meth c hx hz H locs ls hR hS hl
  have he := xwl_get (G := G) (M := M) hg
  rw [xent_i hk] at he
  show W p l e (yR Y) s m args below meth c H locs cn sn _ (F0 m pc ls (.int i :: .ref (xad G k) :: r.map (xcv G)))
  rw [xad_lt h96]
  exact va_iald hx.1 hx.2.1 hR.1 hR.2.1 k 0 he rfl hin hd (h p e s m args below meth c hx hz H locs ls hR hS hl)
theorem xc_zald {k : Nat} {i : Int32} (hk : xkd k = 2) (h96 : k < 96) (hg : k < xgn g) (hin : vp_in i (xtl k)) (hd : decode (yB Y) pc = .ok (.baload, 1)) (h : xC l G Y (pc + 1) lv (.int (M.1 k i.toNatClampNeg) :: r) M g cn sn Q) : xC l G Y pc lv (.int i :: .ref k :: r) M g cn sn Q := by
  intro p e s m args below meth c hx hz H locs ls hR hS hl
  have he := xwl_get (G := G) (M := M) hg
  rw [xent_z hk] at he
  show W p l e (yR Y) s m args below meth c H locs cn sn _ (F0 m pc ls (.int i :: .ref (xad G k) :: r.map (xcv G)))
  rw [xad_lt h96]
  exact va_zald hx.1 hx.2.1 hR.1 hR.2.1 k 2 he rfl hin hd (h p e s m args below meth c hx hz H locs ls hR hS hl)
theorem xc_lald {k : Nat} {i : Int32} (hk : xkd k = 1) (h96 : k < 96) (hg : k < xgn g) (hin : vp_in i (xtl k)) (hd : decode (yB Y) pc = .ok (.laload, 1)) (h : xC l G Y (pc + 1) lv (.long (M.2 k i.toNatClampNeg) :: r) M g cn sn Q) : xC l G Y pc lv (.int i :: .ref k :: r) M g cn sn Q := by
  intro p e s m args below meth c hx hz H locs ls hR hS hl
  have he := xwl_get (G := G) (M := M) hg
  rw [xent_l hk] at he
  show W p l e (yR Y) s m args below meth c H locs cn sn _ (F0 m pc ls (.int i :: .ref (xad G k) :: r.map (xcv G)))
  rw [xad_lt h96]
  exact va_lald hx.1 hx.2.1 hR.1 hR.2.1 k 1 he rfl hin hd (h p e s m args below meth c hx hz H locs ls hR hS hl)
theorem xc_iast {k : Nat} {i x : Int32} (hk : xkd k = 0) (h96 : k < 96) (hg : k < xgn g) (hin : vp_in i (xtl k)) (hd : decode (yB Y) pc = .ok (.iastore, 1)) (h : xC l G Y (pc + 1) lv r (xsI M k (upd (M.1 k) i.toNatClampNeg x)) g cn sn Q) : xC l G Y pc lv (.int x :: .int i :: .ref k :: r) M g cn sn Q := by
  intro p e s m args below meth c hx hz H locs ls hR hS hl
  have he := xwl_get (G := G) (M := M) hg
  rw [xent_i hk] at he
  show W p l e (yR Y) s m args below meth c H locs cn sn _ (F0 m pc ls (.int x :: .int i :: .ref (xad G k) :: r.map (xcv G)))
  rw [xad_lt h96]
  refine va_iast hx.1 hx.2.1 hR.1 hR.2.1 xwl_D hS k 0 he rfl hin hd (fun H1 locs1 hP1 _ hS1 => ?_)
  rw [xwl_set (M' := xsI M k (upd (M.1 k) i.toNatClampNeg x)) (g' := g) rfl rfl (by rw [xent_i hk, xsI_s]) (fun j hj => xent_sI hj)] at hP1
  exact h p e s m args below meth c hx hz H1 locs1 ls (hR.stored hx.2.2.2.2.2.2.2.2.1 hS hP1 hS1) hS1 hl
theorem xnar_z {x : Int32} (h : x = 0 ∨ x = 1) : vp_nar .boolean x = x := by
  rcases h with rfl | rfl <;> rfl
theorem xc_zast {k : Nat} {i x : Int32} (hk : xkd k = 2) (h96 : k < 96) (hg : k < xgn g) (hin : vp_in i (xtl k)) (hb : x = 0 ∨ x = 1) (hd : decode (yB Y) pc = .ok (.bastore, 1)) (h : xC l G Y (pc + 1) lv r (xsI M k (upd (M.1 k) i.toNatClampNeg x)) g cn sn Q) : xC l G Y pc lv (.int x :: .int i :: .ref k :: r) M g cn sn Q := by
  intro p e s m args below meth c hx hz H locs ls hR hS hl
  have he := xwl_get (G := G) (M := M) hg
  rw [xent_z hk] at he
  show W p l e (yR Y) s m args below meth c H locs cn sn _ (F0 m pc ls (.int x :: .int i :: .ref (xad G k) :: r.map (xcv G)))
  rw [xad_lt h96]
  refine va_zast hx.1 hx.2.1 hR.1 hR.2.1 xwl_D hS k 2 he rfl hin hd (fun H1 locs1 hP1 _ hS1 => ?_)
  rw [xnar_z hb, xwl_set (M' := xsI M k (upd (M.1 k) i.toNatClampNeg x)) (g' := g) rfl rfl (by rw [xent_z hk, xsI_s]) (fun j hj => xent_sI hj)] at hP1
  exact h p e s m args below meth c hx hz H1 locs1 ls (hR.stored hx.2.2.2.2.2.2.2.2.1 hS hP1 hS1) hS1 hl
theorem xc_last {k : Nat} {i : Int32} {x : Int64} (hk : xkd k = 1) (h96 : k < 96) (hg : k < xgn g) (hin : vp_in i (xtl k)) (hd : decode (yB Y) pc = .ok (.lastore, 1)) (h : xC l G Y (pc + 1) lv r (xsL M k (vp_updL (M.2 k) i.toNatClampNeg x)) g cn sn Q) : xC l G Y pc lv (.long x :: .int i :: .ref k :: r) M g cn sn Q := by
  intro p e s m args below meth c hx hz H locs ls hR hS hl
  have he := xwl_get (G := G) (M := M) hg
  rw [xent_l hk] at he
  show W p l e (yR Y) s m args below meth c H locs cn sn _ (F0 m pc ls (.long x :: .int i :: .ref (xad G k) :: r.map (xcv G)))
  rw [xad_lt h96]
  refine va_last hx.1 hx.2.1 hR.1 hR.2.1 xwl_D hS k 1 he rfl hin hd (fun H1 locs1 hP1 _ hS1 => ?_)
  rw [xwl_set (M' := xsL M k (vp_updL (M.2 k) i.toNatClampNeg x)) (g' := g) rfl rfl (by rw [xent_l hk, xsL_s]) (fun j hj => xent_sL hj)] at hP1
  exact h p e s m args below meth c hx hz H1 locs1 ls (hR.stored hx.2.2.2.2.2.2.2.2.1 hS hP1 hS1) hS1 hl
/-- the script -/
theorem xc_sld {i : Int32} (hin : vp_in i (gL G)) (hd : decode (yB Y) pc = .ok (.iaload, 1)) (h : xC l G Y (pc + 1) lv (.int (gx G i.toNatClampNeg) :: r) M g cn sn Q) : xC l G Y pc lv (.int i :: .ref 96 :: r) M g cn sn Q := by
  intro p e s m args below meth c hx hz H locs ls hR hS hl
  obtain ⟨scr, h1, h2, h3, h4, h5⟩ := hR.2.2.1
  have hlt : i.toNatClampNeg < gL G := Nat.not_le.mp fun q => hin (Or.inr q)
  exact W.iald hx.1 hx.2.1 h1 h2 h3 (by rw [h4]; exact hin) (h5 _ hlt) rfl rfl hd (h p e s m args below meth c hx hz H locs ls hR hS hl)
theorem xc_slen (hd : decode (yB Y) pc = .ok (.arraylength, 1)) (h : xC l G Y (pc + 1) lv (.int (Int32.ofNat (gL G)) :: r) M g cn sn Q) : xC l G Y pc lv (.ref 96 :: r) M g cn sn Q := by
  intro p e s m args below meth c hx hz H locs ls hR hS hl
  obtain ⟨scr, h1, h2, h3, h4, h5⟩ := hR.2.2.1
  exact W.alen hx.1 hx.2.1 h1 h2 (by rw [h4]) rfl rfl hd (h p e s m args below meth c hx hz H locs ls hR hS hl)
/-- the table of masks -/
theorem xc_hld {i : Int32} (hin : vp_in i 6) (hd : decode (yB Y) pc = .ok (.laload, 1)) (h : xC l G Y (pc + 1) lv (.long (xhv i.toNatClampNeg) :: r) M g cn sn Q) : xC l G Y pc lv (.int i :: .ref 97 :: r) M g cn sn Q := by
  intro p e s m args below meth c hx hz H locs ls hR hS hl
  obtain ⟨cell, h1, h2, h3, h4, h4', h5, h6⟩ := hR.2.2.2.2.2
  have hlt : i.toNatClampNeg < 6 := Nat.not_le.mp fun q => hin (Or.inr q)
  exact W.lald hx.1 hx.2.1 h1 h2 h3 (fun q => hin (q.imp id (fun z => Nat.le_trans h4 z))) (h5 _ hlt) rfl rfl hd (h p e s m args below meth c hx hz H locs ls hR hS hl)
theorem xc_hlen (hd : decode (yB Y) pc = .ok (.arraylength, 1)) (h : xC l G Y (pc + 1) lv (.int (Int32.ofNat 6) :: r) M g cn sn Q) : xC l G Y pc lv (.ref 97 :: r) M g cn sn Q := by
  intro p e s m args below meth c hx hz H locs ls hR hS hl
  obtain ⟨cell, h1, h2, h3, h4, h4', h5, h6⟩ := hR.2.2.2.2.2
  exact W.alen hx.1 hx.2.1 h1 h2 h4' rfl rfl hd (h p e s m args below meth c hx hz H locs ls hR hS hl)
theorem xc_gets {i : Nat} (hw : Cond.fieldLink Y.1.cls i "DataShrinker$OctetSet" "HAVING" "[J" ∈ xtb) (hd : decode (yB Y) pc = .ok (.getstatic i, 3)) (h : xC l G Y (pc + 3) lv (.ref 97 :: r) M g cn sn Q) : xC l G Y pc lv r M g cn sn Q := by
  intro p e s m args below meth c hx hz H locs ls hR hS hl
  obtain ⟨cf, kf, fi, f, a, cell, h1, h2, h3, h4, h5, h6, h7, h8⟩ := hR.2.2.2.2.1
  exact W.gets hx.1 hx.2.1 hx.2.2.2.2.1 (hx.2.2.2.2.2.1 _ hw) h1 h2 h3 h4 h5 (fun e => by rw [e] at h6; cases h6) h7 rfl hd (h p e s m args below meth c hx hz H locs ls hR hS hl)
theorem xc_alen {k : Nat} (hk : xkd k < 3) (h96 : k < 96) (hg : k < xgn g) (hd : decode (yB Y) pc = .ok (.arraylength, 1)) (h : xC l G Y (pc + 1) lv (.int (Int32.ofNat (xtl k)) :: r) M g cn sn Q) : xC l G Y pc lv (.ref k :: r) M g cn sn Q := by
  intro p e s m args below meth c hx hz H locs ls hR hS hl
  have he := xwl_get (G := G) (M := M) hg
  show W p l e (yR Y) s m args below meth c H locs cn sn _ (F0 m pc ls (.ref (xad G k) :: r.map (xcv G)))
  rw [xad_lt h96]
  have hkk := h p e s m args below meth c hx hz H locs ls hR hS hl
  rcases (show xkd k = 0 ∨ xkd k = 1 ∨ xkd k = 2 by omega) with q | q | q
  · rw [xent_i q] at he
    exact va_alen hx.1 hx.2.1 hR.1 hR.2.1 k 0 he rfl rfl hd hkk
  · rw [xent_l q] at he
    exact va_alen hx.1 hx.2.1 hR.1 hR.2.1 k 1 he rfl rfl hd hkk
  · rw [xent_z q] at he
    exact va_alen hx.1 hx.2.1 hR.1 hR.2.1 k 2 he rfl rfl hd hkk
/-- switches -/
theorem xsw_lookup {x : Int32} {k : Int → Prop} {d : Int} : ∀ (l : List (Int × Int)), (l.all fun q => decide ((Int32.ofInt q.1).toInt = q.1)) = true → xsw x k d l → k (Op.lookupswitch.offset l d x.toInt)
  | [], _, h => h
  | q :: l, hl, h => by
    simp only [List.all_cons, Bool.and_eq_true, decide_eq_true_eq] at hl
    by_cases hx : x = Int32.ofInt q.1
    · have h1 := h.1 hx
      have e : x.toInt = q.1 := by rw [hx]; exact hl.1
      have : Op.lookupswitch.offset (q :: l) d x.toInt = q.2 := by
        simp [Op.lookupswitch.offset, e]
      rw [this]
      exact h1
    · have h1 := xsw_lookup l hl.2 (h.2 hx)
      have e : Op.lookupswitch.offset (q :: l) d x.toInt = Op.lookupswitch.offset l d x.toInt := lv_osw (a := q.1) (o := q.2) hx hl.1
      rw [e]
      exact h1
theorem xc_lookup {x : Int32} {d : Int} {ps : Array (Int × Int)} {len : Nat} (hd : decode (yB Y) pc = .ok (.lookupswitch d ps, len)) (hp : (ps.toList.zip (ps.toList.drop 1)).all (fun (a, next) => a.1 < next.1) = true) (hl : (ps.toList.all fun q => decide ((Int32.ofInt q.1).toInt = q.1)) = true) (h : xsw x (fun o => ∃ t : Nat, (pc : Int) + o = (t : Int) ∧ xC l G Y t lv r M g cn sn Q) d ps.toList) : xC l G Y pc lv (.int x :: r) M g cn sn Q := by
  intro p e s m args below meth c hx hz H locs ls hR hS hl2
  obtain ⟨t, ht, hk⟩ := xsw_lookup ps.toList hl h
  exact lv_lookup hx.1 hx.2.1 hd hp rfl ht (hk p e s m args below meth c hx hz H locs ls hR hS hl2)
theorem xsw_table {x : Int32} {k : Int → Prop} {d : Int} : ∀ (offs : List Int) (lo : Int), ((xtab lo offs).all fun q => decide ((Int32.ofInt q.1).toInt = q.1)) = true → xsw x k d (xtab lo offs) → ((x.toInt < lo ∨ lo + offs.length ≤ x.toInt) → k d) ∧ (¬ x.toInt < lo → ¬ lo + offs.length ≤ x.toInt → ∃ o, offs[(x.toInt - lo).toNat]? = some o ∧ k o)
  | [], lo, _, h => ⟨fun _ => h, fun h1 h2 => by simp at h2; omega⟩
  | o :: l, lo, hl, h => by
    simp only [xtab, List.all_cons, Bool.and_eq_true, decide_eq_true_eq] at hl
    by_cases hx : x = Int32.ofInt lo
    · have h1 := h.1 hx
      have e : x.toInt = lo := by rw [hx]; exact hl.1
      refine ⟨fun q => ?_, fun _ _ => ⟨o, ?_, h1⟩⟩
      · simp at q; omega
      · rw [e]; simp
    · have hne : x.toInt ≠ lo := fun q => hx (Int32.toInt_inj.mp (q.trans hl.1.symm))
      obtain ⟨h1, h2⟩ := xsw_table l (lo + 1) hl.2 (h.2 hx)
      refine ⟨fun q => h1 ?_, fun q1 q2 => ?_⟩
      · simp at q
        omega
      · simp at q2
        obtain ⟨o', ho, hk⟩ := h2 (by omega) (by omega)
        refine ⟨o', ?_, hk⟩
        rw [show (x.toInt - lo).toNat = (x.toInt - (lo + 1)).toNat + 1 by omega]
        exact ho
theorem xc_table {x : Int32} {d lo hi : Int} {offs : Array Int} {len : Nat} (hd : decode (yB Y) pc = .ok (.tableswitch d lo hi offs, len)) (hh : hi + 1 = lo + offs.toList.length) (hl : ((xtab lo offs.toList).all fun q => decide ((Int32.ofInt q.1).toInt = q.1)) = true) (h : xsw x (fun o => ∃ t : Nat, (pc : Int) + o = (t : Int) ∧ xC l G Y t lv r M g cn sn Q) d (xtab lo offs.toList)) : xC l G Y pc lv (.int x :: r) M g cn sn Q := by
  intro p e s m args below meth c hx hz H locs ls hR hS hl2
  obtain ⟨h1, h2⟩ := xsw_table offs.toList lo hl h
  by_cases q : x.toInt < lo ∨ hi < x.toInt
  · obtain ⟨t, ht, hk⟩ := h1 (by omega)
    exact lv_tableOut hx.1 hx.2.1 hd q ht (hk p e s m args below meth c hx hz H locs ls hR hS hl2)
  · obtain ⟨o, ho, t, ht, hk⟩ := h2 (by omega) (by omega)
    exact lv_tableIn hx.1 hx.2.1 hd (by omega) (by omega) (by rw [← ho]; simp) ht (hk p e s m args below meth c hx hz H locs ls hR hS hl2)
/-- returns -/
theorem xQc_end {G : xG} {s t : State} {H : Heap} {locs : List Loc} {v : Option Value} {args : Array Value} (hR : xRp G M g s H) (hS : va_S (xA G) s.heap H locs) (hq : Q v M g) (ht : t.heap = H) (hW : s.WarmedH t.vm) : xQc G Q args s (.returned (v.map (xcv G))) t :=
  ⟨⟨v, M, g, rfl, hq, by rw [ht]; exact hR.moved hW.alike⟩, hS.F ht⟩
theorem xc_iret {x : Int32} (ht : yT Y = some .int) (hcn : cn ≤ (yR Y).cells) (hsn : sn ≤ (yR Y).slots) (hd : decode (yB Y) pc = .ok (.ireturn, 1)) (h : Q (some (.int x)) M g) : xC l G Y pc lv [.int x] M g cn sn Q := by
  intro p e s m args below meth c hx hz H locs ls hR hS hl
  refine W.widen hcn hsn ?_
  exact W.iret hx.1 hx.2.1 (hx.2.2.1.trans ht) (fun t h1 h2 => xQc_end (v := some (.int x)) hR hS h h1 h2) hS.2.2 hd hx.2.2.2.2.2.2.1
theorem xc_zret {x : Int32} (ht : yT Y = some .boolean) (hb : x = 0 ∨ x = 1) (hcn : cn ≤ (yR Y).cells) (hsn : sn ≤ (yR Y).slots) (hd : decode (yB Y) pc = .ok (.ireturn, 1)) (h : Q (some (.int x)) M g) : xC l G Y pc lv [.int x] M g cn sn Q := by
  intro p e s m args below meth c hx hz H locs ls hR hS hl
  refine W.widen hcn hsn ?_
  exact W.zret hx.1 hx.2.1 (hx.2.2.1.trans ht) (by rcases hb with rfl | rfl <;> rfl) (fun t h1 h2 => xQc_end (v := some (.int x)) hR hS h h1 h2) hS.2.2 hd hx.2.2.2.2.2.2.1
theorem xc_lret {x : Int64} (ht : yT Y = some .long) (hcn : cn ≤ (yR Y).cells) (hsn : sn ≤ (yR Y).slots) (hd : decode (yB Y) pc = .ok (.lreturn, 1)) (h : Q (some (.long x)) M g) : xC l G Y pc lv [.long x] M g cn sn Q := by
  intro p e s m args below meth c hx hz H locs ls hR hS hl
  refine W.widen hcn hsn ?_
  exact W.lret hx.1 hx.2.1 (hx.2.2.1.trans ht) (fun t h1 h2 => xQc_end (v := some (.long x)) hR hS h h1 h2) hS.2.2 hd hx.2.2.2.2.2.2.1
theorem xc_vret (ht : yT Y = none) (hcn : cn ≤ (yR Y).cells) (hsn : sn ≤ (yR Y).slots) (hd : decode (yB Y) pc = .ok (.return_, 1)) (h : Q none M g) : xC l G Y pc lv [] M g cn sn Q := by
  intro p e s m args below meth c hx hz H locs ls hR hS hl
  refine W.widen hcn hsn ?_
  exact W.vret hx.1 hx.2.1 (hx.2.2.1.trans ht) (fun t h1 h2 => xQc_end (v := none) hR hS h h1 h2) hS.2.2 hd hx.2.2.2.2.2.2.1
/-- weaker knowledge of the variables, of the end -/
theorem xc_lv {lv' : xLv} (hv : ∀ i v, xlg lv' i = some v → xlg lv i = some v) (h : xC l G Y pc lv' st M g cn sn Q) : xC l G Y pc lv st M g cn sn Q := fun p e s m args below meth c hx hz H locs ls hR hS hl => h p e s m args below meth c hx hz H locs ls hR hS ⟨hl.1, hl.2.1, fun i v hi => hl.2.2 i v (hv i v hi)⟩
theorem xc_post {Q' : Option Value → xMe → xGh → Prop} (hQ : ∀ v M g, Q' v M g → Q v M g) (h : xC l G Y pc lv st M g cn sn Q') : xC l G Y pc lv st M g cn sn Q := by
  intro p e s m args below meth c hx hz H locs ls hR hS hl T hT X
  obtain ⟨t, a, o, h1, h2, h3, h4⟩ := h p e s m args below meth c hx hz H locs ls hR hS hl T hT X
  refine ⟨t, a, o, h1, h2, ⟨?_, h3.2⟩, h4⟩
  obtain ⟨r, M', g', e1, e2, e3⟩ := h3.1
  exact ⟨r, M', g', e1, hQ _ _ _ e2, e3⟩
end XJ
