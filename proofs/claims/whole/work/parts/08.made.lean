/-! Copies of arrays; the making of objects and arrays -/
section XM
variable {l : Launch} {G : xG} {Y Z : xMD} {pc : Nat} {lv : xLv} {st r : List Value} {M : xMe} {g : xGh} {cn sn : Nat} {Q : Option Value → xMe → xGh → Prop}
abbrev xAC (cls : String) (i : Nat) : Prop := Cond.methodLink cls i arraycopyName ∈ xtb ∧ Cond.native arraycopyName ∈ xtb ∧ Cond.static arraycopyName ∈ xtb ∧ Cond.initialized "java/lang/System" ∈ xtb
theorem xnfw : nativeFrameWords "java/lang/System" "arraycopy" 5 = 7 := by decide +kernel
theorem xc_copyi {i k0 k1 : Nat} {sp dp n : Int32} (ha : xAC Y.1.cls i) (hk0 : xkd k0 = 0) (hk1 : xkd k1 = 0) (h0 : k0 < 96) (h1 : k1 < 96) (hg0 : k0 < xgn g) (hg1 : k1 < xgn g) (hsp : ¬ sp < 0) (hdp : ¬ dp < 0) (hn : ¬ n < 0) (hs : sp.toNatClampNeg + n.toNatClampNeg ≤ xtl k0) (hdd : dp.toNatClampNeg + n.toNatClampNeg ≤ xtl k1) (hr : (r.map fun v => v.category).sum ≤ 8) (hrm : 1 ≤ (yR Y).frames ∧ 26 ≤ (yR Y).locals) (hd : decode (yB Y) pc = .ok (.invokestatic i, 3))
    (h : xC l G Y (pc + 3) lv r (xsI M k1 (va_cpy (M.1 k0) (M.1 k1) sp.toNatClampNeg dp.toNatClampNeg n.toNatClampNeg)) g cn sn Q) : xC l G Y pc lv (.int n :: .int dp :: .ref k1 :: .int sp :: .ref k0 :: r) M g cn sn Q := by
  intro p e s m args below meth c hx hz H locs ls hR hS hl
  have hts := hx.2.2.2.2.2.1
  have he0 := xwl_get (G := G) (M := M) hg0
  rw [xent_i hk0] at he0
  have he1 := xwl_get (G := G) (M := M) hg1
  rw [xent_i hk1] at he1
  show W p l e (yR Y) s m args below meth c H locs cn sn _ (F0 m pc ls (.int n :: .int dp :: .ref (xad G k1) :: .int sp :: .ref (xad G k0) :: r.map (xcv G)))
  rw [xad_lt h0, xad_lt h1]
  refine va_copyi hx.1 hx.2.1 (hx.2.2.2.1.trans hl.1.symm) hx.2.2.2.2.1 (hts _ ha.1) (hts _ ha.2.1) (hts _ ha.2.2.1) (hts _ ha.2.2.2) hR.1 hR.2.1 xwl_D hS k0 k1 0 0 he0 he1 rfl rfl rfl hsp hdp hn hs hdd (fun _ _ => rfl) hrm.1 (by rw [xmap_cat, xnfw]; omega) hd (fun H1 locs1 hP1 _ hS1 => ?_)
  rw [xwl_set (M' := xsI M k1 (va_cpy (M.1 k0) (M.1 k1) sp.toNatClampNeg dp.toNatClampNeg n.toNatClampNeg)) (g' := g) rfl rfl (by rw [xent_i hk1, xsI_s]) (fun j hj => xent_sI hj)] at hP1
  exact h p e s m args below meth c hx hz H1 locs1 ls (hR.stored hx.2.2.2.2.2.2.2.2.1 hS hP1 hS1) hS1 hl
theorem xc_copyl {i k0 k1 : Nat} {sp dp n : Int32} (ha : xAC Y.1.cls i) (hk0 : xkd k0 = 1) (hk1 : xkd k1 = 1) (h0 : k0 < 96) (h1 : k1 < 96) (hg0 : k0 < xgn g) (hg1 : k1 < xgn g) (hsp : ¬ sp < 0) (hdp : ¬ dp < 0) (hn : ¬ n < 0) (hs : sp.toNatClampNeg + n.toNatClampNeg ≤ xtl k0) (hdd : dp.toNatClampNeg + n.toNatClampNeg ≤ xtl k1) (hr : (r.map fun v => v.category).sum ≤ 8) (hrm : 1 ≤ (yR Y).frames ∧ 26 ≤ (yR Y).locals) (hd : decode (yB Y) pc = .ok (.invokestatic i, 3))
    (h : xC l G Y (pc + 3) lv r (xsL M k1 (va_cpy (M.2 k0) (M.2 k1) sp.toNatClampNeg dp.toNatClampNeg n.toNatClampNeg)) g cn sn Q) : xC l G Y pc lv (.int n :: .int dp :: .ref k1 :: .int sp :: .ref k0 :: r) M g cn sn Q := by
  intro p e s m args below meth c hx hz H locs ls hR hS hl
  have hts := hx.2.2.2.2.2.1
  have he0 := xwl_get (G := G) (M := M) hg0
  rw [xent_l hk0] at he0
  have he1 := xwl_get (G := G) (M := M) hg1
  rw [xent_l hk1] at he1
  show W p l e (yR Y) s m args below meth c H locs cn sn _ (F0 m pc ls (.int n :: .int dp :: .ref (xad G k1) :: .int sp :: .ref (xad G k0) :: r.map (xcv G)))
  rw [xad_lt h0, xad_lt h1]
  refine va_copyl hx.1 hx.2.1 (hx.2.2.2.1.trans hl.1.symm) hx.2.2.2.2.1 (hts _ ha.1) (hts _ ha.2.1) (hts _ ha.2.2.1) (hts _ ha.2.2.2) hR.1 hR.2.1 xwl_D hS k0 k1 1 1 he0 he1 rfl rfl rfl hsp hdp hn hs hdd (fun _ _ => rfl) hrm.1 (by rw [xmap_cat, xnfw]; omega) hd (fun H1 locs1 hP1 _ hS1 => ?_)
  rw [xwl_set (M' := xsL M k1 (va_cpy (M.2 k0) (M.2 k1) sp.toNatClampNeg dp.toNatClampNeg n.toNatClampNeg)) (g' := g) rfl rfl (by rw [xent_l hk1, xsL_s]) (fun j hj => xent_sL hj)] at hP1
  exact h p e s m args below meth c hx hz H1 locs1 ls (hR.stored hx.2.2.2.2.2.2.2.2.1 hS hP1 hS1) hS1 hl
theorem xwl_grow {G : xG} {M : xMe} {n : Nat} {S : List (Nat × Nat)} : xwl G M (some (n + 1, S)) = xwl G M (some (n, S)) ++ [(gB G + n, xent G M (some (n + 1, S)) n)] := by
  have e : ∀ k, xent G M (some (n + 1, S)) k = xent G M (some (n, S)) k := fun k => rfl
  show (List.range (n + 1)).map _ = (List.range n).map _ ++ _
  rw [List.range_succ, List.map_append]
  rfl
/-- a cell made at the world's end -/
theorem xRp.grow {G : xG} {M : xMe} {n : Nat} {S : List (Nat × Nat)} {s : State} {H H1 : Heap} (h : xRp G M (some (n, S)) s H) (ho : ∀ q, q < gB G + n → H1[q]? = H[q]?) (hs : H.size = gB G + n) (hn : va_at (gD G) xcls (gB G + n, xent G M (some (n + 1, S)) n) H1) : xRp G M (some (n + 1, S)) s H1 := by
  refine h.upd ?_ (fun q h1 _ => ho q (by omega))
  rw [xwl_grow]
  refine (h.2.1.kept (fun k q hk => ?_)).app (fun k q hk => ?_)
  · obtain ⟨hk1, rfl⟩ := xwl_at hk
    have : k < n := hk1
    exact ho _ (by show gB G + k < _; omega)
  · have hz : k < 1 := (List.getElem?_eq_some_iff.mp hk).1
    rw [show k = 0 by omega] at hk
    cases hk
    exact hn
theorem xc_new {i ci n : Nat} {S : List (Nat × Nat)} {q : vw_C} (hcl : Cond.classLink Y.1.cls i q.1 ∈ xtb) (hins : Cond.instantiable q.1 q.2.2 ∈ xtb) (hini : Cond.initialized q.1 ∈ xtb) (hq : xcls[ci]? = some q) (hk : xkd n = ci + 3) (htl : xtl n = q.2.2) (hty : ∀ j, j < q.2.2 → defaultValue ((xnth xcty ci xY0) j) = match xnth (xrf n) j none with | none => .int 0 | some _ => .null) (hM : ∀ j, M.1 n j = 0) (hS0 : ∀ j, xin S n j = false) (hc : cn + 1 ≤ (yR Y).cells) (hs : sn + q.2.2 ≤ (yR Y).slots) (hd : decode (yB Y) pc = .ok (.new i, 3))
    (h : xC l G Y (pc + 3) lv (.ref n :: r) M (some (n + 1, S)) (cn + 1) (sn + q.2.2) Q) : xC l G Y pc lv r M (some (n, S)) cn sn Q := by
  intro p e s m args below meth c hx hz H locs ls hR hS hl
  have hts := hx.2.2.2.2.2.1
  have hn96 := xkd_obj hk (xci_lt hq)
  refine xW_of (fun T hT0 X => ?_)
  have hsz := xsz X hz hx.2.2.2.2.2.2.2.2.1 (by rw [hT0]; exact hR.2.1) (by rw [hT0]; exact hS)
  rw [hT0] at hsz
  have hsz' : H.size = gB G + n := hsz
  have hKn := hR.1.1 ci _ hq
  obtain ⟨o1, o2, o3⟩ := xcls_ok hq
  refine W.newcK hx.1 hx.2.1 hx.2.2.2.2.1 (hts _ hcl) (hts _ hins) (hts _ hini) rfl hd hc hs hKn.2.1 hsz' (fun H1 kC hkC e1 z1 o1' => ?_)
  have hent : va_at (gD G) xcls (gB G + n, xent G M (some (n + 1, S)) n) H1 := by
    rw [xent_o hk]
    refine ⟨q, hq, (u_born (xnth xcty ci xY0) hts o1 hKn hkC e1 o2).to (fun j hj => ?_)⟩
    rw [hty j hj]
    unfold vp_V
    rw [List.getD_eq_getElem?_getD, List.getElem?_map, List.getElem?_range (by rw [htl]; exact hj)]
    show _ = xfv G M (some (n + 1, S)) n j
    unfold xfv
    cases xnth (xrf n) j none with
    | none => simp [hM]
    | some t =>
      have : xis (some (n + 1, S)) n j = false := hS0 j
      simp [this]
  have hk2 := h p e s m args below meth c hx (by show s.heap.size + (cn + 1) = gB G + (n + 1); have : s.heap.size + cn = gB G + n := hz; omega) H1 locs ls (hR.grow o1' hsz' hent) ⟨by have := hS.1; omega, fun x h1 h2 => by rw [o1' x (by have := hS.1; omega)]; exact hS.2.1 x h1 h2, hS.2.2⟩ hl
  have e3 : (Value.ref n :: r).map (xcv G) = .ref (gB G + n) :: r.map (xcv G) := by
    show Value.ref (xad G n) :: _ = _
    rw [xad_lt hn96]
  rw [e3] at hk2
  exact hk2
theorem xc_newa {n : Nat} {S : List (Nat × Nat)} {t : ArrayType} {kd N : Nat} {x : Int32} (ht : (kd = 0 ∧ t = .int) ∨ (kd = 1 ∧ t = .long) ∨ (kd = 2 ∧ t = .boolean)) (hw : Cond.arrayClass (newarray.typeOf t) ∈ xtb) (h96 : n < 96) (hk : xkd n = kd) (htl : xtl n = N) (hx0 : ¬ x < 0) (hN : x.toNatClampNeg = N) (hNb : N ≤ 60000) (hM : ∀ j, M.1 n j = 0) (hM2 : ∀ j, M.2 n j = 0) (hc : cn + 1 ≤ (yR Y).cells) (hs : sn + N ≤ (yR Y).slots) (hd : decode (yB Y) pc = .ok (.newarray t, 2))
    (h : xC l G Y (pc + 2) lv (.ref n :: r) M (some (n + 1, S)) (cn + 1) (sn + N) Q) : xC l G Y pc lv (.int x :: r) M (some (n, S)) cn sn Q := by
  intro p e s m args below meth c hx hz H locs ls hR hS hl
  have hts := hx.2.2.2.2.2.1
  refine xW_of (fun T hT0 X => ?_)
  have hsz := xsz X hz hx.2.2.2.2.2.2.2.2.1 (by rw [hT0]; exact hR.2.1) (by rw [hT0]; exact hS)
  rw [hT0] at hsz
  have hsz' : H.size = gB G + n := hsz
  refine va_newaK hx.1 hx.2.1 (hts _ hw) rfl hd (rest := r.map (xcv G)) rfl hx0 hN ?_ hc hs hsz' (fun H1 cA e1 z1 o1 _ hNm => ?_)
  · rcases ht with ⟨-, rfl⟩ | ⟨-, rfl⟩ | ⟨-, rfl⟩ <;> simp [newarray.typeOf, componentBytes] <;> omega
  have hent : va_at (gD G) xcls (gB G + n, xent G M (some (n + 1, S)) n) H1 := by
    rcases ht with ⟨rfl, rfl⟩ | ⟨rfl, rfl⟩ | ⟨rfl, rfl⟩
    · rw [xent_i hk, htl]
      have hc1 : s.vm.findClass ("[" ++ FieldType.int.toString) = some (gI G) := (hR.1.2 0 _ rfl).2
      cases hNm.symm.trans hc1
      show H1[gB G + n]? = some (vp_cell _ _)
      rw [e1, vp_cell_i]
      congr 2
      funext j
      rw [hM j]
      rfl
    · rw [xent_l hk, htl]
      have hc1 : s.vm.findClass ("[" ++ FieldType.long.toString) = some (gJ G) := (hR.1.2 1 _ rfl).2
      cases hNm.symm.trans hc1
      show H1[gB G + n]? = some (vp_cell _ _)
      rw [e1, vp_cell_l]
      congr 2
      funext j
      rw [hM2 j]
      rfl
    · rw [xent_z hk, htl]
      have hc1 : s.vm.findClass ("[" ++ FieldType.boolean.toString) = some (gZ G) := (hR.1.2 2 _ rfl).2
      cases hNm.symm.trans hc1
      show H1[gB G + n]? = some (vp_cell _ _)
      rw [e1, vp_cell_i]
      congr 2
      funext j
      rw [hM j]
      rfl
  have hk2 := h p e s m args below meth c hx (by show s.heap.size + (cn + 1) = gB G + (n + 1); have : s.heap.size + cn = gB G + n := hz; omega) H1 locs ls (hR.grow o1 hsz' hent) ⟨by have := hS.1; omega, fun x h1 h2 => by rw [o1 x (by have := hS.1; omega)]; exact hS.2.1 x h1 h2, hS.2.2⟩ hl
  have e3 : (Value.ref n :: r).map (xcv G) = .ref (gB G + n) :: r.map (xcv G) := by
    show Value.ref (xad G n) :: _ = _
    rw [xad_lt h96]
  rw [e3] at hk2
  exact hk2
theorem xc_putF {i ci k j t n : Nat} {S : List (Nat × Nat)} {ty : FieldType} (hf : xFL Y.1.cls i ci j) (hk : xkd k = ci + 3) (hg : k < n) (hrf : xnth (xrf k) j none = some t) (ht96 : t < 96) (hty : (xnth xcty ci xY0) j = ty) (hfin : ∀ c, xcls[ci]? = some c → (c.2.1 j).2.2.2 = true ∧ (c.2.1 j).1 = Y.1.cls) (hnm : Y.1.name = "<init>") (hnar : ∀ a : Nat, narrow ty (.ref a) = .ref a ∧ fits ty (.ref a) = true) (hd : decode (yB Y) pc = .ok (.putfield i, 3)) (h : xC l G Y (pc + 3) lv r M (some (n, (k, j) :: S)) cn sn Q) : xC l G Y pc lv (.ref t :: .ref k :: r) M (some (n, S)) cn sn Q := by
  intro p e s m args below meth c hx hz H locs ls hR hS hl
  obtain ⟨q, hq, hj, hw⟩ := hf
  have hci := xci_lt hq
  have hk96 := xkd_obj hk hci
  obtain ⟨q', hq', htl⟩ := xtl_o k hk96 ci hci hk
  cases hq.symm.trans hq'
  have hP := hR.2.1
  have he := xwl_get (G := G) (M := M) (g := some (n, S)) hg
  rw [xent_o hk] at he
  have hk1 := hx.2.2.2.2.2.1
  obtain ⟨o1, o2, o3⟩ := xcls_ok hq
  show W p l e (yR Y) s m args below meth c H locs cn sn _ (F0 m pc ls (.ref (xad G t) :: .ref (xad G k) :: r.map (xcv G)))
  rw [xad_lt hk96, xad_lt ht96]
  refine va_putF hx.1 hx.2.1 hk1 o1 (xnth xcty ci xY0) o2 o3 hx.2.2.2.2.1 hR.1 hP xwl_D hS k he (C := q.1) (T := q.2.1) (N := q.2.2) hq j hj (hk1 _ hw) (fun x h => h) (hfin q hq).1 (hx.2.2.2.2.2.2.2.1.trans hnm) (hfin q hq).2 (ty := ty) (by rw [o2 j hj, hty]) (hnar _).1 (hnar _).2 (by simp; rw [htl]; exact hj) hd (fun H1 locs1 hP1 _ hS1 => ?_)
  have e1 : (xwl G M (some (n, S))).set k (gB G + k, .inr (ci, ((List.range (xtl k)).map (xfv G M (some (n, S)) k)).set j (.ref (gB G + t)))) = xwl G M (some (n, (k, j) :: S)) := by
    refine xwl_set rfl rfl ?_ (fun i hi => ?_)
    · rw [xent_o hk, xmap_set (f' := xfv G M (some (n, (k, j) :: S)) k)]
      · unfold xfv
        rw [hrf]
        simp [xis, xin]
      · intro i hi
        unfold xfv
        cases xnth (xrf k) i none with
        | none => rfl
        | some t' =>
          have h4 : xis (some (n, (k, j) :: S)) k i = xis (some (n, S)) k i := by simp [xis, xin]; intro h; exact absurd h.symm hi
          rw [h4]
    · have e2 : ∀ i', xfv G M (some (n, (k, j) :: S)) i i' = xfv G M (some (n, S)) i i' := by
        intro i'
        unfold xfv
        cases xnth (xrf i) i' none with
        | none => rfl
        | some t' =>
          have h4 : xis (some (n, (k, j) :: S)) i i' = xis (some (n, S)) i i' := by simp [xis, xin]; intro h; exact absurd h.symm hi
          rw [h4]
      have e3 : xfv G M (some (n, (k, j) :: S)) i = xfv G M (some (n, S)) i := funext e2
      unfold xent
      rw [e3]
  rw [e1] at hP1
  exact h p e s m args below meth c hx hz H1 locs1 ls (hR.stored hx.2.2.2.2.2.2.2.2.1 hS hP1 hS1) hS1 hl
theorem xc_obj {i k : Nat} (h1 : Cond.methodLink Y.1.cls i objectInit ∈ xtb) (h2 : Cond.instanceMethod objectInit ∈ xtb) (h3 : Cond.code objectInit ⟨#[0xb1]⟩ 1 none ∈ xtb) (hr : (r.map fun v => v.category).sum ≤ 8) (hrm : 1 ≤ (yR Y).frames ∧ 20 ≤ (yR Y).locals) (hd : decode (yB Y) pc = .ok (.invokespecial i, 3)) (h : xC l G Y (pc + 3) lv r M g cn sn Q) : xC l G Y pc lv (.ref k :: r) M g cn sn Q := by
  intro p e s m args below meth c hx hz H locs ls hR hS hl
  have hts := hx.2.2.2.2.2.1
  exact W.objInit hx.1 hx.2.1 hx.2.2.2.2.1 (hts _ h1) (hts _ h2) (hts _ h3) rfl (hl.1.trans hx.2.2.2.1.symm) (rest := r.map (xcv G)) rfl hd hrm.1 (by show 2 * 0 + _ + 12 ≤ _; rw [xmap_cat]; omega) (h p e s m args below meth c hx hz H locs ls hR hS hl)
/-- all is made -/
theorem xc_seal {S : List (Nat × Nat)} (hS0 : ∀ k, k < 96 → ∀ j, j < 60 → (xnth (xrf k) j none).isSome = true → xin S k j = true) (h : xC l G Y pc lv st M none cn sn Q) : xC l G Y pc lv st M (some (96, S)) cn sn Q := by
  intro p e s m args below meth c hx hz H locs ls hR hS hl
  refine h p e s m args below meth c hx trivial H locs ls ?_ hS hl
  obtain ⟨h1, h2, h3⟩ := hR
  refine ⟨h1, ?_, h3⟩
  have e1 : xwl G M (some (96, S)) = xwl G M none := by
    show (List.range 96).map _ = (List.range 96).map _
    apply List.map_congr_left
    intro k hk
    have hk96 := List.mem_range.mp hk
    have e2 : ∀ n, xkd k = n + 3 → (List.range (xtl k)).map (xfv G M (some (96, S)) k) = (List.range (xtl k)).map (xfv G M none k) := by
      intro n hn
      apply List.map_congr_left
      intro j hj
      have hj1 := List.mem_range.mp hj
      have hj60 : j < 60 := by
        have : ∀ k, k < 96 → xkd k ≥ 3 → xtl k < 60 := by decide +kernel
        have := this k hk96 (by omega)
        omega
      unfold xfv
      cases ht : xnth (xrf k) j none with
      | none => rfl
      | some t =>
        have h4 : xis (some (96, S)) k j = true := hS0 k hk96 j hj60 (by rw [ht]; rfl)
        have h5 : xis none k j = true := rfl
        rw [h4, h5]
    have e3 : xent G M (some (96, S)) k = xent G M none k := by
      match hkd : xkd k with
      | 0 => rw [xent_i hkd, xent_i hkd]
      | 1 => rw [xent_l hkd, xent_l hkd]
      | 2 => rw [xent_z hkd, xent_z hkd]
      | n + 3 => rw [xent_o hkd, xent_o hkd, e2 n hkd]
    show (gB G + k, _) = (gB G + k, _)
    rw [e3]
  rw [← e1]
  exact h2
end XM
