/-! links lead from things to things -/
theorem lk_36 {P : sP} (hw : wP P) {V : sV} (h : fin P V) {x y : Nat} (z : vLk V x y) : x < 36 ∧ y < 36 := by
  obtain ⟨_, _, _, f4⟩ := fin_aux hw h
  obtain ⟨f, i, q, hf, hq, hc, hr⟩ := (f4 x y).mp z
  have hv : vN q := (hw.2.2.2.1 f hf).2 q (List.mem_of_getElem? hq)
  obtain ⟨o, a, b, c⟩ := q
  rcases hr with ⟨e, y1, y2⟩ | ⟨e, y1, y2, _⟩ | ⟨e, y1, y2, _⟩ | ⟨e, y1, p, t, y3, y4, y5, y6⟩
  · replace e : o = 5 := e
    subst e
    obtain ⟨k, hk, x1, ek⟩ := vF_n hv.1
    have : ix a < 12 := by rw [ek]; exact hk
    have y2' : y = ix a := y2
    omega
  · replace e : o = 3 := e
    subst e
    obtain ⟨k, hk, x1, ek⟩ := vT_n hv.2.1
    have : ix b < 24 := by rw [ek]; exact hk
    have y2' : y = 12 + ix b := y2
    omega
  · replace e : o = 11 := e
    subst e
    obtain ⟨k, hk, x1, ek⟩ := vT_n hv.2.1
    have : ix b < 24 := by rw [ek]; exact hk
    have y2' : y = 12 + ix b := y2
    omega
  · replace e : o = 11 := e
    subst e
    obtain ⟨k, hk, x1, ek⟩ := vT_n hv.2.1
    have hb : ix b < 24 := by rw [ek]; exact hk
    have y1' : x = 12 + ix b := y1
    have := (hw.2.2.1 (ix b) hb p y3 t y5).1
    omega
