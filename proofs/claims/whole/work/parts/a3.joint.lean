/-! both sides at once: what holds between calls -/
def sIn (P : sP) (L : List Nat) : sP := (pS P, pA P, pG P, pV P, pO P, pR P, pC P, pE P, L)
theorem place_in' {P : sP} (L : List Nat) : place (sIn P L) = place P := rfl
theorem rdq_in {P : sP} (L : List Nat) : rdq (sIn P L) = rdq P := rfl
theorem wrq_in {P : sP} (L : List Nat) : wrq (sIn P L) = wrq P := rfl
theorem lkq_in {P : sP} (L : List Nat) : lkq (sIn P L) = lkq P := rfl
theorem okx_in {P : sP} (L : List Nat) : okx (sIn P L) = okx P := by
  funext V f i q
  unfold okx
  rw [rdq_in, wrq_in, lkq_in] <;> rfl
theorem gxs_in {P : sP} (L : List Nat) : gxs (sIn P L) = gxs P := rfl
theorem sub_in {P : sP} (L : List Nat) : sub (sIn P L) = sub P := by
  funext V Z
  unfold sub
  rw [rdq_in, wrq_in, lkq_in, gxs_in] <;> rfl
theorem bas_in {P : sP} (L : List Nat) : bas (sIn P L) = bas P := rfl
theorem ini_in {P : sP} (L : List Nat) : ini (sIn P L) = ini P := by
  funext V
  unfold ini
  rw [place_in'] <;> rfl
theorem eg_in {P : sP} (L : List Nat) : eg (sIn P L) = eg P := by
  funext V f i q g j X
  unfold eg
  rw [place_in'] <;> rfl
theorem okg_in {P : sP} (L : List Nat) : okg (sIn P L) = okg P := by
  funext V esc f i q
  unfold okg
  rw [place_in', eg_in] <;> rfl
theorem cls_in {P : sP} (L : List Nat) : cls (sIn P L) = cls P := by
  funext V
  unfold cls
  rw [ini_in, okg_in] <;> rfl
theorem fin_in {P : sP} {V : sV} (L : List Nat) (h : fin P V) : fin (sIn P L) V := by
  unfold fin
  rw [cls_in, bas_in, okx_in, sub_in]
  exact h
theorem kp0_in {P : sP} (L : List Nat) : kp0 (sIn P L) = kp0 P := rfl
theorem kpt_in {P : sP} (L : List Nat) : kpt (sIn P L) = kpt P := by
  funext V k
  unfold kpt
  rw [kp0_in] <;> rfl
theorem stl_in {P : sP} (L : List Nat) : stl (sIn P L) = stl P := by
  funext V k
  unfold stl
  rw [kpt_in] <;> rfl
theorem ens_in {P : sP} (L : List Nat) : ens (sIn P L) = ens P := rfl
theorem alk_in {P : sP} (L : List Nat) : alk (sIn P L) = alk P := by
  funext T i k
  unfold alk
  rw [ens_in] <;> rfl
theorem sfr_in {P : sP} (L : List Nat) : sfr (sIn P L) = sfr P := by
  funext T k
  unfold sfr
  rw [alk_in] <;> rfl
theorem amx_in {P : sP} (L : List Nat) (T : Nat → Prop) (k : Nat) : ∀ n, amx (sIn P L) T k n = amx P T k n
  | 0 => rfl
  | n + 1 => by
    show (if tb (k < n ∧ alk (sIn P L) T k n) = true then max (amx (sIn P L) T k n) (pA P n) else amx (sIn P L) T k n) = (if tb (k < n ∧ alk P T k n) = true then max (amx P T k n) (pA P n) else amx P T k n)
    rw [alk_in, amx_in L T k n] <;> rfl
theorem aln_in {P : sP} (L : List Nat) : aln (sIn P L) = aln P := by
  funext T k
  unfold aln
  rw [sfr_in, amx_in] <;> rfl
theorem sts_in {P : sP} (L : List Nat) : sts (sIn P L) = sts P := by
  funext T k
  unfold sts
  rw [sfr_in] <;> rfl
theorem fit_in {P : sP} (L : List Nat) : fit (sIn P L) = fit P := by
  funext T o x y
  unfold fit
  rw [sts_in, ens_in, aln_in] <;> rfl
theorem oun_in {P : sP} (L : List Nat) (T : Nat → Prop) : ∀ n, oun (sIn P L) T n = oun P T n
  | 0 => rfl
  | n + 1 => by
    show un (oun (sIn P L) T n) n _ = un (oun P T n) n _
    rw [oun_in L T n, sts_in, fit_in] <;> rfl
theorem ouf_in {P : sP} (L : List Nat) : ouf (sIn P L) = ouf P := by
  funext T
  exact oun_in L T 24
theorem bls_in {P : sP} (L : List Nat) (K T : Nat → Prop) : ∀ n, bls (sIn P L) K T n = bls P K T n
  | 0 => rfl
  | n + 1 => by
    show (if tb (K n ∧ sfr (sIn P L) T n = none ∧ ouf (sIn P L) T n = none) = true then bls (sIn P L) K T n ++ [n] else bls (sIn P L) K T n) = (if tb (K n ∧ sfr P T n = none ∧ ouf P T n = none) = true then bls P K T n ++ [n] else bls P K T n)
    rw [bls_in L K T n, sfr_in, ouf_in] <;> rfl
theorem isR_in {P : sP} {V : sV} {R : List Nat} (L : List Nat) (h : isR P V R) : isR (sIn P L) V R := by
  unfold isR
  rw [stl_in, aln_in, kpt_in, bls_in]
  exact h
theorem ad1_in {P : sP} (L : List Nat) : ad1 (sIn P L) = ad1 P := by
  funext T R k
  unfold ad1
  rw [ouf_in, aln_in] <;> rfl
theorem ad2_in {P : sP} (L : List Nat) : ad2 (sIn P L) = ad2 P := by
  funext T R k
  unfold ad2
  rw [sfr_in, ad1_in] <;> rfl
theorem cSh_in {P : sP} {V : sV} {R : List Nat} {M : xMe} (L : List Nat) (h : cSh P V R M) : cSh (sIn P L) V R M := by
  unfold cSh cLy
  rw [stl_in, kpt_in, sfr_in, ouf_in, ad2_in, aln_in]
  exact h
theorem mSh_in {P : sP} {V : sV} {R : List Nat} {M : xMe} (L : List Nat) (h : mSh P V R M) : mSh (sIn P L) V R M := by
  unfold mSh mLy
  rw [stl_in, kpt_in, sfr_in, ouf_in, ad2_in, aln_in]
  exact h
theorem cX_fr {X : sX} {S : List Nat} {M M' : xMe} (h : xfr S M M') (hS : 43 ∉ S ∧ 49 ∉ S) (hM : cX X M) : cX X M' := by
  unfold cX
  rw [(h 43 hS.1).1, (h 49 hS.2).1]
  exact hM
theorem c44_fr {S : List Nat} {M M' : xMe} (h : xfr S M M') (hS : 44 ∉ S) (hM : c44 M) : c44 M' := by
  unfold c44
  rw [(h 44 hS).1]
  exact hM
theorem c21_fr {S : List Nat} {M M' : xMe} (h : xfr S M M') (hS : 21 ∉ S ∧ 23 ∉ S) (hM : c21 M) : c21 M' := by
  unfold c21
  rw [(h 21 hS.1).2, (h 23 hS.2).2]
  exact hM
abbrev wcl : List Nat := [19, 20, 21, 23, 27, 28, 29, 30, 34, 36, 38, 39, 40, 42]
theorem cSh_fr {P : sP} {V : sV} {R : List Nat} {S : List Nat} {M M' : xMe} (h : xfr S M M') (hS : ∀ c, c ∈ wcl → c ∉ S) (hM : cSh P V R M) : cSh P V R M' := by
  have e := fun c hc => h c (hS c hc)
  obtain ⟨⟨l34, l36, l38, l39, l40, l11, l13, l42⟩, s21, s23, s27, s28, s29, s20, s19⟩ := hM
  refine ⟨⟨?_, ?_, ?_, ?_, ?_, ?_, ?_, ?_⟩, ?_, ?_, ?_, ?_, ?_, ?_, ?_⟩
  · unfold c34; rw [(e 34 (by decide)).1]; exact l34
  · unfold c36; rw [(e 36 (by decide)).1]; exact l36
  · unfold c38; rw [(e 38 (by decide)).1]; exact l38
  · unfold c38; rw [(e 39 (by decide)).1]; exact l39
  · unfold c38; rw [(e 40 (by decide)).1]; exact l40
  · rw [(e 30 (by decide)).1]; exact l11
  · rw [(e 30 (by decide)).1]; exact l13
  · rw [(e 42 (by decide)).1]; exact l42
  · unfold cS21; rw [(e 21 (by decide)).2]; exact s21
  · unfold cB; rw [(e 23 (by decide)).2]; exact s23
  · unfold cB; rw [(e 27 (by decide)).2]; exact s27
  · unfold cZ; rw [(e 28 (by decide)).1]; exact s28
  · unfold cZ; rw [(e 29 (by decide)).1]; exact s29
  · rw [(e 20 (by decide)).1]; exact s20
  · rw [(e 19 (by decide)).1]; exact s19
theorem cW_fr {Z : sZ} {S : List Nat} {M M' : xMe} (h : xfr S M M') (hS : ∀ c, c ∈ wcl → c ∉ S) (h4 : M'.1 0 4 = M.1 0 4) (hM : cW Z M) : cW Z M' := by
  refine ⟨by rw [h4]; exact hM.1, fun P V R e => ?_⟩
  obtain ⟨a, b, c, d⟩ := hM.2 P V R e
  exact ⟨a, b, c, cSh_fr h hS d⟩
theorem mX_fr {X : sX} {S : List Nat} {M M' : xMe} (h : xfr S M M') (hS : 66 ∉ S) (h50 : ∀ s, s ∈ [20, 21, 22, 23, 24] → M'.1 50 s = M.1 50 s) (hM : mX X M) : mX X M' := by
  unfold mX
  rw [(h 66 hS).1, h50 20 (by decide), h50 21 (by decide), h50 22 (by decide), h50 23 (by decide), h50 24 (by decide)]
  exact hM
theorem m73b_fr {S : List Nat} {M M' : xMe} (h : xfr S M M') (hS : 73 ∉ S) (h50 : M'.1 50 39 = M.1 50 39) (hM : m73b M) : m73b M' := by
  unfold m73b mo
  rw [(h 73 hS).1, h50]
  exact hM
abbrev wml : List Nat := [69, 72, 74, 76, 77, 80, 81, 82, 83, 84, 85, 86, 87, 89]
theorem mSh_fr {P : sP} {V : sV} {R : List Nat} {S : List Nat} {M M' : xMe} (h : xfr S M M') (hS : ∀ c, c ∈ wml → c ∉ S) (h50 : ∀ s, s ∈ [56, 57] → M'.1 50 s = M.1 50 s) (hM : mSh P V R M) : mSh P V R M' := by
  have e := fun c hc => h c (hS c hc)
  obtain ⟨⟨l86, l87, l85, l56, l57, l89⟩, s80, s83, s81, s72, s69, s74, s76, s77, s82⟩ := hM
  refine ⟨⟨?_, ?_, ?_, ?_, ?_, ?_⟩, ?_, ?_, ?_, ?_, ?_, ?_, ?_, ?_, ?_⟩
  · unfold c38; rw [(e 86 (by decide)).1]; exact l86
  · unfold c38; rw [(e 87 (by decide)).1]; exact l87
  · unfold mA; rw [(e 85 (by decide)).1]; exact l85
  · rw [h50 56 (by decide)]; exact l56
  · rw [h50 57 (by decide)]; exact l57
  · rw [(e 89 (by decide)).1]; exact l89
  · unfold c36; rw [(e 80 (by decide)).1]; exact s80
  · rw [(e 83 (by decide)).1]; exact s83
  · rw [(e 81 (by decide)).1, (e 84 (by decide)).1]; exact s81
  · rw [(e 72 (by decide)).1]; exact s72
  · rw [(e 69 (by decide)).2]; exact s69
  · unfold mKP; rw [(e 74 (by decide)).1]; exact s74
  · unfold c36; rw [(e 76 (by decide)).1]; exact s76
  · unfold c36; rw [(e 77 (by decide)).1]; exact s77
  · rw [(e 82 (by decide)).1]; exact s82
theorem mW_fr {Z : sZ} {S : List Nat} {M M' : xMe} (h : xfr S M M') (hS : ∀ c, c ∈ wml → c ∉ S) (h50 : ∀ s, s ∈ [27, 56, 57] → M'.1 50 s = M.1 50 s) (hM : mW Z M) : mW Z M' := by
  refine ⟨by rw [h50 27 (by decide)]; exact hM.1, fun P V R e => ?_⟩
  obtain ⟨a, b, c, d⟩ := hM.2 P V R e
  exact ⟨a, b, c, mSh_fr h hS (fun s hs => h50 s (List.mem_cons_of_mem _ hs)) d⟩
/-- the class's half, the reference's half -/
def cJ (P : sP) (X : sX) (Z : sZ) (lh : Bool) (M : xMe) : Prop := cP P M ∧ cX X M ∧ c44 M ∧ c21 M ∧ cW Z M ∧ M.1 0 5 = b2 lh
def mJ (P : sP) (X : sX) (Z : sZ) (lh : Bool) (M : xMe) : Prop := mP P M ∧ mX X M ∧ m73b M ∧ mW Z M ∧ M.1 50 26 = b2 lh
def wJ (P : sP) (X : sX) (Z : sZ) (lh : Bool) : Prop := wP P ∧ wX X ∧ (lh = true → ∃ V R, Z = some (P, V, R))
def jJ (M : xMe) : Prop := ∃ P X Z lh, wJ P X Z lh ∧ cJ P X Z lh M ∧ mJ P X Z lh M
theorem cJ_fr {P : sP} {X : sX} {Z : sZ} {lh : Bool} {S : List Nat} {M M' : xMe} (h : xfr S M M') (hS : ∀ c, c ∈ S → 50 ≤ c) (hM : cJ P X Z lh M) : cJ P X Z lh M' := by
  have hn : ∀ c, c < 50 → c ∉ S := fun c hc z => by have := hS c z; omega
  obtain ⟨a, b, c, d, e, f⟩ := hM
  have h0 := (h 0 (hn 0 (by omega))).1
  refine ⟨cP_fr h (fun c hc => by have := hS c hc; omega) a, cX_fr h ⟨hn _ (by omega), hn _ (by omega)⟩ b, c44_fr h (hn _ (by omega)) c, c21_fr h ⟨hn _ (by omega), hn _ (by omega)⟩ d, cW_fr h (fun c hc => hn c ?_) (by rw [h0]) e, by rw [h0]; exact f⟩
  have : ∀ c, c ∈ wcl → c < 50 := by decide
  exact this c hc
theorem mJ_fr {P : sP} {X : sX} {Z : sZ} {lh : Bool} {S : List Nat} {M M' : xMe} (h : xfr S M M') (hS : ∀ c, c ∈ S → c < 50) (hM : mJ P X Z lh M) : mJ P X Z lh M' := by
  have hn : ∀ c, 50 ≤ c → c ∉ S := fun c hc z => by have := hS c z; omega
  obtain ⟨a, b, c, d, e⟩ := hM
  have h0 := (h 50 (hn 50 (by omega))).1
  refine ⟨mP_fr h (fun c hc z => ?_) (by rw [h0]) a, mX_fr h (hn _ (by omega)) (fun s _ => by rw [h0]) b, m73b_fr h (hn _ (by omega)) (by rw [h0]) c, mW_fr h (fun c hc => hn c ?_) (fun s _ => by rw [h0]) d, by rw [h0]; exact e⟩
  · have h1 := hS c hc
    have : ∀ c, c ∈ [51, 52, 53, 54, 55, 56, 57, 58, 59, 60, 61, 62, 63] → 50 ≤ c := by decide
    have := this c z
    omega
  · have : ∀ c, c ∈ wml → 50 ≤ c := by decide
    exact this c hc
/-- something of the program was told, or refused -/
theorem cJ_tell {P P' : sP} {X : sX} {Z : sZ} {lh ac : Bool} {S : List Nat} {M M' : xMe} (hM : cJ P X Z lh M) (hP : cP P' M') (hf : ac = false → M' = M) (ht : ac = true → M'.1 0 = upd (M.1 0) 5 0) (h : xfr S M M') (hS : ∀ c, c ∈ S → c < 16) : cJ P' X Z (lh && !ac) M' := by
  have hn : ∀ c, 16 ≤ c → c ∉ S := fun c hc z => by have := hS c z; omega
  obtain ⟨a, b, c, d, e, f⟩ := hM
  have h04 : M'.1 0 4 = M.1 0 4 := by
    cases ac with
    | false => rw [hf rfl]
    | true => rw [ht rfl, upd_n (by decide)]
  refine ⟨hP, cX_fr h ⟨hn _ (by omega), hn _ (by omega)⟩ b, c44_fr h (hn _ (by omega)) c, c21_fr h ⟨hn _ (by omega), hn _ (by omega)⟩ d, cW_fr h (fun c hc => hn c ?_) h04 e, ?_⟩
  · have : ∀ c, c ∈ wcl → 16 ≤ c := by decide
    exact this c hc
  · cases ac with
    | false => rw [hf rfl, f]; simp
    | true => rw [ht rfl, upd_s]; simp; rfl
theorem mJ_tell {P P' : sP} {X : sX} {Z : sZ} {lh ac : Bool} {S : List Nat} {M M' : xMe} (hM : mJ P X Z lh M) (hP : mP P' M') (hf : ac = false → M' = M) (ht : ac = true → M'.1 50 = upd (M.1 50) 26 0) (h : xfr S M M') (hS : ∀ c, c ∈ S → c < 64) : mJ P' X Z (lh && !ac) M' := by
  have hn : ∀ c, 64 ≤ c → c ∉ S := fun c hc z => by have := hS c z; omega
  obtain ⟨a, b, c, d, e⟩ := hM
  have h50 : ∀ s, s ≠ 26 → M'.1 50 s = M.1 50 s := by
    intro s hs
    cases ac with
    | false => rw [hf rfl]
    | true => rw [ht rfl, upd_n hs]
  refine ⟨hP, mX_fr h (hn _ (by omega)) (fun s hs => h50 s (by intro z; subst z; revert hs; decide)) b, m73b_fr h (hn _ (by omega)) (h50 39 (by decide)) c, mW_fr h (fun c hc => hn c ?_) (fun s hs => h50 s (by intro z; subst z; revert hs; decide)) d, ?_⟩
  · have : ∀ c, c ∈ wml → 64 ≤ c := by decide
    exact this c hc
  · cases ac with
    | false => rw [hf rfl, e]; simp
    | true => rw [ht rfl, upd_s]; simp; rfl
theorem wJ_tell {P P' : sP} {X : sX} {Z : sZ} {lh ac : Bool} (h : wJ P X Z lh) (hw : wP P') (he : ac = false → P' = P) : wJ P' X Z (lh && !ac) := by
  refine ⟨hw, h.2.1, fun z => ?_⟩
  rw [Bool.and_eq_true] at z
  have : ac = false := by
    cases ac with
    | false => rfl
    | true => simp at z
  rw [he this]
  exact h.2.2 z.1
/-- the input alone changes -/
noncomputable def zIn (Z : sZ) (lh : Bool) (P' : sP) : sZ := if lh = true then Z.map (fun q => (P', q.2)) else Z
theorem zIn_some {Z : sZ} {lh : Bool} {P' : sP} : (zIn Z lh P').isSome = Z.isSome := by
  unfold zIn
  split
  · cases Z <;> rfl
  · rfl
theorem cJ_in {P P' : sP} {X : sX} {Z : sZ} {lh : Bool} {S : List Nat} {M M' : xMe} (hw : wJ P X Z lh) (hM : cJ P X Z lh M) (hw' : wP P') {L : List Nat} (hL : P' = sIn P L) (hP : cP P' M') (h : xfr S M M') (hS : ∀ c, c ∈ S → c = 1 ∨ c = 15) : cJ P' X (zIn Z lh P') lh M' := by
  have hn : ∀ c, ¬ c = 1 → ¬ c = 15 → c ∉ S := fun c h1 h2 z => (hS c z).elim h1 h2
  obtain ⟨a, b, c, d, e, f⟩ := hM
  have h0 := (h 0 (hn 0 (by omega) (by omega))).1
  have hcW : cW Z M' := cW_fr h (fun c hc => hn c (by intro z; subst z; revert hc; decide) (by intro z; subst z; revert hc; decide)) (by rw [h0]) e
  refine ⟨hP, cX_fr h ⟨hn _ (by omega) (by omega), hn _ (by omega) (by omega)⟩ b, c44_fr h (hn _ (by omega) (by omega)) c, c21_fr h ⟨hn _ (by omega) (by omega), hn _ (by omega) (by omega)⟩ d, ⟨by rw [zIn_some]; exact hcW.1, fun P1 V R e1 => ?_⟩, by rw [h0]; exact f⟩
  unfold zIn at e1
  cases lh with
  | false => exact hcW.2 P1 V R e1
  | true =>
    obtain ⟨V0, R0, eZ⟩ := hw.2.2 rfl
    rw [eZ] at e1
    simp at e1
    obtain ⟨rfl, rfl, rfl⟩ := e1
    obtain ⟨q1, q2, q3, q4⟩ := hcW.2 P V0 R0 eZ
    rw [hL] at hw' ⊢
    exact ⟨hw', fin_in L q2, isR_in L q3, cSh_in L q4⟩
theorem mJ_in {P P' : sP} {X : sX} {Z : sZ} {lh : Bool} {S : List Nat} {M M' : xMe} (hw : wJ P X Z lh) (hM : mJ P X Z lh M) (hw' : wP P') {L : List Nat} (hL : P' = sIn P L) (hP : mP P' M') (h50 : ∀ j, j ≠ 14 → M'.1 50 j = M.1 50 j) (h : xfr S M M') (hS : ∀ c, c ∈ S → c = 50 ∨ c = 63) : mJ P' X (zIn Z lh P') lh M' := by
  have hn : ∀ c, 64 ≤ c → c ∉ S := fun c h1 z => by have := hS c z; omega
  obtain ⟨a, b, c, d, e⟩ := hM
  have hwm : ∀ c, c ∈ wml → 64 ≤ c := by decide
  have hmW : mW Z M' := mW_fr h (fun c hc => hn c (hwm c hc)) (fun s hs => h50 s (by intro z; subst z; revert hs; decide)) d
  refine ⟨hP, mX_fr h (hn _ (by omega)) (fun s hs => h50 s (by intro z; subst z; revert hs; decide)) b, m73b_fr h (hn _ (by omega)) (h50 39 (by decide)) c, ⟨by rw [zIn_some]; exact hmW.1, fun P1 V R e1 => ?_⟩, by rw [h50 26 (by decide)]; exact e⟩
  unfold zIn at e1
  cases lh with
  | false => exact hmW.2 P1 V R e1
  | true =>
    obtain ⟨V0, R0, eZ⟩ := hw.2.2 rfl
    rw [eZ] at e1
    simp at e1
    obtain ⟨rfl, rfl, rfl⟩ := e1
    obtain ⟨q1, q2, q3, q4⟩ := hmW.2 P V0 R0 eZ
    rw [hL] at hw' ⊢
    exact ⟨hw', fin_in L q2, isR_in L q3, mSh_in L q4⟩
theorem wJ_in {P P' : sP} {X : sX} {Z : sZ} {lh : Bool} (h : wJ P X Z lh) (hw : wP P') : wJ P' X (zIn Z lh P') lh := by
  refine ⟨hw, h.2.1, fun z => ?_⟩
  obtain ⟨V, R, e⟩ := h.2.2 z
  exact ⟨V, R, by unfold zIn; rw [if_pos z, e]; rfl⟩
