def xfw (cls : String) (q : Nat × Nat × Nat) : Cond := match xcls[q.2.1]? with
  | some c => .fieldLink cls q.1 (c.2.1 q.2.2).1 (c.2.1 q.2.2).2.1 (c.2.1 q.2.2).2.2.1
  | none => .tt
theorem xKf {cls : String} {L : List (Nat × Nat × Nat)} (ps : List Nat) (h1 : L.all (fun q => match xcls[q.2.1]? with | some c => Nat.blt q.2.2 c.2.2 | none => false) = true) (h2 : L.map (xfw cls) = ps.filterMap (fun i => lw_tbl[i]?)) : ∀ q ∈ L, xFL cls q.1 q.2.1 q.2.2 := by
  intro q hq
  have h3 := List.all_eq_true.mp h1 q hq
  have h4 := xmem ps h2 (xfw cls q) (List.mem_map_of_mem hq)
  unfold xfw at h4
  cases hc : xcls[q.2.1]? with
  | none => rw [hc] at h3; cases h3
  | some c =>
    rw [hc] at h3 h4
    exact ⟨c, hc, Nat.blt_eq.mp h3, xtbm h4 rfl⟩
def xcw (cls : String) (q : Nat × Value) : Cond := match q.2 with
  | .int c => .constant cls q.1 c
  | .long c => .constantLong cls q.1 c
  | _ => .tt
theorem xKc {cls : String} {L : List (Nat × Value)} (ps : List Nat) (h1 : L.all (fun q => match q.2 with | .int _ => true | .long _ => true | _ => false) = true) (h2 : L.map (xcw cls) = ps.filterMap (fun i => lw_tbl[i]?)) : ∀ q ∈ L, match q.2 with | .int c => Cond.constant cls q.1 c ∈ xtb | .long c => Cond.constantLong cls q.1 c ∈ xtb | _ => False := by
  intro q hq
  have h3 := List.all_eq_true.mp h1 q hq
  have h4 := xmem ps h2 (xcw cls q) (List.mem_map_of_mem hq)
  obtain ⟨i, v⟩ := q
  cases v with
  | int c => exact xtbm h4 rfl
  | long c => exact xtbm h4 rfl
  | _ => cases h3
def xk_DS : xK := ([(79, 4, 7), (87, 4, 12), (91, 4, 14), (164, 1, 1), (160, 5, 1), (181, 5, 2), (172, 5, 5), (138, 5, 9), (148, 5, 10), (151, 5, 11), (169, 2, 3), (131, 2, 5), (202, 2, 7), (209, 2, 8), (154, 2, 9), (199, 2, 11), (186, 2, 12), (125, 2, 13), (12, 6, 0), (21, 6, 1), (30, 6, 2), (37, 6, 3), (122, 6, 4), (49, 6, 5)], [], [])
set_option maxRecDepth 20000 in
theorem xk_DS_ok : xKok "DataShrinker" xk_DS := ⟨xKf [132, 149, 152, 203, 211, 213, 217, 223, 226, 229, 278, 281, 284, 286, 289, 292, 295, 296, 376, 377, 378, 379, 380, 381] (by decide +kernel) rfl, xKc [] (by decide +kernel) rfl, fun _ h => absurd h List.not_mem_nil⟩
def xk_Pr : xK := ([(9, 4, 0), (15, 4, 1), (18, 4, 2), (21, 4, 3), (25, 4, 4), (28, 4, 5), (31, 4, 6), (35, 4, 7), (38, 4, 8), (41, 4, 9), (44, 4, 10), (47, 4, 11), (50, 4, 12), (53, 4, 13), (86, 4, 14)], [(70, .long (-1))], [])
set_option maxRecDepth 20000 in
theorem xk_Pr_ok : xKok "DataShrinker$Program" xk_Pr := ⟨xKf [112, 115, 117, 119, 121, 125, 128, 131, 135, 138, 141, 144, 147, 150, 153] (by decide +kernel) rfl, xKc [416] (by decide +kernel) rfl, fun _ h => absurd h List.not_mem_nil⟩
def xk_Re : xK := ([(125, 4, 0), (128, 4, 4), (244, 4, 5), (241, 4, 6), (112, 4, 7), (139, 4, 8), (142, 4, 9), (145, 4, 10), (175, 4, 11), (74, 4, 12), (53, 5, 0), (14, 5, 1), (20, 5, 2), (24, 5, 3), (28, 5, 4), (31, 5, 5), (34, 5, 6), (37, 5, 7), (40, 5, 8), (43, 5, 9), (46, 5, 10), (50, 5, 11)], [(69, .int 1000000), (166, .long (-1)), (235, .long (-2)), (83, .long (-1099511627777))], [])
set_option maxRecDepth 20000 in
theorem xk_Re_ok : xKok "DataShrinker$Reach" xk_Re := ⟨xKf [113, 123, 127, 130, 133, 136, 140, 143, 146, 148, 209, 210, 212, 214, 215, 216, 218, 219, 220, 221, 224, 227] (by decide +kernel) rfl, xKc [670, 682, 723, 899] (by decide +kernel) rfl, fun _ h => absurd h List.not_mem_nil⟩
def xk_Ch : xK := ([(9, 1, 0), (15, 1, 1)], [(32, .long (-1))], [])
set_option maxRecDepth 20000 in
theorem xk_Ch_ok : xKok "DataShrinker$Chains" xk_Ch := ⟨xKf [201, 202] (by decide +kernel) rfl, xKc [773] (by decide +kernel) rfl, fun _ h => absurd h List.not_mem_nil⟩
def xk_La : xK := ([(93, 4, 0), (102, 4, 1), (118, 4, 2), (109, 4, 3), (143, 4, 4), (124, 4, 6), (112, 5, 9), (121, 5, 10), (127, 5, 11), (47, 2, 0), (51, 2, 1), (12, 2, 2), (18, 2, 3), (22, 2, 4), (25, 2, 5), (29, 2, 6), (32, 2, 7), (35, 2, 8), (38, 2, 9), (41, 2, 10), (154, 2, 11), (44, 2, 12), (165, 2, 13)], [], [])
set_option maxRecDepth 20000 in
theorem xk_La_ok : xKok "DataShrinker$Layout" xk_La := ⟨xKf [114, 116, 118, 120, 124, 129, 222, 225, 228, 274, 275, 276, 277, 279, 280, 282, 283, 285, 287, 290, 291, 293, 297] (by decide +kernel) rfl, xKc [] (by decide +kernel) rfl, fun _ h => absurd h List.not_mem_nil⟩
def xk_BO : xK := ([(11, 0, 0), (15, 0, 1)], [(36, .int 1000000)], [])
set_option maxRecDepth 20000 in
theorem xk_BO_ok : xKok "DataShrinker$BlockOrder" xk_BO := ⟨xKf [267, 268] (by decide +kernel) rfl, xKc [844] (by decide +kernel) rfl, fun _ h => absurd h List.not_mem_nil⟩
def xk_Ma : xK := ([(34, 4, 4), (166, 4, 5), (83, 4, 7), (114, 4, 8), (105, 4, 9), (108, 4, 10), (111, 4, 11), (160, 4, 13), (157, 4, 14), (45, 2, 9), (50, 2, 12), (30, 3, 0), (9, 3, 1), (15, 3, 2), (18, 3, 3), (21, 3, 4), (24, 3, 5), (27, 3, 6), (51, 3, 7), (86, 3, 8), (62, 3, 9), (65, 3, 10), (102, 3, 11), (55, 3, 12), (59, 3, 13)], [(82, .int 1000000)], [])
set_option maxRecDepth 20000 in
theorem xk_Ma_ok : xKok "DataShrinker$Machine" xk_Ma := ⟨xKf [122, 126, 134, 137, 139, 142, 145, 151, 154, 288, 294, 333, 334, 335, 336, 337, 338, 339, 340, 341, 342, 343, 344, 345, 346] (by decide +kernel) rfl, xKc [512] (by decide +kernel) rfl, fun _ h => absurd h List.not_mem_nil⟩
def xk_JM : xK := ([], [], [])
set_option maxRecDepth 20000 in
theorem xk_JM_ok : xKok "java/lang/Math" xk_JM := ⟨xKf [] (by decide +kernel) rfl, xKc [] (by decide +kernel) rfl, fun _ h => absurd h List.not_mem_nil⟩
def xk_JA : xK := ([], [], [])
set_option maxRecDepth 20000 in
theorem xk_JA_ok : xKok "java/util/Arrays" xk_JA := ⟨xKf [] (by decide +kernel) rfl, xKc [] (by decide +kernel) rfl, fun _ h => absurd h List.not_mem_nil⟩
def xk_OS : xK := ([], [(21, .long (-1))], [35])
set_option maxRecDepth 20000 in
theorem xk_OS_ok : xKok "DataShrinker$OctetSet" xk_OS := ⟨xKf [] (by decide +kernel) rfl, xKc [665] (by decide +kernel) rfl, List.forall_mem_cons.mpr ⟨xtbm (List.mem_of_getElem? (i := 751) rfl) rfl, fun _ h => absurd h List.not_mem_nil⟩⟩
def xk_JL : xK := ([], [(314, .long 6148914691236517205), (316, .long 3689348814741910323), (318, .long 1085102592571150095)], [])
set_option maxRecDepth 20000 in
theorem xk_JL_ok : xKok "java/lang/Long" xk_JL := ⟨xKf [] (by decide +kernel) rfl, xKc [883, 884, 885] (by decide +kernel) rfl, fun _ h => absurd h List.not_mem_nil⟩
def xk_JI : xK := ([], [(264, .int 65536)], [])
set_option maxRecDepth 20000 in
theorem xk_JI_ok : xKok "java/lang/Integer" xk_JI := ⟨xKf [] (by decide +kernel) rfl, xKc [681] (by decide +kernel) rfl, fun _ h => absurd h List.not_mem_nil⟩
def xk_Mo : xK := ([(9, 7, 1), (13, 7, 2), (16, 7, 3), (19, 7, 4), (22, 7, 5), (25, 7, 6), (29, 7, 7), (32, 7, 8), (35, 7, 9), (38, 7, 10), (41, 7, 11), (44, 7, 12), (47, 7, 13), (182, 7, 14), (50, 7, 15), (53, 7, 16), (56, 7, 17), (59, 7, 18), (62, 7, 19), (191, 7, 20), (194, 7, 21), (65, 7, 22), (69, 7, 23), (188, 7, 24), (185, 7, 25), (161, 7, 26), (205, 7, 27), (72, 7, 28), (76, 7, 29), (79, 7, 30), (82, 7, 31), (85, 7, 32), (88, 7, 33), (91, 7, 34), (94, 7, 35), (97, 7, 36), (100, 7, 37), (103, 7, 38), (208, 7, 39), (106, 7, 40), (109, 7, 41), (112, 7, 42), (115, 7, 43), (118, 7, 44), (121, 7, 45), (124, 7, 46), (127, 7, 47), (130, 7, 48), (133, 7, 49), (136, 7, 50), (139, 7, 51), (142, 7, 52), (145, 7, 53), (148, 7, 54), (151, 7, 55), (267, 7, 56), (286, 7, 57), (273, 7, 58)], [(169, .long 255), (246, .long (-2)), (241, .long (-1))], [])
set_option maxRecDepth 20000 in
theorem xk_Mo_ok : xKok "DataShrinkerModel" xk_Mo := ⟨xKf [948, 949, 950, 951, 952, 953, 954, 955, 956, 957, 958, 959, 960, 961, 962, 963, 964, 965, 966, 967, 968, 969, 970, 971, 972, 973, 974, 975, 976, 977, 978, 979, 980, 981, 982, 983, 984, 985, 986, 987, 988, 989, 990, 991, 992, 993, 994, 995, 996, 997, 998, 999, 1000, 1001, 1002, 1003, 1004, 1005] (by decide +kernel) rfl, xKc [1140, 1246, 1247] (by decide +kernel) rfl, fun _ h => absurd h List.not_mem_nil⟩
def xk_Lw : xK := ([], [(18, .long 4294967295)], [])
set_option maxRecDepth 20000 in
theorem xk_Lw_ok : xKok "DataShrinkerLaw" xk_Lw := ⟨xKf [] (by decide +kernel) rfl, xKc [1327] (by decide +kernel) rfl, fun _ h => absurd h List.not_mem_nil⟩
