set_option maxRecDepth 20000 in
theorem z_DS_init : xZ y_DS_init 0 := ⟨xtbm (List.mem_of_getElem? (i := 84) rfl) rfl, xtbm (List.mem_of_getElem? (i := 102) rfl) rfl, by decide +kernel, by decide +kernel, by decide +kernel⟩
set_option maxRecDepth 20000 in
theorem i_DS_init : Cond.instanceMethod y_DS_init.1 ∈ xtb := xtbm (List.mem_of_getElem? (i := 101) rfl) rfl
set_option maxRecDepth 20000 in
theorem z_Pr_init : xZ y_Pr_init 0 := ⟨xtbm (List.mem_of_getElem? (i := 85) rfl) rfl, xtbm (List.mem_of_getElem? (i := 110) rfl) rfl, by decide +kernel, by decide +kernel, by decide +kernel⟩
set_option maxRecDepth 20000 in
theorem i_Pr_init : Cond.instanceMethod y_Pr_init.1 ∈ xtb := xtbm (List.mem_of_getElem? (i := 109) rfl) rfl
set_option maxRecDepth 20000 in
theorem z_Re_init : xZ y_Re_init 1 := ⟨xtbm (List.mem_of_getElem? (i := 86) rfl) rfl, xtbm (List.mem_of_getElem? (i := 193) rfl) rfl, by decide +kernel, by decide +kernel, by decide +kernel⟩
set_option maxRecDepth 20000 in
theorem i_Re_init : Cond.instanceMethod y_Re_init.1 ∈ xtb := xtbm (List.mem_of_getElem? (i := 192) rfl) rfl
set_option maxRecDepth 20000 in
theorem z_Ch_init : xZ y_Ch_init 0 := ⟨xtbm (List.mem_of_getElem? (i := 87) rfl) rfl, xtbm (List.mem_of_getElem? (i := 199) rfl) rfl, by decide +kernel, by decide +kernel, by decide +kernel⟩
set_option maxRecDepth 20000 in
theorem i_Ch_init : Cond.instanceMethod y_Ch_init.1 ∈ xtb := xtbm (List.mem_of_getElem? (i := 198) rfl) rfl
set_option maxRecDepth 20000 in
theorem z_La_init : xZ y_La_init 2 := ⟨xtbm (List.mem_of_getElem? (i := 88) rfl) rfl, xtbm (List.mem_of_getElem? (i := 259) rfl) rfl, by decide +kernel, by decide +kernel, by decide +kernel⟩
set_option maxRecDepth 20000 in
theorem i_La_init : Cond.instanceMethod y_La_init.1 ∈ xtb := xtbm (List.mem_of_getElem? (i := 258) rfl) rfl
set_option maxRecDepth 20000 in
theorem z_BO_init : xZ y_BO_init 0 := ⟨xtbm (List.mem_of_getElem? (i := 89) rfl) rfl, xtbm (List.mem_of_getElem? (i := 265) rfl) rfl, by decide +kernel, by decide +kernel, by decide +kernel⟩
set_option maxRecDepth 20000 in
theorem i_BO_init : Cond.instanceMethod y_BO_init.1 ∈ xtb := xtbm (List.mem_of_getElem? (i := 264) rfl) rfl
set_option maxRecDepth 20000 in
theorem z_Ma_init : xZ y_Ma_init 1 := ⟨xtbm (List.mem_of_getElem? (i := 90) rfl) rfl, xtbm (List.mem_of_getElem? (i := 331) rfl) rfl, by decide +kernel, by decide +kernel, by decide +kernel⟩
set_option maxRecDepth 20000 in
theorem i_Ma_init : Cond.instanceMethod y_Ma_init.1 ∈ xtb := xtbm (List.mem_of_getElem? (i := 330) rfl) rfl
set_option maxRecDepth 20000 in
theorem z_DS_item : xZ y_DS_item 5 := ⟨xtbm (List.mem_of_getElem? (i := 84) rfl) rfl, xtbm (List.mem_of_getElem? (i := 398) rfl) rfl, by decide +kernel, by decide +kernel, by decide +kernel⟩
set_option maxRecDepth 20000 in
theorem i_DS_item : Cond.instanceMethod y_DS_item.1 ∈ xtb := xtbm (List.mem_of_getElem? (i := 396) rfl) rfl
set_option maxRecDepth 20000 in
theorem v_DS_item : Cond.selects y_DS_item.1.cls y_DS_item.1 y_DS_item.1 ∈ xtb := xtbm (List.mem_of_getElem? (i := 397) rfl) rfl
set_option maxRecDepth 20000 in
theorem z_Pr_isItem : xZ y_Pr_isItem 4 := ⟨xtbm (List.mem_of_getElem? (i := 85) rfl) rfl, xtbm (List.mem_of_getElem? (i := 401) rfl) rfl, by decide +kernel, by decide +kernel, by decide +kernel⟩
set_option maxRecDepth 20000 in
theorem s_Pr_isItem : Cond.static y_Pr_isItem.1 ∈ xtb := xtbm (List.mem_of_getElem? (i := 400) rfl) rfl
set_option maxRecDepth 20000 in
theorem z_DS_isItemNumber : xZ y_DS_isItemNumber 1 := ⟨xtbm (List.mem_of_getElem? (i := 84) rfl) rfl, xtbm (List.mem_of_getElem? (i := 404) rfl) rfl, by decide +kernel, by decide +kernel, by decide +kernel⟩
set_option maxRecDepth 20000 in
theorem s_DS_isItemNumber : Cond.static y_DS_isItemNumber.1 ∈ xtb := xtbm (List.mem_of_getElem? (i := 403) rfl) rfl
set_option maxRecDepth 20000 in
theorem z_DS_within : xZ y_DS_within 3 := ⟨xtbm (List.mem_of_getElem? (i := 84) rfl) rfl, xtbm (List.mem_of_getElem? (i := 407) rfl) rfl, by decide +kernel, by decide +kernel, by decide +kernel⟩
set_option maxRecDepth 20000 in
theorem s_DS_within : Cond.static y_DS_within.1 ∈ xtb := xtbm (List.mem_of_getElem? (i := 406) rfl) rfl
set_option maxRecDepth 20000 in
theorem z_Pr_tellItem : xZ y_Pr_tellItem 5 := ⟨xtbm (List.mem_of_getElem? (i := 85) rfl) rfl, xtbm (List.mem_of_getElem? (i := 411) rfl) rfl, by decide +kernel, by decide +kernel, by decide +kernel⟩
set_option maxRecDepth 20000 in
theorem i_Pr_tellItem : Cond.instanceMethod y_Pr_tellItem.1 ∈ xtb := xtbm (List.mem_of_getElem? (i := 409) rfl) rfl
set_option maxRecDepth 20000 in
theorem v_Pr_tellItem : Cond.selects y_Pr_tellItem.1.cls y_Pr_tellItem.1 y_Pr_tellItem.1 ∈ xtb := xtbm (List.mem_of_getElem? (i := 410) rfl) rfl
set_option maxRecDepth 20000 in
theorem z_Pr_forgetReferencesTo : xZ y_Pr_forgetReferencesTo 1 := ⟨xtbm (List.mem_of_getElem? (i := 85) rfl) rfl, xtbm (List.mem_of_getElem? (i := 415) rfl) rfl, by decide +kernel, by decide +kernel, by decide +kernel⟩
set_option maxRecDepth 20000 in
theorem i_Pr_forgetReferencesTo : Cond.instanceMethod y_Pr_forgetReferencesTo.1 ∈ xtb := xtbm (List.mem_of_getElem? (i := 414) rfl) rfl
set_option maxRecDepth 20000 in
theorem v_Pr_forgetReferencesTo : Cond.selects y_Pr_forgetReferencesTo.1.cls y_Pr_forgetReferencesTo.1 y_Pr_forgetReferencesTo.1 ∈ xtb := xtbm (List.mem_of_getElem? (i := 0) rfl) rfl
set_option maxRecDepth 20000 in
theorem z_DS_bytes : xZ y_DS_bytes 4 := ⟨xtbm (List.mem_of_getElem? (i := 84) rfl) rfl, xtbm (List.mem_of_getElem? (i := 420) rfl) rfl, by decide +kernel, by decide +kernel, by decide +kernel⟩
set_option maxRecDepth 20000 in
theorem i_DS_bytes : Cond.instanceMethod y_DS_bytes.1 ∈ xtb := xtbm (List.mem_of_getElem? (i := 418) rfl) rfl
set_option maxRecDepth 20000 in
theorem v_DS_bytes : Cond.selects y_DS_bytes.1.cls y_DS_bytes.1 y_DS_bytes.1 ∈ xtb := xtbm (List.mem_of_getElem? (i := 419) rfl) rfl
set_option maxRecDepth 20000 in
theorem z_Pr_hasPlace : xZ y_Pr_hasPlace 2 := ⟨xtbm (List.mem_of_getElem? (i := 85) rfl) rfl, xtbm (List.mem_of_getElem? (i := 424) rfl) rfl, by decide +kernel, by decide +kernel, by decide +kernel⟩
set_option maxRecDepth 20000 in
theorem i_Pr_hasPlace : Cond.instanceMethod y_Pr_hasPlace.1 ∈ xtb := xtbm (List.mem_of_getElem? (i := 422) rfl) rfl
set_option maxRecDepth 20000 in
theorem v_Pr_hasPlace : Cond.selects y_Pr_hasPlace.1.cls y_Pr_hasPlace.1 y_Pr_hasPlace.1 ∈ xtb := xtbm (List.mem_of_getElem? (i := 423) rfl) rfl
set_option maxRecDepth 20000 in
theorem z_Pr_tellOctets : xZ y_Pr_tellOctets 4 := ⟨xtbm (List.mem_of_getElem? (i := 85) rfl) rfl, xtbm (List.mem_of_getElem? (i := 429) rfl) rfl, by decide +kernel, by decide +kernel, by decide +kernel⟩
set_option maxRecDepth 20000 in
theorem i_Pr_tellOctets : Cond.instanceMethod y_Pr_tellOctets.1 ∈ xtb := xtbm (List.mem_of_getElem? (i := 427) rfl) rfl
set_option maxRecDepth 20000 in
theorem v_Pr_tellOctets : Cond.selects y_Pr_tellOctets.1.cls y_Pr_tellOctets.1 y_Pr_tellOctets.1 ∈ xtb := xtbm (List.mem_of_getElem? (i := 428) rfl) rfl
set_option maxRecDepth 20000 in
theorem z_JM_min : xZ y_JM_min 2 := ⟨xtbm (List.mem_of_getElem? (i := 92) rfl) rfl, xtbm (List.mem_of_getElem? (i := 432) rfl) rfl, by decide +kernel, by decide +kernel, by decide +kernel⟩
set_option maxRecDepth 20000 in
theorem s_JM_min : Cond.static y_JM_min.1 ∈ xtb := xtbm (List.mem_of_getElem? (i := 431) rfl) rfl
set_option maxRecDepth 20000 in
theorem z_DS_octetOf : xZ y_DS_octetOf 2 := ⟨xtbm (List.mem_of_getElem? (i := 84) rfl) rfl, xtbm (List.mem_of_getElem? (i := 435) rfl) rfl, by decide +kernel, by decide +kernel, by decide +kernel⟩
set_option maxRecDepth 20000 in
theorem s_DS_octetOf : Cond.static y_DS_octetOf.1 ∈ xtb := xtbm (List.mem_of_getElem? (i := 434) rfl) rfl
set_option maxRecDepth 20000 in
theorem z_DS_refer : xZ y_DS_refer 3 := ⟨xtbm (List.mem_of_getElem? (i := 84) rfl) rfl, xtbm (List.mem_of_getElem? (i := 439) rfl) rfl, by decide +kernel, by decide +kernel, by decide +kernel⟩
set_option maxRecDepth 20000 in
theorem i_DS_refer : Cond.instanceMethod y_DS_refer.1 ∈ xtb := xtbm (List.mem_of_getElem? (i := 437) rfl) rfl
set_option maxRecDepth 20000 in
theorem v_DS_refer : Cond.selects y_DS_refer.1.cls y_DS_refer.1 y_DS_refer.1 ∈ xtb := xtbm (List.mem_of_getElem? (i := 438) rfl) rfl
set_option maxRecDepth 20000 in
theorem z_Pr_hasItem : xZ y_Pr_hasItem 1 := ⟨xtbm (List.mem_of_getElem? (i := 85) rfl) rfl, xtbm (List.mem_of_getElem? (i := 443) rfl) rfl, by decide +kernel, by decide +kernel, by decide +kernel⟩
set_option maxRecDepth 20000 in
theorem i_Pr_hasItem : Cond.instanceMethod y_Pr_hasItem.1 ∈ xtb := xtbm (List.mem_of_getElem? (i := 441) rfl) rfl
set_option maxRecDepth 20000 in
theorem v_Pr_hasItem : Cond.selects y_Pr_hasItem.1.cls y_Pr_hasItem.1 y_Pr_hasItem.1 ∈ xtb := xtbm (List.mem_of_getElem? (i := 442) rfl) rfl
set_option maxRecDepth 20000 in
theorem z_Pr_tellReference : xZ y_Pr_tellReference 3 := ⟨xtbm (List.mem_of_getElem? (i := 85) rfl) rfl, xtbm (List.mem_of_getElem? (i := 447) rfl) rfl, by decide +kernel, by decide +kernel, by decide +kernel⟩
set_option maxRecDepth 20000 in
theorem i_Pr_tellReference : Cond.instanceMethod y_Pr_tellReference.1 ∈ xtb := xtbm (List.mem_of_getElem? (i := 445) rfl) rfl
set_option maxRecDepth 20000 in
theorem v_Pr_tellReference : Cond.selects y_Pr_tellReference.1.cls y_Pr_tellReference.1 y_Pr_tellReference.1 ∈ xtb := xtbm (List.mem_of_getElem? (i := 446) rfl) rfl
set_option maxRecDepth 20000 in
theorem z_DS_code : xZ y_DS_code 5 := ⟨xtbm (List.mem_of_getElem? (i := 84) rfl) rfl, xtbm (List.mem_of_getElem? (i := 451) rfl) rfl, by decide +kernel, by decide +kernel, by decide +kernel⟩
set_option maxRecDepth 20000 in
theorem i_DS_code : Cond.instanceMethod y_DS_code.1 ∈ xtb := xtbm (List.mem_of_getElem? (i := 449) rfl) rfl
set_option maxRecDepth 20000 in
theorem v_DS_code : Cond.selects y_DS_code.1.cls y_DS_code.1 y_DS_code.1 ∈ xtb := xtbm (List.mem_of_getElem? (i := 450) rfl) rfl
set_option maxRecDepth 20000 in
theorem z_DS_isFunction : xZ y_DS_isFunction 1 := ⟨xtbm (List.mem_of_getElem? (i := 84) rfl) rfl, xtbm (List.mem_of_getElem? (i := 454) rfl) rfl, by decide +kernel, by decide +kernel, by decide +kernel⟩
set_option maxRecDepth 20000 in
theorem s_DS_isFunction : Cond.static y_DS_isFunction.1 ∈ xtb := xtbm (List.mem_of_getElem? (i := 453) rfl) rfl
set_option maxRecDepth 20000 in
theorem z_Pr_isInstruction : xZ y_Pr_isInstruction 4 := ⟨xtbm (List.mem_of_getElem? (i := 85) rfl) rfl, xtbm (List.mem_of_getElem? (i := 457) rfl) rfl, by decide +kernel, by decide +kernel, by decide +kernel⟩
set_option maxRecDepth 20000 in
theorem s_Pr_isInstruction : Cond.static y_Pr_isInstruction.1 ∈ xtb := xtbm (List.mem_of_getElem? (i := 456) rfl) rfl
set_option maxRecDepth 20000 in
theorem z_DS_isRegister : xZ y_DS_isRegister 1 := ⟨xtbm (List.mem_of_getElem? (i := 84) rfl) rfl, xtbm (List.mem_of_getElem? (i := 460) rfl) rfl, by decide +kernel, by decide +kernel, by decide +kernel⟩
set_option maxRecDepth 20000 in
theorem s_DS_isRegister : Cond.static y_DS_isRegister.1 ∈ xtb := xtbm (List.mem_of_getElem? (i := 459) rfl) rfl
set_option maxRecDepth 20000 in
theorem z_Pr_addInstruction : xZ y_Pr_addInstruction 5 := ⟨xtbm (List.mem_of_getElem? (i := 85) rfl) rfl, xtbm (List.mem_of_getElem? (i := 465) rfl) rfl, by decide +kernel, by decide +kernel, by decide +kernel⟩
set_option maxRecDepth 20000 in
theorem i_Pr_addInstruction : Cond.instanceMethod y_Pr_addInstruction.1 ∈ xtb := xtbm (List.mem_of_getElem? (i := 463) rfl) rfl
set_option maxRecDepth 20000 in
theorem v_Pr_addInstruction : Cond.selects y_Pr_addInstruction.1.cls y_Pr_addInstruction.1 y_Pr_addInstruction.1 ∈ xtb := xtbm (List.mem_of_getElem? (i := 464) rfl) rfl
set_option maxRecDepth 20000 in
theorem z_DS_clear : xZ y_DS_clear 1 := ⟨xtbm (List.mem_of_getElem? (i := 84) rfl) rfl, xtbm (List.mem_of_getElem? (i := 469) rfl) rfl, by decide +kernel, by decide +kernel, by decide +kernel⟩
set_option maxRecDepth 20000 in
theorem i_DS_clear : Cond.instanceMethod y_DS_clear.1 ∈ xtb := xtbm (List.mem_of_getElem? (i := 467) rfl) rfl
set_option maxRecDepth 20000 in
theorem v_DS_clear : Cond.selects y_DS_clear.1.cls y_DS_clear.1 y_DS_clear.1 ∈ xtb := xtbm (List.mem_of_getElem? (i := 468) rfl) rfl
set_option maxRecDepth 20000 in
theorem z_DS_entry : xZ y_DS_entry 2 := ⟨xtbm (List.mem_of_getElem? (i := 84) rfl) rfl, xtbm (List.mem_of_getElem? (i := 473) rfl) rfl, by decide +kernel, by decide +kernel, by decide +kernel⟩
set_option maxRecDepth 20000 in
theorem i_DS_entry : Cond.instanceMethod y_DS_entry.1 ∈ xtb := xtbm (List.mem_of_getElem? (i := 471) rfl) rfl
set_option maxRecDepth 20000 in
theorem v_DS_entry : Cond.selects y_DS_entry.1.cls y_DS_entry.1 y_DS_entry.1 ∈ xtb := xtbm (List.mem_of_getElem? (i := 472) rfl) rfl
set_option maxRecDepth 20000 in
theorem z_DS_input1 : xZ y_DS_input1 2 := ⟨xtbm (List.mem_of_getElem? (i := 84) rfl) rfl, xtbm (List.mem_of_getElem? (i := 477) rfl) rfl, by decide +kernel, by decide +kernel, by decide +kernel⟩
set_option maxRecDepth 20000 in
theorem i_DS_input1 : Cond.instanceMethod y_DS_input1.1 ∈ xtb := xtbm (List.mem_of_getElem? (i := 475) rfl) rfl
set_option maxRecDepth 20000 in
theorem v_DS_input1 : Cond.selects y_DS_input1.1.cls y_DS_input1.1 y_DS_input1.1 ∈ xtb := xtbm (List.mem_of_getElem? (i := 476) rfl) rfl
set_option maxRecDepth 20000 in
theorem z_Pr_addInput : xZ y_Pr_addInput 2 := ⟨xtbm (List.mem_of_getElem? (i := 85) rfl) rfl, xtbm (List.mem_of_getElem? (i := 481) rfl) rfl, by decide +kernel, by decide +kernel, by decide +kernel⟩
set_option maxRecDepth 20000 in
theorem i_Pr_addInput : Cond.instanceMethod y_Pr_addInput.1 ∈ xtb := xtbm (List.mem_of_getElem? (i := 479) rfl) rfl
set_option maxRecDepth 20000 in
theorem v_Pr_addInput : Cond.selects y_Pr_addInput.1.cls y_Pr_addInput.1 y_Pr_addInput.1 ∈ xtb := xtbm (List.mem_of_getElem? (i := 480) rfl) rfl
set_option maxRecDepth 20000 in
theorem z_DS_input2 : xZ y_DS_input2 0 := ⟨xtbm (List.mem_of_getElem? (i := 84) rfl) rfl, xtbm (List.mem_of_getElem? (i := 485) rfl) rfl, by decide +kernel, by decide +kernel, by decide +kernel⟩
set_option maxRecDepth 20000 in
theorem i_DS_input2 : Cond.instanceMethod y_DS_input2.1 ∈ xtb := xtbm (List.mem_of_getElem? (i := 483) rfl) rfl
set_option maxRecDepth 20000 in
theorem v_DS_input2 : Cond.selects y_DS_input2.1.cls y_DS_input2.1 y_DS_input2.1 ∈ xtb := xtbm (List.mem_of_getElem? (i := 484) rfl) rfl
set_option maxRecDepth 20000 in
theorem z_DS_run : xZ y_DS_run 1 := ⟨xtbm (List.mem_of_getElem? (i := 84) rfl) rfl, xtbm (List.mem_of_getElem? (i := 489) rfl) rfl, by decide +kernel, by decide +kernel, by decide +kernel⟩
set_option maxRecDepth 20000 in
theorem i_DS_run : Cond.instanceMethod y_DS_run.1 ∈ xtb := xtbm (List.mem_of_getElem? (i := 487) rfl) rfl
set_option maxRecDepth 20000 in
theorem v_DS_run : Cond.selects y_DS_run.1.cls y_DS_run.1 y_DS_run.1 ∈ xtb := xtbm (List.mem_of_getElem? (i := 488) rfl) rfl
set_option maxRecDepth 20000 in
theorem z_Pr_hasEntry : xZ y_Pr_hasEntry 1 := ⟨xtbm (List.mem_of_getElem? (i := 85) rfl) rfl, xtbm (List.mem_of_getElem? (i := 493) rfl) rfl, by decide +kernel, by decide +kernel, by decide +kernel⟩
set_option maxRecDepth 20000 in
theorem i_Pr_hasEntry : Cond.instanceMethod y_Pr_hasEntry.1 ∈ xtb := xtbm (List.mem_of_getElem? (i := 491) rfl) rfl
set_option maxRecDepth 20000 in
theorem v_Pr_hasEntry : Cond.selects y_Pr_hasEntry.1.cls y_Pr_hasEntry.1 y_Pr_hasEntry.1 ∈ xtb := xtbm (List.mem_of_getElem? (i := 492) rfl) rfl
set_option maxRecDepth 20000 in
theorem z_Ma_takeAsTold : xZ y_Ma_takeAsTold 0 := ⟨xtbm (List.mem_of_getElem? (i := 90) rfl) rfl, xtbm (List.mem_of_getElem? (i := 497) rfl) rfl, by decide +kernel, by decide +kernel, by decide +kernel⟩
set_option maxRecDepth 20000 in
theorem i_Ma_takeAsTold : Cond.instanceMethod y_Ma_takeAsTold.1 ∈ xtb := xtbm (List.mem_of_getElem? (i := 495) rfl) rfl
set_option maxRecDepth 20000 in
theorem v_Ma_takeAsTold : Cond.selects y_Ma_takeAsTold.1.cls y_Ma_takeAsTold.1 y_Ma_takeAsTold.1 ∈ xtb := xtbm (List.mem_of_getElem? (i := 496) rfl) rfl
set_option maxRecDepth 20000 in
theorem z_Ma_work : xZ y_Ma_work 1 := ⟨xtbm (List.mem_of_getElem? (i := 90) rfl) rfl, xtbm (List.mem_of_getElem? (i := 504) rfl) rfl, by decide +kernel, by decide +kernel, by decide +kernel⟩
set_option maxRecDepth 20000 in
theorem i_Ma_work : Cond.instanceMethod y_Ma_work.1 ∈ xtb := xtbm (List.mem_of_getElem? (i := 502) rfl) rfl
set_option maxRecDepth 20000 in
theorem v_Ma_work : Cond.selects y_Ma_work.1.cls y_Ma_work.1 y_Ma_work.1 ∈ xtb := xtbm (List.mem_of_getElem? (i := 503) rfl) rfl
set_option maxRecDepth 20000 in
theorem z_Ma_begin : xZ y_Ma_begin 1 := ⟨xtbm (List.mem_of_getElem? (i := 90) rfl) rfl, xtbm (List.mem_of_getElem? (i := 508) rfl) rfl, by decide +kernel, by decide +kernel, by decide +kernel⟩
set_option maxRecDepth 20000 in
theorem i_Ma_begin : Cond.instanceMethod y_Ma_begin.1 ∈ xtb := xtbm (List.mem_of_getElem? (i := 507) rfl) rfl
set_option maxRecDepth 20000 in
theorem v_Ma_begin : Cond.selects y_Ma_begin.1.cls y_Ma_begin.1 y_Ma_begin.1 ∈ xtb := xtbm (List.mem_of_getElem? (i := 1) rfl) rfl
set_option maxRecDepth 20000 in
theorem z_JA_fill1 : xZ y_JA_fill1 2 := ⟨xtbm (List.mem_of_getElem? (i := 94) rfl) rfl, xtbm (List.mem_of_getElem? (i := 511) rfl) rfl, by decide +kernel, by decide +kernel, by decide +kernel⟩
set_option maxRecDepth 20000 in
theorem s_JA_fill1 : Cond.static y_JA_fill1.1 ∈ xtb := xtbm (List.mem_of_getElem? (i := 510) rfl) rfl
set_option maxRecDepth 20000 in
theorem z_Ma_leave : xZ y_Ma_leave 0 := ⟨xtbm (List.mem_of_getElem? (i := 90) rfl) rfl, xtbm (List.mem_of_getElem? (i := 516) rfl) rfl, by decide +kernel, by decide +kernel, by decide +kernel⟩
set_option maxRecDepth 20000 in
theorem i_Ma_leave : Cond.instanceMethod y_Ma_leave.1 ∈ xtb := xtbm (List.mem_of_getElem? (i := 515) rfl) rfl
set_option maxRecDepth 20000 in
theorem v_Ma_leave : Cond.selects y_Ma_leave.1.cls y_Ma_leave.1 y_Ma_leave.1 ∈ xtb := xtbm (List.mem_of_getElem? (i := 2) rfl) rfl
set_option maxRecDepth 20000 in
theorem z_Ma_carryOut : xZ y_Ma_carryOut 1 := ⟨xtbm (List.mem_of_getElem? (i := 90) rfl) rfl, xtbm (List.mem_of_getElem? (i := 520) rfl) rfl, by decide +kernel, by decide +kernel, by decide +kernel⟩
set_option maxRecDepth 20000 in
theorem i_Ma_carryOut : Cond.instanceMethod y_Ma_carryOut.1 ∈ xtb := xtbm (List.mem_of_getElem? (i := 519) rfl) rfl
set_option maxRecDepth 20000 in
theorem v_Ma_carryOut : Cond.selects y_Ma_carryOut.1.cls y_Ma_carryOut.1 y_Ma_carryOut.1 ∈ xtb := xtbm (List.mem_of_getElem? (i := 3) rfl) rfl
set_option maxRecDepth 20000 in
theorem z_Ma_put : xZ y_Ma_put 2 := ⟨xtbm (List.mem_of_getElem? (i := 90) rfl) rfl, xtbm (List.mem_of_getElem? (i := 524) rfl) rfl, by decide +kernel, by decide +kernel, by decide +kernel⟩
set_option maxRecDepth 20000 in
theorem i_Ma_put : Cond.instanceMethod y_Ma_put.1 ∈ xtb := xtbm (List.mem_of_getElem? (i := 523) rfl) rfl
set_option maxRecDepth 20000 in
theorem v_Ma_put : Cond.selects y_Ma_put.1.cls y_Ma_put.1 y_Ma_put.1 ∈ xtb := xtbm (List.mem_of_getElem? (i := 4) rfl) rfl
set_option maxRecDepth 20000 in
theorem z_JM_floorMod : xZ y_JM_floorMod 2 := ⟨xtbm (List.mem_of_getElem? (i := 92) rfl) rfl, xtbm (List.mem_of_getElem? (i := 527) rfl) rfl, by decide +kernel, by decide +kernel, by decide +kernel⟩
set_option maxRecDepth 20000 in
theorem s_JM_floorMod : Cond.static y_JM_floorMod.1 ∈ xtb := xtbm (List.mem_of_getElem? (i := 526) rfl) rfl
set_option maxRecDepth 20000 in
theorem z_Ma_load : xZ y_Ma_load 3 := ⟨xtbm (List.mem_of_getElem? (i := 90) rfl) rfl, xtbm (List.mem_of_getElem? (i := 531) rfl) rfl, by decide +kernel, by decide +kernel, by decide +kernel⟩
set_option maxRecDepth 20000 in
theorem i_Ma_load : Cond.instanceMethod y_Ma_load.1 ∈ xtb := xtbm (List.mem_of_getElem? (i := 530) rfl) rfl
set_option maxRecDepth 20000 in
theorem v_Ma_load : Cond.selects y_Ma_load.1.cls y_Ma_load.1 y_Ma_load.1 ∈ xtb := xtbm (List.mem_of_getElem? (i := 5) rfl) rfl
set_option maxRecDepth 20000 in
theorem z_Ma_store : xZ y_Ma_store 3 := ⟨xtbm (List.mem_of_getElem? (i := 90) rfl) rfl, xtbm (List.mem_of_getElem? (i := 536) rfl) rfl, by decide +kernel, by decide +kernel, by decide +kernel⟩
set_option maxRecDepth 20000 in
theorem i_Ma_store : Cond.instanceMethod y_Ma_store.1 ∈ xtb := xtbm (List.mem_of_getElem? (i := 535) rfl) rfl
set_option maxRecDepth 20000 in
theorem v_Ma_store : Cond.selects y_Ma_store.1.cls y_Ma_store.1 y_Ma_store.1 ∈ xtb := xtbm (List.mem_of_getElem? (i := 6) rfl) rfl
set_option maxRecDepth 20000 in
theorem z_Ma_openFunction : xZ y_Ma_openFunction 1 := ⟨xtbm (List.mem_of_getElem? (i := 90) rfl) rfl, xtbm (List.mem_of_getElem? (i := 540) rfl) rfl, by decide +kernel, by decide +kernel, by decide +kernel⟩
set_option maxRecDepth 20000 in
theorem i_Ma_openFunction : Cond.instanceMethod y_Ma_openFunction.1 ∈ xtb := xtbm (List.mem_of_getElem? (i := 539) rfl) rfl
set_option maxRecDepth 20000 in
theorem v_Ma_openFunction : Cond.selects y_Ma_openFunction.1.cls y_Ma_openFunction.1 y_Ma_openFunction.1 ∈ xtb := xtbm (List.mem_of_getElem? (i := 7) rfl) rfl
set_option maxRecDepth 20000 in
theorem z_Ma_skip : xZ y_Ma_skip 1 := ⟨xtbm (List.mem_of_getElem? (i := 90) rfl) rfl, xtbm (List.mem_of_getElem? (i := 544) rfl) rfl, by decide +kernel, by decide +kernel, by decide +kernel⟩
set_option maxRecDepth 20000 in
theorem i_Ma_skip : Cond.instanceMethod y_Ma_skip.1 ∈ xtb := xtbm (List.mem_of_getElem? (i := 543) rfl) rfl
set_option maxRecDepth 20000 in
theorem v_Ma_skip : Cond.selects y_Ma_skip.1.cls y_Ma_skip.1 y_Ma_skip.1 ∈ xtb := xtbm (List.mem_of_getElem? (i := 8) rfl) rfl
set_option maxRecDepth 20000 in
theorem z_Ma_send : xZ y_Ma_send 1 := ⟨xtbm (List.mem_of_getElem? (i := 90) rfl) rfl, xtbm (List.mem_of_getElem? (i := 548) rfl) rfl, by decide +kernel, by decide +kernel, by decide +kernel⟩
set_option maxRecDepth 20000 in
theorem i_Ma_send : Cond.instanceMethod y_Ma_send.1 ∈ xtb := xtbm (List.mem_of_getElem? (i := 547) rfl) rfl
set_option maxRecDepth 20000 in
theorem v_Ma_send : Cond.selects y_Ma_send.1.cls y_Ma_send.1 y_Ma_send.1 ∈ xtb := xtbm (List.mem_of_getElem? (i := 9) rfl) rfl
set_option maxRecDepth 20000 in
theorem z_Ma_takeInput : xZ y_Ma_takeInput 0 := ⟨xtbm (List.mem_of_getElem? (i := 90) rfl) rfl, xtbm (List.mem_of_getElem? (i := 552) rfl) rfl, by decide +kernel, by decide +kernel, by decide +kernel⟩
set_option maxRecDepth 20000 in
theorem i_Ma_takeInput : Cond.instanceMethod y_Ma_takeInput.1 ∈ xtb := xtbm (List.mem_of_getElem? (i := 551) rfl) rfl
set_option maxRecDepth 20000 in
theorem v_Ma_takeInput : Cond.selects y_Ma_takeInput.1.cls y_Ma_takeInput.1 y_Ma_takeInput.1 ∈ xtb := xtbm (List.mem_of_getElem? (i := 10) rfl) rfl
set_option maxRecDepth 20000 in
theorem z_Ma_standAsOne : xZ y_Ma_standAsOne 2 := ⟨xtbm (List.mem_of_getElem? (i := 90) rfl) rfl, xtbm (List.mem_of_getElem? (i := 556) rfl) rfl, by decide +kernel, by decide +kernel, by decide +kernel⟩
set_option maxRecDepth 20000 in
theorem i_Ma_standAsOne : Cond.instanceMethod y_Ma_standAsOne.1 ∈ xtb := xtbm (List.mem_of_getElem? (i := 555) rfl) rfl
set_option maxRecDepth 20000 in
theorem v_Ma_standAsOne : Cond.selects y_Ma_standAsOne.1.cls y_Ma_standAsOne.1 y_Ma_standAsOne.1 ∈ xtb := xtbm (List.mem_of_getElem? (i := 11) rfl) rfl
set_option maxRecDepth 20000 in
theorem z_DS_asNumber : xZ y_DS_asNumber 1 := ⟨xtbm (List.mem_of_getElem? (i := 84) rfl) rfl, xtbm (List.mem_of_getElem? (i := 559) rfl) rfl, by decide +kernel, by decide +kernel, by decide +kernel⟩
set_option maxRecDepth 20000 in
theorem s_DS_asNumber : Cond.static y_DS_asNumber.1 ∈ xtb := xtbm (List.mem_of_getElem? (i := 558) rfl) rfl
set_option maxRecDepth 20000 in
theorem z_Ma_follow : xZ y_Ma_follow 3 := ⟨xtbm (List.mem_of_getElem? (i := 90) rfl) rfl, xtbm (List.mem_of_getElem? (i := 563) rfl) rfl, by decide +kernel, by decide +kernel, by decide +kernel⟩
set_option maxRecDepth 20000 in
theorem i_Ma_follow : Cond.instanceMethod y_Ma_follow.1 ∈ xtb := xtbm (List.mem_of_getElem? (i := 562) rfl) rfl
set_option maxRecDepth 20000 in
theorem v_Ma_follow : Cond.selects y_Ma_follow.1.cls y_Ma_follow.1 y_Ma_follow.1 ∈ xtb := xtbm (List.mem_of_getElem? (i := 12) rfl) rfl
set_option maxRecDepth 20000 in
theorem z_Pr_hasReference : xZ y_Pr_hasReference 2 := ⟨xtbm (List.mem_of_getElem? (i := 85) rfl) rfl, xtbm (List.mem_of_getElem? (i := 567) rfl) rfl, by decide +kernel, by decide +kernel, by decide +kernel⟩
set_option maxRecDepth 20000 in
theorem i_Pr_hasReference : Cond.instanceMethod y_Pr_hasReference.1 ∈ xtb := xtbm (List.mem_of_getElem? (i := 565) rfl) rfl
set_option maxRecDepth 20000 in
theorem v_Pr_hasReference : Cond.selects y_Pr_hasReference.1.cls y_Pr_hasReference.1 y_Pr_hasReference.1 ∈ xtb := xtbm (List.mem_of_getElem? (i := 566) rfl) rfl
set_option maxRecDepth 20000 in
theorem z_DS_runLaid : xZ y_DS_runLaid 1 := ⟨xtbm (List.mem_of_getElem? (i := 84) rfl) rfl, xtbm (List.mem_of_getElem? (i := 571) rfl) rfl, by decide +kernel, by decide +kernel, by decide +kernel⟩
set_option maxRecDepth 20000 in
theorem i_DS_runLaid : Cond.instanceMethod y_DS_runLaid.1 ∈ xtb := xtbm (List.mem_of_getElem? (i := 569) rfl) rfl
set_option maxRecDepth 20000 in
theorem v_DS_runLaid : Cond.selects y_DS_runLaid.1.cls y_DS_runLaid.1 y_DS_runLaid.1 ∈ xtb := xtbm (List.mem_of_getElem? (i := 570) rfl) rfl
set_option maxRecDepth 20000 in
theorem z_Ma_takeAsLaid : xZ y_Ma_takeAsLaid 1 := ⟨xtbm (List.mem_of_getElem? (i := 90) rfl) rfl, xtbm (List.mem_of_getElem? (i := 575) rfl) rfl, by decide +kernel, by decide +kernel, by decide +kernel⟩
set_option maxRecDepth 20000 in
theorem i_Ma_takeAsLaid : Cond.instanceMethod y_Ma_takeAsLaid.1 ∈ xtb := xtbm (List.mem_of_getElem? (i := 573) rfl) rfl
set_option maxRecDepth 20000 in
theorem v_Ma_takeAsLaid : Cond.selects y_Ma_takeAsLaid.1.cls y_Ma_takeAsLaid.1 y_Ma_takeAsLaid.1 ∈ xtb := xtbm (List.mem_of_getElem? (i := 574) rfl) rfl
set_option maxRecDepth 20000 in
theorem z_DS_ran : xZ y_DS_ran 1 := ⟨xtbm (List.mem_of_getElem? (i := 84) rfl) rfl, xtbm (List.mem_of_getElem? (i := 579) rfl) rfl, by decide +kernel, by decide +kernel, by decide +kernel⟩
set_option maxRecDepth 20000 in
theorem i_DS_ran : Cond.instanceMethod y_DS_ran.1 ∈ xtb := xtbm (List.mem_of_getElem? (i := 577) rfl) rfl
set_option maxRecDepth 20000 in
theorem v_DS_ran : Cond.selects y_DS_ran.1.cls y_DS_ran.1 y_DS_ran.1 ∈ xtb := xtbm (List.mem_of_getElem? (i := 578) rfl) rfl
set_option maxRecDepth 20000 in
theorem z_Ma_tell : xZ y_Ma_tell 1 := ⟨xtbm (List.mem_of_getElem? (i := 90) rfl) rfl, xtbm (List.mem_of_getElem? (i := 583) rfl) rfl, by decide +kernel, by decide +kernel, by decide +kernel⟩
set_option maxRecDepth 20000 in
theorem i_Ma_tell : Cond.instanceMethod y_Ma_tell.1 ∈ xtb := xtbm (List.mem_of_getElem? (i := 581) rfl) rfl
set_option maxRecDepth 20000 in
theorem v_Ma_tell : Cond.selects y_Ma_tell.1.cls y_Ma_tell.1 y_Ma_tell.1 ∈ xtb := xtbm (List.mem_of_getElem? (i := 582) rfl) rfl
set_option maxRecDepth 20000 in
theorem z_DS_out : xZ y_DS_out 1 := ⟨xtbm (List.mem_of_getElem? (i := 84) rfl) rfl, xtbm (List.mem_of_getElem? (i := 587) rfl) rfl, by decide +kernel, by decide +kernel, by decide +kernel⟩
set_option maxRecDepth 20000 in
theorem i_DS_out : Cond.instanceMethod y_DS_out.1 ∈ xtb := xtbm (List.mem_of_getElem? (i := 585) rfl) rfl
set_option maxRecDepth 20000 in
theorem v_DS_out : Cond.selects y_DS_out.1.cls y_DS_out.1 y_DS_out.1 ∈ xtb := xtbm (List.mem_of_getElem? (i := 586) rfl) rfl
set_option maxRecDepth 20000 in
theorem z_Ma_sentAt : xZ y_Ma_sentAt 1 := ⟨xtbm (List.mem_of_getElem? (i := 90) rfl) rfl, xtbm (List.mem_of_getElem? (i := 591) rfl) rfl, by decide +kernel, by decide +kernel, by decide +kernel⟩
set_option maxRecDepth 20000 in
theorem i_Ma_sentAt : Cond.instanceMethod y_Ma_sentAt.1 ∈ xtb := xtbm (List.mem_of_getElem? (i := 589) rfl) rfl
set_option maxRecDepth 20000 in
theorem v_Ma_sentAt : Cond.selects y_Ma_sentAt.1.cls y_Ma_sentAt.1 y_Ma_sentAt.1 ∈ xtb := xtbm (List.mem_of_getElem? (i := 590) rfl) rfl
set_option maxRecDepth 20000 in
theorem z_DS_shrink : xZ y_DS_shrink 0 := ⟨xtbm (List.mem_of_getElem? (i := 84) rfl) rfl, xtbm (List.mem_of_getElem? (i := 597) rfl) rfl, by decide +kernel, by decide +kernel, by decide +kernel⟩
set_option maxRecDepth 20000 in
theorem i_DS_shrink : Cond.instanceMethod y_DS_shrink.1 ∈ xtb := xtbm (List.mem_of_getElem? (i := 595) rfl) rfl
set_option maxRecDepth 20000 in
theorem v_DS_shrink : Cond.selects y_DS_shrink.1.cls y_DS_shrink.1 y_DS_shrink.1 ∈ xtb := xtbm (List.mem_of_getElem? (i := 596) rfl) rfl
set_option maxRecDepth 20000 in
theorem z_Re_work : xZ y_Re_work 0 := ⟨xtbm (List.mem_of_getElem? (i := 86) rfl) rfl, xtbm (List.mem_of_getElem? (i := 601) rfl) rfl, by decide +kernel, by decide +kernel, by decide +kernel⟩
set_option maxRecDepth 20000 in
theorem i_Re_work : Cond.instanceMethod y_Re_work.1 ∈ xtb := xtbm (List.mem_of_getElem? (i := 599) rfl) rfl
set_option maxRecDepth 20000 in
theorem v_Re_work : Cond.selects y_Re_work.1.cls y_Re_work.1 y_Re_work.1 ∈ xtb := xtbm (List.mem_of_getElem? (i := 600) rfl) rfl
set_option maxRecDepth 20000 in
theorem z_Re_forget : xZ y_Re_forget 0 := ⟨xtbm (List.mem_of_getElem? (i := 86) rfl) rfl, xtbm (List.mem_of_getElem? (i := 605) rfl) rfl, by decide +kernel, by decide +kernel, by decide +kernel⟩
set_option maxRecDepth 20000 in
theorem i_Re_forget : Cond.instanceMethod y_Re_forget.1 ∈ xtb := xtbm (List.mem_of_getElem? (i := 604) rfl) rfl
set_option maxRecDepth 20000 in
theorem v_Re_forget : Cond.selects y_Re_forget.1.cls y_Re_forget.1 y_Re_forget.1 ∈ xtb := xtbm (List.mem_of_getElem? (i := 13) rfl) rfl
set_option maxRecDepth 20000 in
theorem z_Ch_forget : xZ y_Ch_forget 0 := ⟨xtbm (List.mem_of_getElem? (i := 87) rfl) rfl, xtbm (List.mem_of_getElem? (i := 609) rfl) rfl, by decide +kernel, by decide +kernel, by decide +kernel⟩
set_option maxRecDepth 20000 in
theorem i_Ch_forget : Cond.instanceMethod y_Ch_forget.1 ∈ xtb := xtbm (List.mem_of_getElem? (i := 607) rfl) rfl
set_option maxRecDepth 20000 in
theorem v_Ch_forget : Cond.selects y_Ch_forget.1.cls y_Ch_forget.1 y_Ch_forget.1 ∈ xtb := xtbm (List.mem_of_getElem? (i := 608) rfl) rfl
set_option maxRecDepth 20000 in
theorem z_JA_fill2 : xZ y_JA_fill2 2 := ⟨xtbm (List.mem_of_getElem? (i := 94) rfl) rfl, xtbm (List.mem_of_getElem? (i := 612) rfl) rfl, by decide +kernel, by decide +kernel, by decide +kernel⟩
set_option maxRecDepth 20000 in
theorem s_JA_fill2 : Cond.static y_JA_fill2.1 ∈ xtb := xtbm (List.mem_of_getElem? (i := 611) rfl) rfl
set_option maxRecDepth 20000 in
theorem z_Re_forgetStates : xZ y_Re_forgetStates 0 := ⟨xtbm (List.mem_of_getElem? (i := 86) rfl) rfl, xtbm (List.mem_of_getElem? (i := 616) rfl) rfl, by decide +kernel, by decide +kernel, by decide +kernel⟩
set_option maxRecDepth 20000 in
theorem i_Re_forgetStates : Cond.instanceMethod y_Re_forgetStates.1 ∈ xtb := xtbm (List.mem_of_getElem? (i := 615) rfl) rfl
set_option maxRecDepth 20000 in
theorem v_Re_forgetStates : Cond.selects y_Re_forgetStates.1.cls y_Re_forgetStates.1 y_Re_forgetStates.1 ∈ xtb := xtbm (List.mem_of_getElem? (i := 14) rfl) rfl
set_option maxRecDepth 20000 in
theorem z_Re_setAt : xZ y_Re_setAt 2 := ⟨xtbm (List.mem_of_getElem? (i := 86) rfl) rfl, xtbm (List.mem_of_getElem? (i := 619) rfl) rfl, by decide +kernel, by decide +kernel, by decide +kernel⟩
set_option maxRecDepth 20000 in
theorem s_Re_setAt : Cond.static y_Re_setAt.1 ∈ xtb := xtbm (List.mem_of_getElem? (i := 618) rfl) rfl
set_option maxRecDepth 20000 in
theorem z_JA_fill3 : xZ y_JA_fill3 4 := ⟨xtbm (List.mem_of_getElem? (i := 94) rfl) rfl, xtbm (List.mem_of_getElem? (i := 622) rfl) rfl, by decide +kernel, by decide +kernel, by decide +kernel⟩
set_option maxRecDepth 20000 in
theorem s_JA_fill3 : Cond.static y_JA_fill3.1 ∈ xtb := xtbm (List.mem_of_getElem? (i := 621) rfl) rfl
set_option maxRecDepth 20000 in
theorem z_Re_standAsTold : xZ y_Re_standAsTold 0 := ⟨xtbm (List.mem_of_getElem? (i := 86) rfl) rfl, xtbm (List.mem_of_getElem? (i := 631) rfl) rfl, by decide +kernel, by decide +kernel, by decide +kernel⟩
set_option maxRecDepth 20000 in
theorem i_Re_standAsTold : Cond.instanceMethod y_Re_standAsTold.1 ∈ xtb := xtbm (List.mem_of_getElem? (i := 630) rfl) rfl
set_option maxRecDepth 20000 in
theorem v_Re_standAsTold : Cond.selects y_Re_standAsTold.1.cls y_Re_standAsTold.1 y_Re_standAsTold.1 ∈ xtb := xtbm (List.mem_of_getElem? (i := 15) rfl) rfl
set_option maxRecDepth 20000 in
theorem z_Re_standAt : xZ y_Re_standAt 2 := ⟨xtbm (List.mem_of_getElem? (i := 86) rfl) rfl, xtbm (List.mem_of_getElem? (i := 634) rfl) rfl, by decide +kernel, by decide +kernel, by decide +kernel⟩
set_option maxRecDepth 20000 in
theorem s_Re_standAt : Cond.static y_Re_standAt.1 ∈ xtb := xtbm (List.mem_of_getElem? (i := 633) rfl) rfl
set_option maxRecDepth 20000 in
theorem z_OS_add : xZ y_OS_add 3 := ⟨xtbm (List.mem_of_getElem? (i := 95) rfl) rfl, xtbm (List.mem_of_getElem? (i := 637) rfl) rfl, by decide +kernel, by decide +kernel, by decide +kernel⟩
set_option maxRecDepth 20000 in
theorem s_OS_add : Cond.static y_OS_add.1 ∈ xtb := xtbm (List.mem_of_getElem? (i := 636) rfl) rfl
set_option maxRecDepth 20000 in
theorem z_Re_findSites : xZ y_Re_findSites 0 := ⟨xtbm (List.mem_of_getElem? (i := 86) rfl) rfl, xtbm (List.mem_of_getElem? (i := 641) rfl) rfl, by decide +kernel, by decide +kernel, by decide +kernel⟩
set_option maxRecDepth 20000 in
theorem i_Re_findSites : Cond.instanceMethod y_Re_findSites.1 ∈ xtb := xtbm (List.mem_of_getElem? (i := 640) rfl) rfl
set_option maxRecDepth 20000 in
theorem v_Re_findSites : Cond.selects y_Re_findSites.1.cls y_Re_findSites.1 y_Re_findSites.1 ∈ xtb := xtbm (List.mem_of_getElem? (i := 16) rfl) rfl
set_option maxRecDepth 20000 in
theorem z_Re_wakerOf : xZ y_Re_wakerOf 1 := ⟨xtbm (List.mem_of_getElem? (i := 86) rfl) rfl, xtbm (List.mem_of_getElem? (i := 645) rfl) rfl, by decide +kernel, by decide +kernel, by decide +kernel⟩
set_option maxRecDepth 20000 in
theorem i_Re_wakerOf : Cond.instanceMethod y_Re_wakerOf.1 ∈ xtb := xtbm (List.mem_of_getElem? (i := 644) rfl) rfl
set_option maxRecDepth 20000 in
theorem v_Re_wakerOf : Cond.selects y_Re_wakerOf.1.cls y_Re_wakerOf.1 y_Re_wakerOf.1 ∈ xtb := xtbm (List.mem_of_getElem? (i := 17) rfl) rfl
set_option maxRecDepth 20000 in
theorem z_Re_beginAtEntries : xZ y_Re_beginAtEntries 0 := ⟨xtbm (List.mem_of_getElem? (i := 86) rfl) rfl, xtbm (List.mem_of_getElem? (i := 649) rfl) rfl, by decide +kernel, by decide +kernel, by decide +kernel⟩
set_option maxRecDepth 20000 in
theorem i_Re_beginAtEntries : Cond.instanceMethod y_Re_beginAtEntries.1 ∈ xtb := xtbm (List.mem_of_getElem? (i := 648) rfl) rfl
set_option maxRecDepth 20000 in
theorem v_Re_beginAtEntries : Cond.selects y_Re_beginAtEntries.1.cls y_Re_beginAtEntries.1 y_Re_beginAtEntries.1 ∈ xtb := xtbm (List.mem_of_getElem? (i := 18) rfl) rfl
set_option maxRecDepth 20000 in
theorem z_OS_makeOnly : xZ y_OS_makeOnly 2 := ⟨xtbm (List.mem_of_getElem? (i := 95) rfl) rfl, xtbm (List.mem_of_getElem? (i := 652) rfl) rfl, by decide +kernel, by decide +kernel, by decide +kernel⟩
set_option maxRecDepth 20000 in
theorem s_OS_makeOnly : Cond.static y_OS_makeOnly.1 ∈ xtb := xtbm (List.mem_of_getElem? (i := 651) rfl) rfl
set_option maxRecDepth 20000 in
theorem z_Re_placeIn : xZ y_Re_placeIn 2 := ⟨xtbm (List.mem_of_getElem? (i := 86) rfl) rfl, xtbm (List.mem_of_getElem? (i := 658) rfl) rfl, by decide +kernel, by decide +kernel, by decide +kernel⟩
set_option maxRecDepth 20000 in
theorem i_Re_placeIn : Cond.instanceMethod y_Re_placeIn.1 ∈ xtb := xtbm (List.mem_of_getElem? (i := 657) rfl) rfl
set_option maxRecDepth 20000 in
theorem v_Re_placeIn : Cond.selects y_Re_placeIn.1.cls y_Re_placeIn.1 y_Re_placeIn.1 ∈ xtb := xtbm (List.mem_of_getElem? (i := 19) rfl) rfl
set_option maxRecDepth 20000 in
theorem z_Re_slotOf : xZ y_Re_slotOf 2 := ⟨xtbm (List.mem_of_getElem? (i := 86) rfl) rfl, xtbm (List.mem_of_getElem? (i := 661) rfl) rfl, by decide +kernel, by decide +kernel, by decide +kernel⟩
set_option maxRecDepth 20000 in
theorem s_Re_slotOf : Cond.static y_Re_slotOf.1 ∈ xtb := xtbm (List.mem_of_getElem? (i := 660) rfl) rfl
set_option maxRecDepth 20000 in
theorem z_OS_join : xZ y_OS_join 4 := ⟨xtbm (List.mem_of_getElem? (i := 95) rfl) rfl, xtbm (List.mem_of_getElem? (i := 664) rfl) rfl, by decide +kernel, by decide +kernel, by decide +kernel⟩
set_option maxRecDepth 20000 in
theorem s_OS_join : Cond.static y_OS_join.1 ∈ xtb := xtbm (List.mem_of_getElem? (i := 663) rfl) rfl
set_option maxRecDepth 20000 in
theorem z_Re_arriveAt : xZ y_Re_arriveAt 2 := ⟨xtbm (List.mem_of_getElem? (i := 86) rfl) rfl, xtbm (List.mem_of_getElem? (i := 669) rfl) rfl, by decide +kernel, by decide +kernel, by decide +kernel⟩
set_option maxRecDepth 20000 in
theorem i_Re_arriveAt : Cond.instanceMethod y_Re_arriveAt.1 ∈ xtb := xtbm (List.mem_of_getElem? (i := 668) rfl) rfl
set_option maxRecDepth 20000 in
theorem v_Re_arriveAt : Cond.selects y_Re_arriveAt.1.cls y_Re_arriveAt.1 y_Re_arriveAt.1 ∈ xtb := xtbm (List.mem_of_getElem? (i := 20) rfl) rfl
set_option maxRecDepth 20000 in
theorem z_Re_goRound : xZ y_Re_goRound 0 := ⟨xtbm (List.mem_of_getElem? (i := 86) rfl) rfl, xtbm (List.mem_of_getElem? (i := 674) rfl) rfl, by decide +kernel, by decide +kernel, by decide +kernel⟩
set_option maxRecDepth 20000 in
theorem i_Re_goRound : Cond.instanceMethod y_Re_goRound.1 ∈ xtb := xtbm (List.mem_of_getElem? (i := 673) rfl) rfl
set_option maxRecDepth 20000 in
theorem v_Re_goRound : Cond.selects y_Re_goRound.1.cls y_Re_goRound.1 y_Re_goRound.1 ∈ xtb := xtbm (List.mem_of_getElem? (i := 21) rfl) rfl
set_option maxRecDepth 20000 in
theorem z_JL_numberOfTrailingZeros : xZ y_JL_numberOfTrailingZeros 1 := ⟨xtbm (List.mem_of_getElem? (i := 96) rfl) rfl, xtbm (List.mem_of_getElem? (i := 677) rfl) rfl, by decide +kernel, by decide +kernel, by decide +kernel⟩
set_option maxRecDepth 20000 in
theorem s_JL_numberOfTrailingZeros : Cond.static y_JL_numberOfTrailingZeros.1 ∈ xtb := xtbm (List.mem_of_getElem? (i := 676) rfl) rfl
set_option maxRecDepth 20000 in
theorem z_JI_numberOfTrailingZeros : xZ y_JI_numberOfTrailingZeros 1 := ⟨xtbm (List.mem_of_getElem? (i := 97) rfl) rfl, xtbm (List.mem_of_getElem? (i := 680) rfl) rfl, by decide +kernel, by decide +kernel, by decide +kernel⟩
set_option maxRecDepth 20000 in
theorem s_JI_numberOfTrailingZeros : Cond.static y_JI_numberOfTrailingZeros.1 ∈ xtb := xtbm (List.mem_of_getElem? (i := 679) rfl) rfl
set_option maxRecDepth 20000 in
theorem z_Re_takeOn : xZ y_Re_takeOn 2 := ⟨xtbm (List.mem_of_getElem? (i := 86) rfl) rfl, xtbm (List.mem_of_getElem? (i := 686) rfl) rfl, by decide +kernel, by decide +kernel, by decide +kernel⟩
set_option maxRecDepth 20000 in
theorem i_Re_takeOn : Cond.instanceMethod y_Re_takeOn.1 ∈ xtb := xtbm (List.mem_of_getElem? (i := 685) rfl) rfl
set_option maxRecDepth 20000 in
theorem v_Re_takeOn : Cond.selects y_Re_takeOn.1.cls y_Re_takeOn.1 y_Re_takeOn.1 ∈ xtb := xtbm (List.mem_of_getElem? (i := 22) rfl) rfl
set_option maxRecDepth 20000 in
theorem z_Re_wake : xZ y_Re_wake 1 := ⟨xtbm (List.mem_of_getElem? (i := 86) rfl) rfl, xtbm (List.mem_of_getElem? (i := 690) rfl) rfl, by decide +kernel, by decide +kernel, by decide +kernel⟩
set_option maxRecDepth 20000 in
theorem i_Re_wake : Cond.instanceMethod y_Re_wake.1 ∈ xtb := xtbm (List.mem_of_getElem? (i := 689) rfl) rfl
set_option maxRecDepth 20000 in
theorem v_Re_wake : Cond.selects y_Re_wake.1.cls y_Re_wake.1 y_Re_wake.1 ∈ xtb := xtbm (List.mem_of_getElem? (i := 23) rfl) rfl
set_option maxRecDepth 20000 in
theorem z_Re_takeStore : xZ y_Re_takeStore 4 := ⟨xtbm (List.mem_of_getElem? (i := 86) rfl) rfl, xtbm (List.mem_of_getElem? (i := 694) rfl) rfl, by decide +kernel, by decide +kernel, by decide +kernel⟩
set_option maxRecDepth 20000 in
theorem i_Re_takeStore : Cond.instanceMethod y_Re_takeStore.1 ∈ xtb := xtbm (List.mem_of_getElem? (i := 693) rfl) rfl
set_option maxRecDepth 20000 in
theorem v_Re_takeStore : Cond.selects y_Re_takeStore.1.cls y_Re_takeStore.1 y_Re_takeStore.1 ∈ xtb := xtbm (List.mem_of_getElem? (i := 24) rfl) rfl
set_option maxRecDepth 20000 in
theorem z_Re_placesIn : xZ y_Re_placesIn 2 := ⟨xtbm (List.mem_of_getElem? (i := 86) rfl) rfl, xtbm (List.mem_of_getElem? (i := 698) rfl) rfl, by decide +kernel, by decide +kernel, by decide +kernel⟩
set_option maxRecDepth 20000 in
theorem i_Re_placesIn : Cond.instanceMethod y_Re_placesIn.1 ∈ xtb := xtbm (List.mem_of_getElem? (i := 697) rfl) rfl
set_option maxRecDepth 20000 in
theorem v_Re_placesIn : Cond.selects y_Re_placesIn.1.cls y_Re_placesIn.1 y_Re_placesIn.1 ∈ xtb := xtbm (List.mem_of_getElem? (i := 25) rfl) rfl
set_option maxRecDepth 20000 in
theorem z_Pr_placesOf : xZ y_Pr_placesOf 1 := ⟨xtbm (List.mem_of_getElem? (i := 85) rfl) rfl, xtbm (List.mem_of_getElem? (i := 702) rfl) rfl, by decide +kernel, by decide +kernel, by decide +kernel⟩
set_option maxRecDepth 20000 in
theorem i_Pr_placesOf : Cond.instanceMethod y_Pr_placesOf.1 ∈ xtb := xtbm (List.mem_of_getElem? (i := 700) rfl) rfl
set_option maxRecDepth 20000 in
theorem v_Pr_placesOf : Cond.selects y_Pr_placesOf.1.cls y_Pr_placesOf.1 y_Pr_placesOf.1 ∈ xtb := xtbm (List.mem_of_getElem? (i := 701) rfl) rfl
set_option maxRecDepth 20000 in
theorem z_Re_flow : xZ y_Re_flow 4 := ⟨xtbm (List.mem_of_getElem? (i := 86) rfl) rfl, xtbm (List.mem_of_getElem? (i := 706) rfl) rfl, by decide +kernel, by decide +kernel, by decide +kernel⟩
set_option maxRecDepth 20000 in
theorem i_Re_flow : Cond.instanceMethod y_Re_flow.1 ∈ xtb := xtbm (List.mem_of_getElem? (i := 705) rfl) rfl
set_option maxRecDepth 20000 in
theorem v_Re_flow : Cond.selects y_Re_flow.1.cls y_Re_flow.1 y_Re_flow.1 ∈ xtb := xtbm (List.mem_of_getElem? (i := 26) rfl) rfl
set_option maxRecDepth 20000 in
theorem z_Re_takeCall : xZ y_Re_takeCall 3 := ⟨xtbm (List.mem_of_getElem? (i := 86) rfl) rfl, xtbm (List.mem_of_getElem? (i := 710) rfl) rfl, by decide +kernel, by decide +kernel, by decide +kernel⟩
set_option maxRecDepth 20000 in
theorem i_Re_takeCall : Cond.instanceMethod y_Re_takeCall.1 ∈ xtb := xtbm (List.mem_of_getElem? (i := 709) rfl) rfl
set_option maxRecDepth 20000 in
theorem v_Re_takeCall : Cond.selects y_Re_takeCall.1.cls y_Re_takeCall.1 y_Re_takeCall.1 ∈ xtb := xtbm (List.mem_of_getElem? (i := 27) rfl) rfl
set_option maxRecDepth 20000 in
theorem z_Ch_link : xZ y_Ch_link 2 := ⟨xtbm (List.mem_of_getElem? (i := 87) rfl) rfl, xtbm (List.mem_of_getElem? (i := 714) rfl) rfl, by decide +kernel, by decide +kernel, by decide +kernel⟩
set_option maxRecDepth 20000 in
theorem i_Ch_link : Cond.instanceMethod y_Ch_link.1 ∈ xtb := xtbm (List.mem_of_getElem? (i := 712) rfl) rfl
set_option maxRecDepth 20000 in
theorem v_Ch_link : Cond.selects y_Ch_link.1.cls y_Ch_link.1 y_Ch_link.1 ∈ xtb := xtbm (List.mem_of_getElem? (i := 713) rfl) rfl
set_option maxRecDepth 20000 in
theorem z_Re_takeNought : xZ y_Re_takeNought 4 := ⟨xtbm (List.mem_of_getElem? (i := 86) rfl) rfl, xtbm (List.mem_of_getElem? (i := 718) rfl) rfl, by decide +kernel, by decide +kernel, by decide +kernel⟩
set_option maxRecDepth 20000 in
theorem i_Re_takeNought : Cond.instanceMethod y_Re_takeNought.1 ∈ xtb := xtbm (List.mem_of_getElem? (i := 717) rfl) rfl
set_option maxRecDepth 20000 in
theorem v_Re_takeNought : Cond.selects y_Re_takeNought.1.cls y_Re_takeNought.1 y_Re_takeNought.1 ∈ xtb := xtbm (List.mem_of_getElem? (i := 28) rfl) rfl
set_option maxRecDepth 20000 in
theorem z_Re_makeRest : xZ y_Re_makeRest 2 := ⟨xtbm (List.mem_of_getElem? (i := 86) rfl) rfl, xtbm (List.mem_of_getElem? (i := 722) rfl) rfl, by decide +kernel, by decide +kernel, by decide +kernel⟩
set_option maxRecDepth 20000 in
theorem i_Re_makeRest : Cond.instanceMethod y_Re_makeRest.1 ∈ xtb := xtbm (List.mem_of_getElem? (i := 721) rfl) rfl
set_option maxRecDepth 20000 in
theorem v_Re_makeRest : Cond.selects y_Re_makeRest.1.cls y_Re_makeRest.1 y_Re_makeRest.1 ∈ xtb := xtbm (List.mem_of_getElem? (i := 29) rfl) rfl
set_option maxRecDepth 20000 in
theorem z_OS_isEmpty : xZ y_OS_isEmpty 1 := ⟨xtbm (List.mem_of_getElem? (i := 95) rfl) rfl, xtbm (List.mem_of_getElem? (i := 726) rfl) rfl, by decide +kernel, by decide +kernel, by decide +kernel⟩
set_option maxRecDepth 20000 in
theorem s_OS_isEmpty : Cond.static y_OS_isEmpty.1 ∈ xtb := xtbm (List.mem_of_getElem? (i := 725) rfl) rfl
set_option maxRecDepth 20000 in
theorem z_Re_takeLoad : xZ y_Re_takeLoad 4 := ⟨xtbm (List.mem_of_getElem? (i := 86) rfl) rfl, xtbm (List.mem_of_getElem? (i := 730) rfl) rfl, by decide +kernel, by decide +kernel, by decide +kernel⟩
set_option maxRecDepth 20000 in
theorem i_Re_takeLoad : Cond.instanceMethod y_Re_takeLoad.1 ∈ xtb := xtbm (List.mem_of_getElem? (i := 729) rfl) rfl
set_option maxRecDepth 20000 in
theorem v_Re_takeLoad : Cond.selects y_Re_takeLoad.1.cls y_Re_takeLoad.1 y_Re_takeLoad.1 ∈ xtb := xtbm (List.mem_of_getElem? (i := 30) rfl) rfl
set_option maxRecDepth 20000 in
theorem z_Re_beginRead : xZ y_Re_beginRead 3 := ⟨xtbm (List.mem_of_getElem? (i := 86) rfl) rfl, xtbm (List.mem_of_getElem? (i := 734) rfl) rfl, by decide +kernel, by decide +kernel, by decide +kernel⟩
set_option maxRecDepth 20000 in
theorem i_Re_beginRead : Cond.instanceMethod y_Re_beginRead.1 ∈ xtb := xtbm (List.mem_of_getElem? (i := 733) rfl) rfl
set_option maxRecDepth 20000 in
theorem v_Re_beginRead : Cond.selects y_Re_beginRead.1.cls y_Re_beginRead.1 y_Re_beginRead.1 ∈ xtb := xtbm (List.mem_of_getElem? (i := 31) rfl) rfl
set_option maxRecDepth 20000 in
theorem z_Re_takeFollow : xZ y_Re_takeFollow 4 := ⟨xtbm (List.mem_of_getElem? (i := 86) rfl) rfl, xtbm (List.mem_of_getElem? (i := 738) rfl) rfl, by decide +kernel, by decide +kernel, by decide +kernel⟩
set_option maxRecDepth 20000 in
theorem i_Re_takeFollow : Cond.instanceMethod y_Re_takeFollow.1 ∈ xtb := xtbm (List.mem_of_getElem? (i := 737) rfl) rfl
set_option maxRecDepth 20000 in
theorem v_Re_takeFollow : Cond.selects y_Re_takeFollow.1.cls y_Re_takeFollow.1 y_Re_takeFollow.1 ∈ xtb := xtbm (List.mem_of_getElem? (i := 32) rfl) rfl
set_option maxRecDepth 20000 in
theorem z_Re_makeSimple : xZ y_Re_makeSimple 2 := ⟨xtbm (List.mem_of_getElem? (i := 86) rfl) rfl, xtbm (List.mem_of_getElem? (i := 742) rfl) rfl, by decide +kernel, by decide +kernel, by decide +kernel⟩
set_option maxRecDepth 20000 in
theorem i_Re_makeSimple : Cond.instanceMethod y_Re_makeSimple.1 ∈ xtb := xtbm (List.mem_of_getElem? (i := 741) rfl) rfl
set_option maxRecDepth 20000 in
theorem v_Re_makeSimple : Cond.selects y_Re_makeSimple.1.cls y_Re_makeSimple.1 y_Re_makeSimple.1 ∈ xtb := xtbm (List.mem_of_getElem? (i := 33) rfl) rfl
set_option maxRecDepth 20000 in
theorem z_OS_makeSums : xZ y_OS_makeSums 4 := ⟨xtbm (List.mem_of_getElem? (i := 95) rfl) rfl, xtbm (List.mem_of_getElem? (i := 745) rfl) rfl, by decide +kernel, by decide +kernel, by decide +kernel⟩
set_option maxRecDepth 20000 in
theorem s_OS_makeSums : Cond.static y_OS_makeSums.1 ∈ xtb := xtbm (List.mem_of_getElem? (i := 744) rfl) rfl
set_option maxRecDepth 20000 in
theorem z_OS_makeMasked : xZ y_OS_makeMasked 4 := ⟨xtbm (List.mem_of_getElem? (i := 95) rfl) rfl, xtbm (List.mem_of_getElem? (i := 749) rfl) rfl, by decide +kernel, by decide +kernel, by decide +kernel⟩
set_option maxRecDepth 20000 in
theorem s_OS_makeMasked : Cond.static y_OS_makeMasked.1 ∈ xtb := xtbm (List.mem_of_getElem? (i := 748) rfl) rfl
set_option maxRecDepth 20000 in
theorem z_OS_foldWords : xZ y_OS_foldWords 2 := ⟨xtbm (List.mem_of_getElem? (i := 95) rfl) rfl, xtbm (List.mem_of_getElem? (i := 755) rfl) rfl, by decide +kernel, by decide +kernel, by decide +kernel⟩
set_option maxRecDepth 20000 in
theorem s_OS_foldWords : Cond.static y_OS_foldWords.1 ∈ xtb := xtbm (List.mem_of_getElem? (i := 754) rfl) rfl
set_option maxRecDepth 20000 in
theorem z_OS_moveWord : xZ y_OS_moveWord 3 := ⟨xtbm (List.mem_of_getElem? (i := 95) rfl) rfl, xtbm (List.mem_of_getElem? (i := 758) rfl) rfl, by decide +kernel, by decide +kernel, by decide +kernel⟩
set_option maxRecDepth 20000 in
theorem s_OS_moveWord : Cond.static y_OS_moveWord.1 ∈ xtb := xtbm (List.mem_of_getElem? (i := 757) rfl) rfl
set_option maxRecDepth 20000 in
theorem z_Re_compare : xZ y_Re_compare 2 := ⟨xtbm (List.mem_of_getElem? (i := 86) rfl) rfl, xtbm (List.mem_of_getElem? (i := 762) rfl) rfl, by decide +kernel, by decide +kernel, by decide +kernel⟩
set_option maxRecDepth 20000 in
theorem i_Re_compare : Cond.instanceMethod y_Re_compare.1 ∈ xtb := xtbm (List.mem_of_getElem? (i := 761) rfl) rfl
set_option maxRecDepth 20000 in
theorem v_Re_compare : Cond.selects y_Re_compare.1.cls y_Re_compare.1 y_Re_compare.1 ∈ xtb := xtbm (List.mem_of_getElem? (i := 34) rfl) rfl
set_option maxRecDepth 20000 in
theorem z_Ch_measure : xZ y_Ch_measure 1 := ⟨xtbm (List.mem_of_getElem? (i := 87) rfl) rfl, xtbm (List.mem_of_getElem? (i := 767) rfl) rfl, by decide +kernel, by decide +kernel, by decide +kernel⟩
set_option maxRecDepth 20000 in
theorem i_Ch_measure : Cond.instanceMethod y_Ch_measure.1 ∈ xtb := xtbm (List.mem_of_getElem? (i := 765) rfl) rfl
set_option maxRecDepth 20000 in
theorem v_Ch_measure : Cond.selects y_Ch_measure.1.cls y_Ch_measure.1 y_Ch_measure.1 ∈ xtb := xtbm (List.mem_of_getElem? (i := 766) rfl) rfl
set_option maxRecDepth 20000 in
theorem z_Ch_stepOn : xZ y_Ch_stepOn 2 := ⟨xtbm (List.mem_of_getElem? (i := 87) rfl) rfl, xtbm (List.mem_of_getElem? (i := 772) rfl) rfl, by decide +kernel, by decide +kernel, by decide +kernel⟩
set_option maxRecDepth 20000 in
theorem i_Ch_stepOn : Cond.instanceMethod y_Ch_stepOn.1 ∈ xtb := xtbm (List.mem_of_getElem? (i := 771) rfl) rfl
set_option maxRecDepth 20000 in
theorem v_Ch_stepOn : Cond.selects y_Ch_stepOn.1.cls y_Ch_stepOn.1 y_Ch_stepOn.1 ∈ xtb := xtbm (List.mem_of_getElem? (i := 35) rfl) rfl
set_option maxRecDepth 20000 in
theorem z_La_work : xZ y_La_work 0 := ⟨xtbm (List.mem_of_getElem? (i := 88) rfl) rfl, xtbm (List.mem_of_getElem? (i := 777) rfl) rfl, by decide +kernel, by decide +kernel, by decide +kernel⟩
set_option maxRecDepth 20000 in
theorem i_La_work : Cond.instanceMethod y_La_work.1 ∈ xtb := xtbm (List.mem_of_getElem? (i := 775) rfl) rfl
set_option maxRecDepth 20000 in
theorem v_La_work : Cond.selects y_La_work.1.cls y_La_work.1 y_La_work.1 ∈ xtb := xtbm (List.mem_of_getElem? (i := 776) rfl) rfl
set_option maxRecDepth 20000 in
theorem z_La_begin : xZ y_La_begin 0 := ⟨xtbm (List.mem_of_getElem? (i := 88) rfl) rfl, xtbm (List.mem_of_getElem? (i := 781) rfl) rfl, by decide +kernel, by decide +kernel, by decide +kernel⟩
set_option maxRecDepth 20000 in
theorem i_La_begin : Cond.instanceMethod y_La_begin.1 ∈ xtb := xtbm (List.mem_of_getElem? (i := 780) rfl) rfl
set_option maxRecDepth 20000 in
theorem v_La_begin : Cond.selects y_La_begin.1.cls y_La_begin.1 y_La_begin.1 ∈ xtb := xtbm (List.mem_of_getElem? (i := 36) rfl) rfl
set_option maxRecDepth 20000 in
theorem z_La_keepItems : xZ y_La_keepItems 0 := ⟨xtbm (List.mem_of_getElem? (i := 88) rfl) rfl, xtbm (List.mem_of_getElem? (i := 787) rfl) rfl, by decide +kernel, by decide +kernel, by decide +kernel⟩
set_option maxRecDepth 20000 in
theorem i_La_keepItems : Cond.instanceMethod y_La_keepItems.1 ∈ xtb := xtbm (List.mem_of_getElem? (i := 786) rfl) rfl
set_option maxRecDepth 20000 in
theorem v_La_keepItems : Cond.selects y_La_keepItems.1.cls y_La_keepItems.1 y_La_keepItems.1 ∈ xtb := xtbm (List.mem_of_getElem? (i := 37) rfl) rfl
set_option maxRecDepth 20000 in
theorem z_La_keepGroups : xZ y_La_keepGroups 0 := ⟨xtbm (List.mem_of_getElem? (i := 88) rfl) rfl, xtbm (List.mem_of_getElem? (i := 791) rfl) rfl, by decide +kernel, by decide +kernel, by decide +kernel⟩
set_option maxRecDepth 20000 in
theorem i_La_keepGroups : Cond.instanceMethod y_La_keepGroups.1 ∈ xtb := xtbm (List.mem_of_getElem? (i := 790) rfl) rfl
set_option maxRecDepth 20000 in
theorem v_La_keepGroups : Cond.selects y_La_keepGroups.1.cls y_La_keepGroups.1 y_La_keepGroups.1 ∈ xtb := xtbm (List.mem_of_getElem? (i := 38) rfl) rfl
set_option maxRecDepth 20000 in
theorem z_La_findStill : xZ y_La_findStill 0 := ⟨xtbm (List.mem_of_getElem? (i := 88) rfl) rfl, xtbm (List.mem_of_getElem? (i := 795) rfl) rfl, by decide +kernel, by decide +kernel, by decide +kernel⟩
set_option maxRecDepth 20000 in
theorem i_La_findStill : Cond.instanceMethod y_La_findStill.1 ∈ xtb := xtbm (List.mem_of_getElem? (i := 794) rfl) rfl
set_option maxRecDepth 20000 in
theorem v_La_findStill : Cond.selects y_La_findStill.1.cls y_La_findStill.1 y_La_findStill.1 ∈ xtb := xtbm (List.mem_of_getElem? (i := 39) rfl) rfl
set_option maxRecDepth 20000 in
theorem z_La_joinAlike : xZ y_La_joinAlike 0 := ⟨xtbm (List.mem_of_getElem? (i := 88) rfl) rfl, xtbm (List.mem_of_getElem? (i := 799) rfl) rfl, by decide +kernel, by decide +kernel, by decide +kernel⟩
set_option maxRecDepth 20000 in
theorem i_La_joinAlike : Cond.instanceMethod y_La_joinAlike.1 ∈ xtb := xtbm (List.mem_of_getElem? (i := 798) rfl) rfl
set_option maxRecDepth 20000 in
theorem v_La_joinAlike : Cond.selects y_La_joinAlike.1.cls y_La_joinAlike.1 y_La_joinAlike.1 ∈ xtb := xtbm (List.mem_of_getElem? (i := 40) rfl) rfl
set_option maxRecDepth 20000 in
theorem z_La_standsStill : xZ y_La_standsStill 1 := ⟨xtbm (List.mem_of_getElem? (i := 88) rfl) rfl, xtbm (List.mem_of_getElem? (i := 803) rfl) rfl, by decide +kernel, by decide +kernel, by decide +kernel⟩
set_option maxRecDepth 20000 in
theorem i_La_standsStill : Cond.instanceMethod y_La_standsStill.1 ∈ xtb := xtbm (List.mem_of_getElem? (i := 802) rfl) rfl
set_option maxRecDepth 20000 in
theorem v_La_standsStill : Cond.selects y_La_standsStill.1.cls y_La_standsStill.1 y_La_standsStill.1 ∈ xtb := xtbm (List.mem_of_getElem? (i := 41) rfl) rfl
set_option maxRecDepth 20000 in
theorem z_La_endsWith : xZ y_La_endsWith 2 := ⟨xtbm (List.mem_of_getElem? (i := 88) rfl) rfl, xtbm (List.mem_of_getElem? (i := 807) rfl) rfl, by decide +kernel, by decide +kernel, by decide +kernel⟩
set_option maxRecDepth 20000 in
theorem i_La_endsWith : Cond.instanceMethod y_La_endsWith.1 ∈ xtb := xtbm (List.mem_of_getElem? (i := 806) rfl) rfl
set_option maxRecDepth 20000 in
theorem v_La_endsWith : Cond.selects y_La_endsWith.1.cls y_La_endsWith.1 y_La_endsWith.1 ∈ xtb := xtbm (List.mem_of_getElem? (i := 42) rfl) rfl
set_option maxRecDepth 20000 in
theorem z_JM_max : xZ y_JM_max 2 := ⟨xtbm (List.mem_of_getElem? (i := 92) rfl) rfl, xtbm (List.mem_of_getElem? (i := 810) rfl) rfl, by decide +kernel, by decide +kernel, by decide +kernel⟩
set_option maxRecDepth 20000 in
theorem s_JM_max : Cond.static y_JM_max.1 ∈ xtb := xtbm (List.mem_of_getElem? (i := 809) rfl) rfl
set_option maxRecDepth 20000 in
theorem z_La_layTails : xZ y_La_layTails 0 := ⟨xtbm (List.mem_of_getElem? (i := 88) rfl) rfl, xtbm (List.mem_of_getElem? (i := 814) rfl) rfl, by decide +kernel, by decide +kernel, by decide +kernel⟩
set_option maxRecDepth 20000 in
theorem i_La_layTails : Cond.instanceMethod y_La_layTails.1 ∈ xtb := xtbm (List.mem_of_getElem? (i := 813) rfl) rfl
set_option maxRecDepth 20000 in
theorem v_La_layTails : Cond.selects y_La_layTails.1.cls y_La_layTails.1 y_La_layTails.1 ∈ xtb := xtbm (List.mem_of_getElem? (i := 43) rfl) rfl
set_option maxRecDepth 20000 in
theorem z_La_holdsAny : xZ y_La_holdsAny 1 := ⟨xtbm (List.mem_of_getElem? (i := 88) rfl) rfl, xtbm (List.mem_of_getElem? (i := 818) rfl) rfl, by decide +kernel, by decide +kernel, by decide +kernel⟩
set_option maxRecDepth 20000 in
theorem i_La_holdsAny : Cond.instanceMethod y_La_holdsAny.1 ∈ xtb := xtbm (List.mem_of_getElem? (i := 817) rfl) rfl
set_option maxRecDepth 20000 in
theorem v_La_holdsAny : Cond.selects y_La_holdsAny.1.cls y_La_holdsAny.1 y_La_holdsAny.1 ∈ xtb := xtbm (List.mem_of_getElem? (i := 44) rfl) rfl
set_option maxRecDepth 20000 in
theorem z_La_findOuter : xZ y_La_findOuter 1 := ⟨xtbm (List.mem_of_getElem? (i := 88) rfl) rfl, xtbm (List.mem_of_getElem? (i := 822) rfl) rfl, by decide +kernel, by decide +kernel, by decide +kernel⟩
set_option maxRecDepth 20000 in
theorem i_La_findOuter : Cond.instanceMethod y_La_findOuter.1 ∈ xtb := xtbm (List.mem_of_getElem? (i := 821) rfl) rfl
set_option maxRecDepth 20000 in
theorem v_La_findOuter : Cond.selects y_La_findOuter.1.cls y_La_findOuter.1 y_La_findOuter.1 ∈ xtb := xtbm (List.mem_of_getElem? (i := 45) rfl) rfl
set_option maxRecDepth 20000 in
theorem z_La_fitsAlign : xZ y_La_fitsAlign 2 := ⟨xtbm (List.mem_of_getElem? (i := 88) rfl) rfl, xtbm (List.mem_of_getElem? (i := 826) rfl) rfl, by decide +kernel, by decide +kernel, by decide +kernel⟩
set_option maxRecDepth 20000 in
theorem i_La_fitsAlign : Cond.instanceMethod y_La_fitsAlign.1 ∈ xtb := xtbm (List.mem_of_getElem? (i := 825) rfl) rfl
set_option maxRecDepth 20000 in
theorem v_La_fitsAlign : Cond.selects y_La_fitsAlign.1.cls y_La_fitsAlign.1 y_La_fitsAlign.1 ∈ xtb := xtbm (List.mem_of_getElem? (i := 46) rfl) rfl
set_option maxRecDepth 20000 in
theorem z_La_listBlocks : xZ y_La_listBlocks 0 := ⟨xtbm (List.mem_of_getElem? (i := 88) rfl) rfl, xtbm (List.mem_of_getElem? (i := 830) rfl) rfl, by decide +kernel, by decide +kernel, by decide +kernel⟩
set_option maxRecDepth 20000 in
theorem i_La_listBlocks : Cond.instanceMethod y_La_listBlocks.1 ∈ xtb := xtbm (List.mem_of_getElem? (i := 829) rfl) rfl
set_option maxRecDepth 20000 in
theorem v_La_listBlocks : Cond.selects y_La_listBlocks.1.cls y_La_listBlocks.1 y_La_listBlocks.1 ∈ xtb := xtbm (List.mem_of_getElem? (i := 47) rfl) rfl
set_option maxRecDepth 20000 in
theorem z_La_holderOf : xZ y_La_holderOf 1 := ⟨xtbm (List.mem_of_getElem? (i := 88) rfl) rfl, xtbm (List.mem_of_getElem? (i := 834) rfl) rfl, by decide +kernel, by decide +kernel, by decide +kernel⟩
set_option maxRecDepth 20000 in
theorem i_La_holderOf : Cond.instanceMethod y_La_holderOf.1 ∈ xtb := xtbm (List.mem_of_getElem? (i := 832) rfl) rfl
set_option maxRecDepth 20000 in
theorem v_La_holderOf : Cond.selects y_La_holderOf.1.cls y_La_holderOf.1 y_La_holderOf.1 ∈ xtb := xtbm (List.mem_of_getElem? (i := 833) rfl) rfl
set_option maxRecDepth 20000 in
theorem z_BO_arrange : xZ y_BO_arrange 4 := ⟨xtbm (List.mem_of_getElem? (i := 89) rfl) rfl, xtbm (List.mem_of_getElem? (i := 838) rfl) rfl, by decide +kernel, by decide +kernel, by decide +kernel⟩
set_option maxRecDepth 20000 in
theorem i_BO_arrange : Cond.instanceMethod y_BO_arrange.1 ∈ xtb := xtbm (List.mem_of_getElem? (i := 836) rfl) rfl
set_option maxRecDepth 20000 in
theorem v_BO_arrange : Cond.selects y_BO_arrange.1.cls y_BO_arrange.1 y_BO_arrange.1 ∈ xtb := xtbm (List.mem_of_getElem? (i := 837) rfl) rfl
set_option maxRecDepth 20000 in
theorem z_BO_measure : xZ y_BO_measure 3 := ⟨xtbm (List.mem_of_getElem? (i := 89) rfl) rfl, xtbm (List.mem_of_getElem? (i := 843) rfl) rfl, by decide +kernel, by decide +kernel, by decide +kernel⟩
set_option maxRecDepth 20000 in
theorem i_BO_measure : Cond.instanceMethod y_BO_measure.1 ∈ xtb := xtbm (List.mem_of_getElem? (i := 842) rfl) rfl
set_option maxRecDepth 20000 in
theorem v_BO_measure : Cond.selects y_BO_measure.1.cls y_BO_measure.1 y_BO_measure.1 ∈ xtb := xtbm (List.mem_of_getElem? (i := 48) rfl) rfl
set_option maxRecDepth 20000 in
theorem z_BO_need : xZ y_BO_need 5 := ⟨xtbm (List.mem_of_getElem? (i := 89) rfl) rfl, xtbm (List.mem_of_getElem? (i := 848) rfl) rfl, by decide +kernel, by decide +kernel, by decide +kernel⟩
set_option maxRecDepth 20000 in
theorem i_BO_need : Cond.instanceMethod y_BO_need.1 ∈ xtb := xtbm (List.mem_of_getElem? (i := 847) rfl) rfl
set_option maxRecDepth 20000 in
theorem v_BO_need : Cond.selects y_BO_need.1.cls y_BO_need.1 y_BO_need.1 ∈ xtb := xtbm (List.mem_of_getElem? (i := 49) rfl) rfl
set_option maxRecDepth 20000 in
theorem z_BO_gap : xZ y_BO_gap 2 := ⟨xtbm (List.mem_of_getElem? (i := 89) rfl) rfl, xtbm (List.mem_of_getElem? (i := 851) rfl) rfl, by decide +kernel, by decide +kernel, by decide +kernel⟩
set_option maxRecDepth 20000 in
theorem s_BO_gap : Cond.static y_BO_gap.1 ∈ xtb := xtbm (List.mem_of_getElem? (i := 850) rfl) rfl
set_option maxRecDepth 20000 in
theorem z_BO_choose : xZ y_BO_choose 5 := ⟨xtbm (List.mem_of_getElem? (i := 89) rfl) rfl, xtbm (List.mem_of_getElem? (i := 856) rfl) rfl, by decide +kernel, by decide +kernel, by decide +kernel⟩
set_option maxRecDepth 20000 in
theorem i_BO_choose : Cond.instanceMethod y_BO_choose.1 ∈ xtb := xtbm (List.mem_of_getElem? (i := 855) rfl) rfl
set_option maxRecDepth 20000 in
theorem v_BO_choose : Cond.selects y_BO_choose.1.cls y_BO_choose.1 y_BO_choose.1 ∈ xtb := xtbm (List.mem_of_getElem? (i := 50) rfl) rfl
set_option maxRecDepth 20000 in
theorem z_La_placeBlocks : xZ y_La_placeBlocks 0 := ⟨xtbm (List.mem_of_getElem? (i := 88) rfl) rfl, xtbm (List.mem_of_getElem? (i := 860) rfl) rfl, by decide +kernel, by decide +kernel, by decide +kernel⟩
set_option maxRecDepth 20000 in
theorem i_La_placeBlocks : Cond.instanceMethod y_La_placeBlocks.1 ∈ xtb := xtbm (List.mem_of_getElem? (i := 859) rfl) rfl
set_option maxRecDepth 20000 in
theorem v_La_placeBlocks : Cond.selects y_La_placeBlocks.1.cls y_La_placeBlocks.1 y_La_placeBlocks.1 ∈ xtb := xtbm (List.mem_of_getElem? (i := 51) rfl) rfl
set_option maxRecDepth 20000 in
theorem z_La_placeOthers : xZ y_La_placeOthers 0 := ⟨xtbm (List.mem_of_getElem? (i := 88) rfl) rfl, xtbm (List.mem_of_getElem? (i := 865) rfl) rfl, by decide +kernel, by decide +kernel, by decide +kernel⟩
set_option maxRecDepth 20000 in
theorem i_La_placeOthers : Cond.instanceMethod y_La_placeOthers.1 ∈ xtb := xtbm (List.mem_of_getElem? (i := 864) rfl) rfl
set_option maxRecDepth 20000 in
theorem v_La_placeOthers : Cond.selects y_La_placeOthers.1.cls y_La_placeOthers.1 y_La_placeOthers.1 ∈ xtb := xtbm (List.mem_of_getElem? (i := 52) rfl) rfl
set_option maxRecDepth 20000 in
theorem z_La_writeOctets : xZ y_La_writeOctets 0 := ⟨xtbm (List.mem_of_getElem? (i := 88) rfl) rfl, xtbm (List.mem_of_getElem? (i := 869) rfl) rfl, by decide +kernel, by decide +kernel, by decide +kernel⟩
set_option maxRecDepth 20000 in
theorem i_La_writeOctets : Cond.instanceMethod y_La_writeOctets.1 ∈ xtb := xtbm (List.mem_of_getElem? (i := 868) rfl) rfl
set_option maxRecDepth 20000 in
theorem v_La_writeOctets : Cond.selects y_La_writeOctets.1.cls y_La_writeOctets.1 y_La_writeOctets.1 ∈ xtb := xtbm (List.mem_of_getElem? (i := 53) rfl) rfl
set_option maxRecDepth 20000 in
theorem z_DS_kept : xZ y_DS_kept 2 := ⟨xtbm (List.mem_of_getElem? (i := 84) rfl) rfl, xtbm (List.mem_of_getElem? (i := 873) rfl) rfl, by decide +kernel, by decide +kernel, by decide +kernel⟩
set_option maxRecDepth 20000 in
theorem i_DS_kept : Cond.instanceMethod y_DS_kept.1 ∈ xtb := xtbm (List.mem_of_getElem? (i := 871) rfl) rfl
set_option maxRecDepth 20000 in
theorem v_DS_kept : Cond.selects y_DS_kept.1.cls y_DS_kept.1 y_DS_kept.1 ∈ xtb := xtbm (List.mem_of_getElem? (i := 872) rfl) rfl
set_option maxRecDepth 20000 in
theorem z_DS_hadItem : xZ y_DS_hadItem 1 := ⟨xtbm (List.mem_of_getElem? (i := 84) rfl) rfl, xtbm (List.mem_of_getElem? (i := 877) rfl) rfl, by decide +kernel, by decide +kernel, by decide +kernel⟩
set_option maxRecDepth 20000 in
theorem i_DS_hadItem : Cond.instanceMethod y_DS_hadItem.1 ∈ xtb := xtbm (List.mem_of_getElem? (i := 876) rfl) rfl
set_option maxRecDepth 20000 in
theorem v_DS_hadItem : Cond.selects y_DS_hadItem.1.cls y_DS_hadItem.1 y_DS_hadItem.1 ∈ xtb := xtbm (List.mem_of_getElem? (i := 54) rfl) rfl
set_option maxRecDepth 20000 in
theorem z_JL_bitCount : xZ y_JL_bitCount 1 := ⟨xtbm (List.mem_of_getElem? (i := 96) rfl) rfl, xtbm (List.mem_of_getElem? (i := 882) rfl) rfl, by decide +kernel, by decide +kernel, by decide +kernel⟩
set_option maxRecDepth 20000 in
theorem s_JL_bitCount : Cond.static y_JL_bitCount.1 ∈ xtb := xtbm (List.mem_of_getElem? (i := 881) rfl) rfl
set_option maxRecDepth 20000 in
theorem z_DS_read : xZ y_DS_read 2 := ⟨xtbm (List.mem_of_getElem? (i := 84) rfl) rfl, xtbm (List.mem_of_getElem? (i := 890) rfl) rfl, by decide +kernel, by decide +kernel, by decide +kernel⟩
set_option maxRecDepth 20000 in
theorem i_DS_read : Cond.instanceMethod y_DS_read.1 ∈ xtb := xtbm (List.mem_of_getElem? (i := 888) rfl) rfl
set_option maxRecDepth 20000 in
theorem v_DS_read : Cond.selects y_DS_read.1.cls y_DS_read.1 y_DS_read.1 ∈ xtb := xtbm (List.mem_of_getElem? (i := 889) rfl) rfl
set_option maxRecDepth 20000 in
theorem z_DS_function : xZ y_DS_function 2 := ⟨xtbm (List.mem_of_getElem? (i := 84) rfl) rfl, xtbm (List.mem_of_getElem? (i := 894) rfl) rfl, by decide +kernel, by decide +kernel, by decide +kernel⟩
set_option maxRecDepth 20000 in
theorem i_DS_function : Cond.instanceMethod y_DS_function.1 ∈ xtb := xtbm (List.mem_of_getElem? (i := 892) rfl) rfl
set_option maxRecDepth 20000 in
theorem v_DS_function : Cond.selects y_DS_function.1.cls y_DS_function.1 y_DS_function.1 ∈ xtb := xtbm (List.mem_of_getElem? (i := 893) rfl) rfl
set_option maxRecDepth 20000 in
theorem z_Re_countComeTo : xZ y_Re_countComeTo 1 := ⟨xtbm (List.mem_of_getElem? (i := 86) rfl) rfl, xtbm (List.mem_of_getElem? (i := 898) rfl) rfl, by decide +kernel, by decide +kernel, by decide +kernel⟩
set_option maxRecDepth 20000 in
theorem i_Re_countComeTo : Cond.instanceMethod y_Re_countComeTo.1 ∈ xtb := xtbm (List.mem_of_getElem? (i := 896) rfl) rfl
set_option maxRecDepth 20000 in
theorem v_Re_countComeTo : Cond.selects y_Re_countComeTo.1.cls y_Re_countComeTo.1 y_Re_countComeTo.1 ∈ xtb := xtbm (List.mem_of_getElem? (i := 897) rfl) rfl
set_option maxRecDepth 20000 in
theorem z_DS_values : xZ y_DS_values 3 := ⟨xtbm (List.mem_of_getElem? (i := 84) rfl) rfl, xtbm (List.mem_of_getElem? (i := 904) rfl) rfl, by decide +kernel, by decide +kernel, by decide +kernel⟩
set_option maxRecDepth 20000 in
theorem i_DS_values : Cond.instanceMethod y_DS_values.1 ∈ xtb := xtbm (List.mem_of_getElem? (i := 902) rfl) rfl
set_option maxRecDepth 20000 in
theorem v_DS_values : Cond.selects y_DS_values.1.cls y_DS_values.1 y_DS_values.1 ∈ xtb := xtbm (List.mem_of_getElem? (i := 903) rfl) rfl
set_option maxRecDepth 20000 in
theorem z_Re_countValues : xZ y_Re_countValues 3 := ⟨xtbm (List.mem_of_getElem? (i := 86) rfl) rfl, xtbm (List.mem_of_getElem? (i := 909) rfl) rfl, by decide +kernel, by decide +kernel, by decide +kernel⟩
set_option maxRecDepth 20000 in
theorem i_Re_countValues : Cond.instanceMethod y_Re_countValues.1 ∈ xtb := xtbm (List.mem_of_getElem? (i := 907) rfl) rfl
set_option maxRecDepth 20000 in
theorem v_Re_countValues : Cond.selects y_Re_countValues.1.cls y_Re_countValues.1 y_Re_countValues.1 ∈ xtb := xtbm (List.mem_of_getElem? (i := 908) rfl) rfl
set_option maxRecDepth 20000 in
theorem z_OS_count : xZ y_OS_count 2 := ⟨xtbm (List.mem_of_getElem? (i := 95) rfl) rfl, xtbm (List.mem_of_getElem? (i := 912) rfl) rfl, by decide +kernel, by decide +kernel, by decide +kernel⟩
set_option maxRecDepth 20000 in
theorem s_OS_count : Cond.static y_OS_count.1 ∈ xtb := xtbm (List.mem_of_getElem? (i := 911) rfl) rfl
set_option maxRecDepth 20000 in
theorem z_DS_octet : xZ y_DS_octet 1 := ⟨xtbm (List.mem_of_getElem? (i := 84) rfl) rfl, xtbm (List.mem_of_getElem? (i := 917) rfl) rfl, by decide +kernel, by decide +kernel, by decide +kernel⟩
set_option maxRecDepth 20000 in
theorem i_DS_octet : Cond.instanceMethod y_DS_octet.1 ∈ xtb := xtbm (List.mem_of_getElem? (i := 915) rfl) rfl
set_option maxRecDepth 20000 in
theorem v_DS_octet : Cond.selects y_DS_octet.1.cls y_DS_octet.1 y_DS_octet.1 ∈ xtb := xtbm (List.mem_of_getElem? (i := 916) rfl) rfl
set_option maxRecDepth 20000 in
theorem z_DS_shrunk : xZ y_DS_shrunk 1 := ⟨xtbm (List.mem_of_getElem? (i := 84) rfl) rfl, xtbm (List.mem_of_getElem? (i := 921) rfl) rfl, by decide +kernel, by decide +kernel, by decide +kernel⟩
set_option maxRecDepth 20000 in
theorem i_DS_shrunk : Cond.instanceMethod y_DS_shrunk.1 ∈ xtb := xtbm (List.mem_of_getElem? (i := 919) rfl) rfl
set_option maxRecDepth 20000 in
theorem v_DS_shrunk : Cond.selects y_DS_shrunk.1.cls y_DS_shrunk.1 y_DS_shrunk.1 ∈ xtb := xtbm (List.mem_of_getElem? (i := 920) rfl) rfl
set_option maxRecDepth 20000 in
theorem z_La_countKept : xZ y_La_countKept 0 := ⟨xtbm (List.mem_of_getElem? (i := 88) rfl) rfl, xtbm (List.mem_of_getElem? (i := 925) rfl) rfl, by decide +kernel, by decide +kernel, by decide +kernel⟩
set_option maxRecDepth 20000 in
theorem i_La_countKept : Cond.instanceMethod y_La_countKept.1 ∈ xtb := xtbm (List.mem_of_getElem? (i := 923) rfl) rfl
set_option maxRecDepth 20000 in
theorem v_La_countKept : Cond.selects y_La_countKept.1.cls y_La_countKept.1 y_La_countKept.1 ∈ xtb := xtbm (List.mem_of_getElem? (i := 924) rfl) rfl
set_option maxRecDepth 20000 in
theorem z_La_countDropped : xZ y_La_countDropped 0 := ⟨xtbm (List.mem_of_getElem? (i := 88) rfl) rfl, xtbm (List.mem_of_getElem? (i := 930) rfl) rfl, by decide +kernel, by decide +kernel, by decide +kernel⟩
set_option maxRecDepth 20000 in
theorem i_La_countDropped : Cond.instanceMethod y_La_countDropped.1 ∈ xtb := xtbm (List.mem_of_getElem? (i := 928) rfl) rfl
set_option maxRecDepth 20000 in
theorem v_La_countDropped : Cond.selects y_La_countDropped.1.cls y_La_countDropped.1 y_La_countDropped.1 ∈ xtb := xtbm (List.mem_of_getElem? (i := 929) rfl) rfl
set_option maxRecDepth 20000 in
theorem z_La_isDropped : xZ y_La_isDropped 1 := ⟨xtbm (List.mem_of_getElem? (i := 88) rfl) rfl, xtbm (List.mem_of_getElem? (i := 934) rfl) rfl, by decide +kernel, by decide +kernel, by decide +kernel⟩
set_option maxRecDepth 20000 in
theorem i_La_isDropped : Cond.instanceMethod y_La_isDropped.1 ∈ xtb := xtbm (List.mem_of_getElem? (i := 933) rfl) rfl
set_option maxRecDepth 20000 in
theorem v_La_isDropped : Cond.selects y_La_isDropped.1.cls y_La_isDropped.1 y_La_isDropped.1 ∈ xtb := xtbm (List.mem_of_getElem? (i := 55) rfl) rfl
set_option maxRecDepth 20000 in
theorem z_La_countDroppedOctets : xZ y_La_countDroppedOctets 0 := ⟨xtbm (List.mem_of_getElem? (i := 88) rfl) rfl, xtbm (List.mem_of_getElem? (i := 938) rfl) rfl, by decide +kernel, by decide +kernel, by decide +kernel⟩
set_option maxRecDepth 20000 in
theorem i_La_countDroppedOctets : Cond.instanceMethod y_La_countDroppedOctets.1 ∈ xtb := xtbm (List.mem_of_getElem? (i := 936) rfl) rfl
set_option maxRecDepth 20000 in
theorem v_La_countDroppedOctets : Cond.selects y_La_countDroppedOctets.1.cls y_La_countDroppedOctets.1 y_La_countDroppedOctets.1 ∈ xtb := xtbm (List.mem_of_getElem? (i := 937) rfl) rfl
set_option maxRecDepth 20000 in
theorem z_DS_countOthers : xZ y_DS_countOthers 1 := ⟨xtbm (List.mem_of_getElem? (i := 84) rfl) rfl, xtbm (List.mem_of_getElem? (i := 941) rfl) rfl, by decide +kernel, by decide +kernel, by decide +kernel⟩
set_option maxRecDepth 20000 in
theorem s_DS_countOthers : Cond.static y_DS_countOthers.1 ∈ xtb := xtbm (List.mem_of_getElem? (i := 940) rfl) rfl
set_option maxRecDepth 20000 in
theorem z_Mo_init : xZ y_Mo_init 0 := ⟨xtbm (List.mem_of_getElem? (i := 91) rfl) rfl, xtbm (List.mem_of_getElem? (i := 946) rfl) rfl, by decide +kernel, by decide +kernel, by decide +kernel⟩
set_option maxRecDepth 20000 in
theorem i_Mo_init : Cond.instanceMethod y_Mo_init.1 ∈ xtb := xtbm (List.mem_of_getElem? (i := 945) rfl) rfl
set_option maxRecDepth 20000 in
theorem z_Mo_item : xZ y_Mo_item 5 := ⟨xtbm (List.mem_of_getElem? (i := 91) rfl) rfl, xtbm (List.mem_of_getElem? (i := 1128) rfl) rfl, by decide +kernel, by decide +kernel, by decide +kernel⟩
set_option maxRecDepth 20000 in
theorem i_Mo_item : Cond.instanceMethod y_Mo_item.1 ∈ xtb := xtbm (List.mem_of_getElem? (i := 1126) rfl) rfl
set_option maxRecDepth 20000 in
theorem v_Mo_item : Cond.selects y_Mo_item.1.cls y_Mo_item.1 y_Mo_item.1 ∈ xtb := xtbm (List.mem_of_getElem? (i := 1127) rfl) rfl
set_option maxRecDepth 20000 in
theorem z_Mo_in : xZ y_Mo_in 3 := ⟨xtbm (List.mem_of_getElem? (i := 91) rfl) rfl, xtbm (List.mem_of_getElem? (i := 1131) rfl) rfl, by decide +kernel, by decide +kernel, by decide +kernel⟩
set_option maxRecDepth 20000 in
theorem s_Mo_in : Cond.static y_Mo_in.1 ∈ xtb := xtbm (List.mem_of_getElem? (i := 1130) rfl) rfl
set_option maxRecDepth 20000 in
theorem z_Mo_bytes : xZ y_Mo_bytes 4 := ⟨xtbm (List.mem_of_getElem? (i := 91) rfl) rfl, xtbm (List.mem_of_getElem? (i := 1135) rfl) rfl, by decide +kernel, by decide +kernel, by decide +kernel⟩
set_option maxRecDepth 20000 in
theorem i_Mo_bytes : Cond.instanceMethod y_Mo_bytes.1 ∈ xtb := xtbm (List.mem_of_getElem? (i := 1133) rfl) rfl
set_option maxRecDepth 20000 in
theorem v_Mo_bytes : Cond.selects y_Mo_bytes.1.cls y_Mo_bytes.1 y_Mo_bytes.1 ∈ xtb := xtbm (List.mem_of_getElem? (i := 1134) rfl) rfl
set_option maxRecDepth 20000 in
theorem z_Mo_has : xZ y_Mo_has 2 := ⟨xtbm (List.mem_of_getElem? (i := 91) rfl) rfl, xtbm (List.mem_of_getElem? (i := 1139) rfl) rfl, by decide +kernel, by decide +kernel, by decide +kernel⟩
set_option maxRecDepth 20000 in
theorem i_Mo_has : Cond.instanceMethod y_Mo_has.1 ∈ xtb := xtbm (List.mem_of_getElem? (i := 1138) rfl) rfl
set_option maxRecDepth 20000 in
theorem v_Mo_has : Cond.selects y_Mo_has.1.cls y_Mo_has.1 y_Mo_has.1 ∈ xtb := xtbm (List.mem_of_getElem? (i := 56) rfl) rfl
set_option maxRecDepth 20000 in
theorem z_Mo_refer : xZ y_Mo_refer 3 := ⟨xtbm (List.mem_of_getElem? (i := 91) rfl) rfl, xtbm (List.mem_of_getElem? (i := 1144) rfl) rfl, by decide +kernel, by decide +kernel, by decide +kernel⟩
set_option maxRecDepth 20000 in
theorem i_Mo_refer : Cond.instanceMethod y_Mo_refer.1 ∈ xtb := xtbm (List.mem_of_getElem? (i := 1142) rfl) rfl
set_option maxRecDepth 20000 in
theorem v_Mo_refer : Cond.selects y_Mo_refer.1.cls y_Mo_refer.1 y_Mo_refer.1 ∈ xtb := xtbm (List.mem_of_getElem? (i := 1143) rfl) rfl
set_option maxRecDepth 20000 in
theorem z_Mo_code : xZ y_Mo_code 5 := ⟨xtbm (List.mem_of_getElem? (i := 91) rfl) rfl, xtbm (List.mem_of_getElem? (i := 1148) rfl) rfl, by decide +kernel, by decide +kernel, by decide +kernel⟩
set_option maxRecDepth 20000 in
theorem i_Mo_code : Cond.instanceMethod y_Mo_code.1 ∈ xtb := xtbm (List.mem_of_getElem? (i := 1146) rfl) rfl
set_option maxRecDepth 20000 in
theorem v_Mo_code : Cond.selects y_Mo_code.1.cls y_Mo_code.1 y_Mo_code.1 ∈ xtb := xtbm (List.mem_of_getElem? (i := 1147) rfl) rfl
set_option maxRecDepth 20000 in
theorem z_Mo_isTold : xZ y_Mo_isTold 4 := ⟨xtbm (List.mem_of_getElem? (i := 91) rfl) rfl, xtbm (List.mem_of_getElem? (i := 1151) rfl) rfl, by decide +kernel, by decide +kernel, by decide +kernel⟩
set_option maxRecDepth 20000 in
theorem s_Mo_isTold : Cond.static y_Mo_isTold.1 ∈ xtb := xtbm (List.mem_of_getElem? (i := 1150) rfl) rfl
set_option maxRecDepth 20000 in
theorem z_Mo_isRegister : xZ y_Mo_isRegister 1 := ⟨xtbm (List.mem_of_getElem? (i := 91) rfl) rfl, xtbm (List.mem_of_getElem? (i := 1154) rfl) rfl, by decide +kernel, by decide +kernel, by decide +kernel⟩
set_option maxRecDepth 20000 in
theorem s_Mo_isRegister : Cond.static y_Mo_isRegister.1 ∈ xtb := xtbm (List.mem_of_getElem? (i := 1153) rfl) rfl
set_option maxRecDepth 20000 in
theorem z_Mo_isItem : xZ y_Mo_isItem 1 := ⟨xtbm (List.mem_of_getElem? (i := 91) rfl) rfl, xtbm (List.mem_of_getElem? (i := 1157) rfl) rfl, by decide +kernel, by decide +kernel, by decide +kernel⟩
set_option maxRecDepth 20000 in
theorem s_Mo_isItem : Cond.static y_Mo_isItem.1 ∈ xtb := xtbm (List.mem_of_getElem? (i := 1156) rfl) rfl
set_option maxRecDepth 20000 in
theorem z_Mo_clear : xZ y_Mo_clear 1 := ⟨xtbm (List.mem_of_getElem? (i := 91) rfl) rfl, xtbm (List.mem_of_getElem? (i := 1161) rfl) rfl, by decide +kernel, by decide +kernel, by decide +kernel⟩
set_option maxRecDepth 20000 in
theorem i_Mo_clear : Cond.instanceMethod y_Mo_clear.1 ∈ xtb := xtbm (List.mem_of_getElem? (i := 1159) rfl) rfl
set_option maxRecDepth 20000 in
theorem v_Mo_clear : Cond.selects y_Mo_clear.1.cls y_Mo_clear.1 y_Mo_clear.1 ∈ xtb := xtbm (List.mem_of_getElem? (i := 1160) rfl) rfl
set_option maxRecDepth 20000 in
theorem z_Mo_entry : xZ y_Mo_entry 2 := ⟨xtbm (List.mem_of_getElem? (i := 91) rfl) rfl, xtbm (List.mem_of_getElem? (i := 1165) rfl) rfl, by decide +kernel, by decide +kernel, by decide +kernel⟩
set_option maxRecDepth 20000 in
theorem i_Mo_entry : Cond.instanceMethod y_Mo_entry.1 ∈ xtb := xtbm (List.mem_of_getElem? (i := 1163) rfl) rfl
set_option maxRecDepth 20000 in
theorem v_Mo_entry : Cond.selects y_Mo_entry.1.cls y_Mo_entry.1 y_Mo_entry.1 ∈ xtb := xtbm (List.mem_of_getElem? (i := 1164) rfl) rfl
set_option maxRecDepth 20000 in
theorem z_Mo_input1 : xZ y_Mo_input1 2 := ⟨xtbm (List.mem_of_getElem? (i := 91) rfl) rfl, xtbm (List.mem_of_getElem? (i := 1169) rfl) rfl, by decide +kernel, by decide +kernel, by decide +kernel⟩
set_option maxRecDepth 20000 in
theorem i_Mo_input1 : Cond.instanceMethod y_Mo_input1.1 ∈ xtb := xtbm (List.mem_of_getElem? (i := 1167) rfl) rfl
set_option maxRecDepth 20000 in
theorem v_Mo_input1 : Cond.selects y_Mo_input1.1.cls y_Mo_input1.1 y_Mo_input1.1 ∈ xtb := xtbm (List.mem_of_getElem? (i := 1168) rfl) rfl
set_option maxRecDepth 20000 in
theorem z_Mo_input2 : xZ y_Mo_input2 0 := ⟨xtbm (List.mem_of_getElem? (i := 91) rfl) rfl, xtbm (List.mem_of_getElem? (i := 1173) rfl) rfl, by decide +kernel, by decide +kernel, by decide +kernel⟩
set_option maxRecDepth 20000 in
theorem i_Mo_input2 : Cond.instanceMethod y_Mo_input2.1 ∈ xtb := xtbm (List.mem_of_getElem? (i := 1171) rfl) rfl
set_option maxRecDepth 20000 in
theorem v_Mo_input2 : Cond.selects y_Mo_input2.1.cls y_Mo_input2.1 y_Mo_input2.1 ∈ xtb := xtbm (List.mem_of_getElem? (i := 1172) rfl) rfl
set_option maxRecDepth 20000 in
theorem z_Mo_run : xZ y_Mo_run 1 := ⟨xtbm (List.mem_of_getElem? (i := 91) rfl) rfl, xtbm (List.mem_of_getElem? (i := 1177) rfl) rfl, by decide +kernel, by decide +kernel, by decide +kernel⟩
set_option maxRecDepth 20000 in
theorem i_Mo_run : Cond.instanceMethod y_Mo_run.1 ∈ xtb := xtbm (List.mem_of_getElem? (i := 1175) rfl) rfl
set_option maxRecDepth 20000 in
theorem v_Mo_run : Cond.selects y_Mo_run.1.cls y_Mo_run.1 y_Mo_run.1 ∈ xtb := xtbm (List.mem_of_getElem? (i := 1176) rfl) rfl
set_option maxRecDepth 20000 in
theorem z_Mo_goes : xZ y_Mo_goes 1 := ⟨xtbm (List.mem_of_getElem? (i := 91) rfl) rfl, xtbm (List.mem_of_getElem? (i := 1181) rfl) rfl, by decide +kernel, by decide +kernel, by decide +kernel⟩
set_option maxRecDepth 20000 in
theorem i_Mo_goes : Cond.instanceMethod y_Mo_goes.1 ∈ xtb := xtbm (List.mem_of_getElem? (i := 1180) rfl) rfl
set_option maxRecDepth 20000 in
theorem v_Mo_goes : Cond.selects y_Mo_goes.1.cls y_Mo_goes.1 y_Mo_goes.1 ∈ xtb := xtbm (List.mem_of_getElem? (i := 57) rfl) rfl
set_option maxRecDepth 20000 in
theorem z_Mo_place : xZ y_Mo_place 2 := ⟨xtbm (List.mem_of_getElem? (i := 91) rfl) rfl, xtbm (List.mem_of_getElem? (i := 1185) rfl) rfl, by decide +kernel, by decide +kernel, by decide +kernel⟩
set_option maxRecDepth 20000 in
theorem i_Mo_place : Cond.instanceMethod y_Mo_place.1 ∈ xtb := xtbm (List.mem_of_getElem? (i := 1184) rfl) rfl
set_option maxRecDepth 20000 in
theorem v_Mo_place : Cond.selects y_Mo_place.1.cls y_Mo_place.1 y_Mo_place.1 ∈ xtb := xtbm (List.mem_of_getElem? (i := 58) rfl) rfl
set_option maxRecDepth 20000 in
theorem z_Mo_runLaid : xZ y_Mo_runLaid 1 := ⟨xtbm (List.mem_of_getElem? (i := 91) rfl) rfl, xtbm (List.mem_of_getElem? (i := 1189) rfl) rfl, by decide +kernel, by decide +kernel, by decide +kernel⟩
set_option maxRecDepth 20000 in
theorem i_Mo_runLaid : Cond.instanceMethod y_Mo_runLaid.1 ∈ xtb := xtbm (List.mem_of_getElem? (i := 1187) rfl) rfl
set_option maxRecDepth 20000 in
theorem v_Mo_runLaid : Cond.selects y_Mo_runLaid.1.cls y_Mo_runLaid.1 y_Mo_runLaid.1 ∈ xtb := xtbm (List.mem_of_getElem? (i := 1188) rfl) rfl
set_option maxRecDepth 20000 in
theorem z_Mo_ran : xZ y_Mo_ran 1 := ⟨xtbm (List.mem_of_getElem? (i := 91) rfl) rfl, xtbm (List.mem_of_getElem? (i := 1193) rfl) rfl, by decide +kernel, by decide +kernel, by decide +kernel⟩
set_option maxRecDepth 20000 in
theorem i_Mo_ran : Cond.instanceMethod y_Mo_ran.1 ∈ xtb := xtbm (List.mem_of_getElem? (i := 1191) rfl) rfl
set_option maxRecDepth 20000 in
theorem v_Mo_ran : Cond.selects y_Mo_ran.1.cls y_Mo_ran.1 y_Mo_ran.1 ∈ xtb := xtbm (List.mem_of_getElem? (i := 1192) rfl) rfl
set_option maxRecDepth 20000 in
theorem z_Mo_out : xZ y_Mo_out 1 := ⟨xtbm (List.mem_of_getElem? (i := 91) rfl) rfl, xtbm (List.mem_of_getElem? (i := 1197) rfl) rfl, by decide +kernel, by decide +kernel, by decide +kernel⟩
set_option maxRecDepth 20000 in
theorem i_Mo_out : Cond.instanceMethod y_Mo_out.1 ∈ xtb := xtbm (List.mem_of_getElem? (i := 1195) rfl) rfl
set_option maxRecDepth 20000 in
theorem v_Mo_out : Cond.selects y_Mo_out.1.cls y_Mo_out.1 y_Mo_out.1 ∈ xtb := xtbm (List.mem_of_getElem? (i := 1196) rfl) rfl
set_option maxRecDepth 20000 in
theorem z_Mo_shrink : xZ y_Mo_shrink 0 := ⟨xtbm (List.mem_of_getElem? (i := 91) rfl) rfl, xtbm (List.mem_of_getElem? (i := 1201) rfl) rfl, by decide +kernel, by decide +kernel, by decide +kernel⟩
set_option maxRecDepth 20000 in
theorem i_Mo_shrink : Cond.instanceMethod y_Mo_shrink.1 ∈ xtb := xtbm (List.mem_of_getElem? (i := 1199) rfl) rfl
set_option maxRecDepth 20000 in
theorem v_Mo_shrink : Cond.selects y_Mo_shrink.1.cls y_Mo_shrink.1 y_Mo_shrink.1 ∈ xtb := xtbm (List.mem_of_getElem? (i := 1200) rfl) rfl
set_option maxRecDepth 20000 in
theorem z_Mo_reach : xZ y_Mo_reach 0 := ⟨xtbm (List.mem_of_getElem? (i := 91) rfl) rfl, xtbm (List.mem_of_getElem? (i := 1205) rfl) rfl, by decide +kernel, by decide +kernel, by decide +kernel⟩
set_option maxRecDepth 20000 in
theorem i_Mo_reach : Cond.instanceMethod y_Mo_reach.1 ∈ xtb := xtbm (List.mem_of_getElem? (i := 1204) rfl) rfl
set_option maxRecDepth 20000 in
theorem v_Mo_reach : Cond.selects y_Mo_reach.1.cls y_Mo_reach.1 y_Mo_reach.1 ∈ xtb := xtbm (List.mem_of_getElem? (i := 59) rfl) rfl
set_option maxRecDepth 20000 in
theorem z_Mo_comes : xZ y_Mo_comes 2 := ⟨xtbm (List.mem_of_getElem? (i := 91) rfl) rfl, xtbm (List.mem_of_getElem? (i := 1209) rfl) rfl, by decide +kernel, by decide +kernel, by decide +kernel⟩
set_option maxRecDepth 20000 in
theorem i_Mo_comes : Cond.instanceMethod y_Mo_comes.1 ∈ xtb := xtbm (List.mem_of_getElem? (i := 1208) rfl) rfl
set_option maxRecDepth 20000 in
theorem v_Mo_comes : Cond.selects y_Mo_comes.1.cls y_Mo_comes.1 y_Mo_comes.1 ∈ xtb := xtbm (List.mem_of_getElem? (i := 60) rfl) rfl
set_option maxRecDepth 20000 in
theorem z_Mo_takes : xZ y_Mo_takes 2 := ⟨xtbm (List.mem_of_getElem? (i := 91) rfl) rfl, xtbm (List.mem_of_getElem? (i := 1213) rfl) rfl, by decide +kernel, by decide +kernel, by decide +kernel⟩
set_option maxRecDepth 20000 in
theorem i_Mo_takes : Cond.instanceMethod y_Mo_takes.1 ∈ xtb := xtbm (List.mem_of_getElem? (i := 1212) rfl) rfl
set_option maxRecDepth 20000 in
theorem v_Mo_takes : Cond.selects y_Mo_takes.1.cls y_Mo_takes.1 y_Mo_takes.1 ∈ xtb := xtbm (List.mem_of_getElem? (i := 61) rfl) rfl
set_option maxRecDepth 20000 in
theorem z_Mo_returned : xZ y_Mo_returned 1 := ⟨xtbm (List.mem_of_getElem? (i := 91) rfl) rfl, xtbm (List.mem_of_getElem? (i := 1217) rfl) rfl, by decide +kernel, by decide +kernel, by decide +kernel⟩
set_option maxRecDepth 20000 in
theorem i_Mo_returned : Cond.instanceMethod y_Mo_returned.1 ∈ xtb := xtbm (List.mem_of_getElem? (i := 1216) rfl) rfl
set_option maxRecDepth 20000 in
theorem v_Mo_returned : Cond.selects y_Mo_returned.1.cls y_Mo_returned.1 y_Mo_returned.1 ∈ xtb := xtbm (List.mem_of_getElem? (i := 62) rfl) rfl
set_option maxRecDepth 20000 in
theorem z_Mo_empty : xZ y_Mo_empty 0 := ⟨xtbm (List.mem_of_getElem? (i := 91) rfl) rfl, xtbm (List.mem_of_getElem? (i := 1221) rfl) rfl, by decide +kernel, by decide +kernel, by decide +kernel⟩
set_option maxRecDepth 20000 in
theorem i_Mo_empty : Cond.instanceMethod y_Mo_empty.1 ∈ xtb := xtbm (List.mem_of_getElem? (i := 1220) rfl) rfl
set_option maxRecDepth 20000 in
theorem v_Mo_empty : Cond.selects y_Mo_empty.1.cls y_Mo_empty.1 y_Mo_empty.1 ∈ xtb := xtbm (List.mem_of_getElem? (i := 63) rfl) rfl
set_option maxRecDepth 20000 in
theorem z_Mo_put : xZ y_Mo_put 1 := ⟨xtbm (List.mem_of_getElem? (i := 91) rfl) rfl, xtbm (List.mem_of_getElem? (i := 1225) rfl) rfl, by decide +kernel, by decide +kernel, by decide +kernel⟩
set_option maxRecDepth 20000 in
theorem i_Mo_put : Cond.instanceMethod y_Mo_put.1 ∈ xtb := xtbm (List.mem_of_getElem? (i := 1224) rfl) rfl
set_option maxRecDepth 20000 in
theorem v_Mo_put : Cond.selects y_Mo_put.1.cls y_Mo_put.1 y_Mo_put.1 ∈ xtb := xtbm (List.mem_of_getElem? (i := 64) rfl) rfl
set_option maxRecDepth 20000 in
theorem z_Mo_gets : xZ y_Mo_gets 1 := ⟨xtbm (List.mem_of_getElem? (i := 91) rfl) rfl, xtbm (List.mem_of_getElem? (i := 1229) rfl) rfl, by decide +kernel, by decide +kernel, by decide +kernel⟩
set_option maxRecDepth 20000 in
theorem i_Mo_gets : Cond.instanceMethod y_Mo_gets.1 ∈ xtb := xtbm (List.mem_of_getElem? (i := 1228) rfl) rfl
set_option maxRecDepth 20000 in
theorem v_Mo_gets : Cond.selects y_Mo_gets.1.cls y_Mo_gets.1 y_Mo_gets.1 ∈ xtb := xtbm (List.mem_of_getElem? (i := 65) rfl) rfl
set_option maxRecDepth 20000 in
theorem z_Mo_hasValue : xZ y_Mo_hasValue 3 := ⟨xtbm (List.mem_of_getElem? (i := 91) rfl) rfl, xtbm (List.mem_of_getElem? (i := 1233) rfl) rfl, by decide +kernel, by decide +kernel, by decide +kernel⟩
set_option maxRecDepth 20000 in
theorem i_Mo_hasValue : Cond.instanceMethod y_Mo_hasValue.1 ∈ xtb := xtbm (List.mem_of_getElem? (i := 1232) rfl) rfl
set_option maxRecDepth 20000 in
theorem v_Mo_hasValue : Cond.selects y_Mo_hasValue.1.cls y_Mo_hasValue.1 y_Mo_hasValue.1 ∈ xtb := xtbm (List.mem_of_getElem? (i := 66) rfl) rfl
set_option maxRecDepth 20000 in
theorem z_Mo_loads : xZ y_Mo_loads 2 := ⟨xtbm (List.mem_of_getElem? (i := 91) rfl) rfl, xtbm (List.mem_of_getElem? (i := 1237) rfl) rfl, by decide +kernel, by decide +kernel, by decide +kernel⟩
set_option maxRecDepth 20000 in
theorem i_Mo_loads : Cond.instanceMethod y_Mo_loads.1 ∈ xtb := xtbm (List.mem_of_getElem? (i := 1236) rfl) rfl
set_option maxRecDepth 20000 in
theorem v_Mo_loads : Cond.selects y_Mo_loads.1.cls y_Mo_loads.1 y_Mo_loads.1 ∈ xtb := xtbm (List.mem_of_getElem? (i := 67) rfl) rfl
set_option maxRecDepth 20000 in
theorem z_Mo_stores : xZ y_Mo_stores 3 := ⟨xtbm (List.mem_of_getElem? (i := 91) rfl) rfl, xtbm (List.mem_of_getElem? (i := 1241) rfl) rfl, by decide +kernel, by decide +kernel, by decide +kernel⟩
set_option maxRecDepth 20000 in
theorem i_Mo_stores : Cond.instanceMethod y_Mo_stores.1 ∈ xtb := xtbm (List.mem_of_getElem? (i := 1240) rfl) rfl
set_option maxRecDepth 20000 in
theorem v_Mo_stores : Cond.selects y_Mo_stores.1.cls y_Mo_stores.1 y_Mo_stores.1 ∈ xtb := xtbm (List.mem_of_getElem? (i := 68) rfl) rfl
set_option maxRecDepth 20000 in
theorem z_Mo_skips : xZ y_Mo_skips 4 := ⟨xtbm (List.mem_of_getElem? (i := 91) rfl) rfl, xtbm (List.mem_of_getElem? (i := 1245) rfl) rfl, by decide +kernel, by decide +kernel, by decide +kernel⟩
set_option maxRecDepth 20000 in
theorem i_Mo_skips : Cond.instanceMethod y_Mo_skips.1 ∈ xtb := xtbm (List.mem_of_getElem? (i := 1244) rfl) rfl
set_option maxRecDepth 20000 in
theorem v_Mo_skips : Cond.selects y_Mo_skips.1.cls y_Mo_skips.1 y_Mo_skips.1 ∈ xtb := xtbm (List.mem_of_getElem? (i := 69) rfl) rfl
set_option maxRecDepth 20000 in
theorem z_Mo_follows : xZ y_Mo_follows 2 := ⟨xtbm (List.mem_of_getElem? (i := 91) rfl) rfl, xtbm (List.mem_of_getElem? (i := 1251) rfl) rfl, by decide +kernel, by decide +kernel, by decide +kernel⟩
set_option maxRecDepth 20000 in
theorem i_Mo_follows : Cond.instanceMethod y_Mo_follows.1 ∈ xtb := xtbm (List.mem_of_getElem? (i := 1250) rfl) rfl
set_option maxRecDepth 20000 in
theorem v_Mo_follows : Cond.selects y_Mo_follows.1.cls y_Mo_follows.1 y_Mo_follows.1 ∈ xtb := xtbm (List.mem_of_getElem? (i := 70) rfl) rfl
set_option maxRecDepth 20000 in
theorem z_Mo_keeps : xZ y_Mo_keeps 0 := ⟨xtbm (List.mem_of_getElem? (i := 91) rfl) rfl, xtbm (List.mem_of_getElem? (i := 1255) rfl) rfl, by decide +kernel, by decide +kernel, by decide +kernel⟩
set_option maxRecDepth 20000 in
theorem i_Mo_keeps : Cond.instanceMethod y_Mo_keeps.1 ∈ xtb := xtbm (List.mem_of_getElem? (i := 1254) rfl) rfl
set_option maxRecDepth 20000 in
theorem v_Mo_keeps : Cond.selects y_Mo_keeps.1.cls y_Mo_keeps.1 y_Mo_keeps.1 ∈ xtb := xtbm (List.mem_of_getElem? (i := 71) rfl) rfl
set_option maxRecDepth 20000 in
theorem z_Mo_reads : xZ y_Mo_reads 1 := ⟨xtbm (List.mem_of_getElem? (i := 91) rfl) rfl, xtbm (List.mem_of_getElem? (i := 1259) rfl) rfl, by decide +kernel, by decide +kernel, by decide +kernel⟩
set_option maxRecDepth 20000 in
theorem i_Mo_reads : Cond.instanceMethod y_Mo_reads.1 ∈ xtb := xtbm (List.mem_of_getElem? (i := 1258) rfl) rfl
set_option maxRecDepth 20000 in
theorem v_Mo_reads : Cond.selects y_Mo_reads.1.cls y_Mo_reads.1 y_Mo_reads.1 ∈ xtb := xtbm (List.mem_of_getElem? (i := 72) rfl) rfl
set_option maxRecDepth 20000 in
theorem z_Mo_chains : xZ y_Mo_chains 0 := ⟨xtbm (List.mem_of_getElem? (i := 91) rfl) rfl, xtbm (List.mem_of_getElem? (i := 1263) rfl) rfl, by decide +kernel, by decide +kernel, by decide +kernel⟩
set_option maxRecDepth 20000 in
theorem i_Mo_chains : Cond.instanceMethod y_Mo_chains.1 ∈ xtb := xtbm (List.mem_of_getElem? (i := 1262) rfl) rfl
set_option maxRecDepth 20000 in
theorem v_Mo_chains : Cond.selects y_Mo_chains.1.cls y_Mo_chains.1 y_Mo_chains.1 ∈ xtb := xtbm (List.mem_of_getElem? (i := 73) rfl) rfl
set_option maxRecDepth 20000 in
theorem z_Mo_leads : xZ y_Mo_leads 2 := ⟨xtbm (List.mem_of_getElem? (i := 91) rfl) rfl, xtbm (List.mem_of_getElem? (i := 1267) rfl) rfl, by decide +kernel, by decide +kernel, by decide +kernel⟩
set_option maxRecDepth 20000 in
theorem i_Mo_leads : Cond.instanceMethod y_Mo_leads.1 ∈ xtb := xtbm (List.mem_of_getElem? (i := 1266) rfl) rfl
set_option maxRecDepth 20000 in
theorem v_Mo_leads : Cond.selects y_Mo_leads.1.cls y_Mo_leads.1 y_Mo_leads.1 ∈ xtb := xtbm (List.mem_of_getElem? (i := 74) rfl) rfl
set_option maxRecDepth 20000 in
theorem z_Mo_readsBy : xZ y_Mo_readsBy 2 := ⟨xtbm (List.mem_of_getElem? (i := 91) rfl) rfl, xtbm (List.mem_of_getElem? (i := 1271) rfl) rfl, by decide +kernel, by decide +kernel, by decide +kernel⟩
set_option maxRecDepth 20000 in
theorem i_Mo_readsBy : Cond.instanceMethod y_Mo_readsBy.1 ∈ xtb := xtbm (List.mem_of_getElem? (i := 1270) rfl) rfl
set_option maxRecDepth 20000 in
theorem v_Mo_readsBy : Cond.selects y_Mo_readsBy.1.cls y_Mo_readsBy.1 y_Mo_readsBy.1 ∈ xtb := xtbm (List.mem_of_getElem? (i := 75) rfl) rfl
set_option maxRecDepth 20000 in
theorem z_Mo_lays : xZ y_Mo_lays 0 := ⟨xtbm (List.mem_of_getElem? (i := 91) rfl) rfl, xtbm (List.mem_of_getElem? (i := 1275) rfl) rfl, by decide +kernel, by decide +kernel, by decide +kernel⟩
set_option maxRecDepth 20000 in
theorem i_Mo_lays : Cond.instanceMethod y_Mo_lays.1 ∈ xtb := xtbm (List.mem_of_getElem? (i := 1274) rfl) rfl
set_option maxRecDepth 20000 in
theorem v_Mo_lays : Cond.selects y_Mo_lays.1.cls y_Mo_lays.1 y_Mo_lays.1 ∈ xtb := xtbm (List.mem_of_getElem? (i := 76) rfl) rfl
set_option maxRecDepth 20000 in
theorem z_Mo_joins : xZ y_Mo_joins 0 := ⟨xtbm (List.mem_of_getElem? (i := 91) rfl) rfl, xtbm (List.mem_of_getElem? (i := 1279) rfl) rfl, by decide +kernel, by decide +kernel, by decide +kernel⟩
set_option maxRecDepth 20000 in
theorem i_Mo_joins : Cond.instanceMethod y_Mo_joins.1 ∈ xtb := xtbm (List.mem_of_getElem? (i := 1278) rfl) rfl
set_option maxRecDepth 20000 in
theorem v_Mo_joins : Cond.selects y_Mo_joins.1.cls y_Mo_joins.1 y_Mo_joins.1 ∈ xtb := xtbm (List.mem_of_getElem? (i := 77) rfl) rfl
set_option maxRecDepth 20000 in
theorem z_Mo_refers : xZ y_Mo_refers 1 := ⟨xtbm (List.mem_of_getElem? (i := 91) rfl) rfl, xtbm (List.mem_of_getElem? (i := 1283) rfl) rfl, by decide +kernel, by decide +kernel, by decide +kernel⟩
set_option maxRecDepth 20000 in
theorem i_Mo_refers : Cond.instanceMethod y_Mo_refers.1 ∈ xtb := xtbm (List.mem_of_getElem? (i := 1282) rfl) rfl
set_option maxRecDepth 20000 in
theorem v_Mo_refers : Cond.selects y_Mo_refers.1.cls y_Mo_refers.1 y_Mo_refers.1 ∈ xtb := xtbm (List.mem_of_getElem? (i := 78) rfl) rfl
set_option maxRecDepth 20000 in
theorem z_Mo_endsWith : xZ y_Mo_endsWith 2 := ⟨xtbm (List.mem_of_getElem? (i := 91) rfl) rfl, xtbm (List.mem_of_getElem? (i := 1287) rfl) rfl, by decide +kernel, by decide +kernel, by decide +kernel⟩
set_option maxRecDepth 20000 in
theorem i_Mo_endsWith : Cond.instanceMethod y_Mo_endsWith.1 ∈ xtb := xtbm (List.mem_of_getElem? (i := 1286) rfl) rfl
set_option maxRecDepth 20000 in
theorem v_Mo_endsWith : Cond.selects y_Mo_endsWith.1.cls y_Mo_endsWith.1 y_Mo_endsWith.1 ∈ xtb := xtbm (List.mem_of_getElem? (i := 79) rfl) rfl
set_option maxRecDepth 20000 in
theorem z_Mo_tries : xZ y_Mo_tries 0 := ⟨xtbm (List.mem_of_getElem? (i := 91) rfl) rfl, xtbm (List.mem_of_getElem? (i := 1291) rfl) rfl, by decide +kernel, by decide +kernel, by decide +kernel⟩
set_option maxRecDepth 20000 in
theorem i_Mo_tries : Cond.instanceMethod y_Mo_tries.1 ∈ xtb := xtbm (List.mem_of_getElem? (i := 1290) rfl) rfl
set_option maxRecDepth 20000 in
theorem v_Mo_tries : Cond.selects y_Mo_tries.1.cls y_Mo_tries.1 y_Mo_tries.1 ∈ xtb := xtbm (List.mem_of_getElem? (i := 80) rfl) rfl
set_option maxRecDepth 20000 in
theorem z_Mo_bytesOf : xZ y_Mo_bytesOf 0 := ⟨xtbm (List.mem_of_getElem? (i := 91) rfl) rfl, xtbm (List.mem_of_getElem? (i := 1295) rfl) rfl, by decide +kernel, by decide +kernel, by decide +kernel⟩
set_option maxRecDepth 20000 in
theorem i_Mo_bytesOf : Cond.instanceMethod y_Mo_bytesOf.1 ∈ xtb := xtbm (List.mem_of_getElem? (i := 1294) rfl) rfl
set_option maxRecDepth 20000 in
theorem v_Mo_bytesOf : Cond.selects y_Mo_bytesOf.1.cls y_Mo_bytesOf.1 y_Mo_bytesOf.1 ∈ xtb := xtbm (List.mem_of_getElem? (i := 81) rfl) rfl
set_option maxRecDepth 20000 in
theorem z_Mo_next : xZ y_Mo_next 2 := ⟨xtbm (List.mem_of_getElem? (i := 91) rfl) rfl, xtbm (List.mem_of_getElem? (i := 1298) rfl) rfl, by decide +kernel, by decide +kernel, by decide +kernel⟩
set_option maxRecDepth 20000 in
theorem s_Mo_next : Cond.static y_Mo_next.1 ∈ xtb := xtbm (List.mem_of_getElem? (i := 1297) rfl) rfl
set_option maxRecDepth 20000 in
theorem z_Mo_kept : xZ y_Mo_kept 2 := ⟨xtbm (List.mem_of_getElem? (i := 91) rfl) rfl, xtbm (List.mem_of_getElem? (i := 1302) rfl) rfl, by decide +kernel, by decide +kernel, by decide +kernel⟩
set_option maxRecDepth 20000 in
theorem i_Mo_kept : Cond.instanceMethod y_Mo_kept.1 ∈ xtb := xtbm (List.mem_of_getElem? (i := 1300) rfl) rfl
set_option maxRecDepth 20000 in
theorem v_Mo_kept : Cond.selects y_Mo_kept.1.cls y_Mo_kept.1 y_Mo_kept.1 ∈ xtb := xtbm (List.mem_of_getElem? (i := 1301) rfl) rfl
set_option maxRecDepth 20000 in
theorem z_Mo_wasItem : xZ y_Mo_wasItem 1 := ⟨xtbm (List.mem_of_getElem? (i := 91) rfl) rfl, xtbm (List.mem_of_getElem? (i := 1306) rfl) rfl, by decide +kernel, by decide +kernel, by decide +kernel⟩
set_option maxRecDepth 20000 in
theorem i_Mo_wasItem : Cond.instanceMethod y_Mo_wasItem.1 ∈ xtb := xtbm (List.mem_of_getElem? (i := 1305) rfl) rfl
set_option maxRecDepth 20000 in
theorem v_Mo_wasItem : Cond.selects y_Mo_wasItem.1.cls y_Mo_wasItem.1 y_Mo_wasItem.1 ∈ xtb := xtbm (List.mem_of_getElem? (i := 82) rfl) rfl
set_option maxRecDepth 20000 in
theorem z_Mo_read : xZ y_Mo_read 2 := ⟨xtbm (List.mem_of_getElem? (i := 91) rfl) rfl, xtbm (List.mem_of_getElem? (i := 1310) rfl) rfl, by decide +kernel, by decide +kernel, by decide +kernel⟩
set_option maxRecDepth 20000 in
theorem i_Mo_read : Cond.instanceMethod y_Mo_read.1 ∈ xtb := xtbm (List.mem_of_getElem? (i := 1308) rfl) rfl
set_option maxRecDepth 20000 in
theorem v_Mo_read : Cond.selects y_Mo_read.1.cls y_Mo_read.1 y_Mo_read.1 ∈ xtb := xtbm (List.mem_of_getElem? (i := 1309) rfl) rfl
set_option maxRecDepth 20000 in
theorem z_Mo_function : xZ y_Mo_function 2 := ⟨xtbm (List.mem_of_getElem? (i := 91) rfl) rfl, xtbm (List.mem_of_getElem? (i := 1314) rfl) rfl, by decide +kernel, by decide +kernel, by decide +kernel⟩
set_option maxRecDepth 20000 in
theorem i_Mo_function : Cond.instanceMethod y_Mo_function.1 ∈ xtb := xtbm (List.mem_of_getElem? (i := 1312) rfl) rfl
set_option maxRecDepth 20000 in
theorem v_Mo_function : Cond.selects y_Mo_function.1.cls y_Mo_function.1 y_Mo_function.1 ∈ xtb := xtbm (List.mem_of_getElem? (i := 1313) rfl) rfl
set_option maxRecDepth 20000 in
theorem z_Mo_values : xZ y_Mo_values 3 := ⟨xtbm (List.mem_of_getElem? (i := 91) rfl) rfl, xtbm (List.mem_of_getElem? (i := 1318) rfl) rfl, by decide +kernel, by decide +kernel, by decide +kernel⟩
set_option maxRecDepth 20000 in
theorem i_Mo_values : Cond.instanceMethod y_Mo_values.1 ∈ xtb := xtbm (List.mem_of_getElem? (i := 1316) rfl) rfl
set_option maxRecDepth 20000 in
theorem v_Mo_values : Cond.selects y_Mo_values.1.cls y_Mo_values.1 y_Mo_values.1 ∈ xtb := xtbm (List.mem_of_getElem? (i := 1317) rfl) rfl
set_option maxRecDepth 20000 in
theorem z_Mo_octet : xZ y_Mo_octet 1 := ⟨xtbm (List.mem_of_getElem? (i := 91) rfl) rfl, xtbm (List.mem_of_getElem? (i := 1322) rfl) rfl, by decide +kernel, by decide +kernel, by decide +kernel⟩
set_option maxRecDepth 20000 in
theorem i_Mo_octet : Cond.instanceMethod y_Mo_octet.1 ∈ xtb := xtbm (List.mem_of_getElem? (i := 1320) rfl) rfl
set_option maxRecDepth 20000 in
theorem v_Mo_octet : Cond.selects y_Mo_octet.1.cls y_Mo_octet.1 y_Mo_octet.1 ∈ xtb := xtbm (List.mem_of_getElem? (i := 1321) rfl) rfl
set_option maxRecDepth 20000 in
theorem z_Mo_shrunk : xZ y_Mo_shrunk 1 := ⟨xtbm (List.mem_of_getElem? (i := 91) rfl) rfl, xtbm (List.mem_of_getElem? (i := 1326) rfl) rfl, by decide +kernel, by decide +kernel, by decide +kernel⟩
set_option maxRecDepth 20000 in
theorem i_Mo_shrunk : Cond.instanceMethod y_Mo_shrunk.1 ∈ xtb := xtbm (List.mem_of_getElem? (i := 1324) rfl) rfl
set_option maxRecDepth 20000 in
theorem v_Mo_shrunk : Cond.selects y_Mo_shrunk.1.cls y_Mo_shrunk.1 y_Mo_shrunk.1 ∈ xtb := xtbm (List.mem_of_getElem? (i := 1325) rfl) rfl
set_option maxRecDepth 20000 in
theorem l_Lw_9 : xLk "DataShrinkerLaw" 9 y_DS_init.1 := Or.inl (xtbm (List.mem_of_getElem? (i := 100) rfl) rfl)
set_option maxRecDepth 20000 in
theorem l_DS_11 : xLk "DataShrinker" 11 y_Pr_init.1 := Or.inr ⟨"DataShrinker", List.mem_of_getElem? (i := 0) rfl⟩
set_option maxRecDepth 20000 in
theorem l_DS_18 : xLk "DataShrinker" 18 y_Re_init.1 := Or.inl (xtbm (List.mem_of_getElem? (i := 191) rfl) rfl)
set_option maxRecDepth 20000 in
theorem l_Re_13 : xLk "DataShrinker$Reach" 13 y_Ch_init.1 := Or.inr ⟨"DataShrinker", List.mem_of_getElem? (i := 1) rfl⟩
set_option maxRecDepth 20000 in
theorem l_DS_27 : xLk "DataShrinker" 27 y_La_init.1 := Or.inl (xtbm (List.mem_of_getElem? (i := 257) rfl) rfl)
set_option maxRecDepth 20000 in
theorem l_La_11 : xLk "DataShrinker$Layout" 11 y_BO_init.1 := Or.inr ⟨"DataShrinker", List.mem_of_getElem? (i := 2) rfl⟩
set_option maxRecDepth 20000 in
theorem l_DS_36 : xLk "DataShrinker" 36 y_Ma_init.1 := Or.inl (xtbm (List.mem_of_getElem? (i := 329) rfl) rfl)
set_option maxRecDepth 20000 in
theorem l_Lw_13 : xLk "DataShrinkerLaw" 13 y_DS_item.1 := Or.inl (xtbm (List.mem_of_getElem? (i := 395) rfl) rfl)
set_option maxRecDepth 20000 in
theorem l_DS_41 : xLk "DataShrinker" 41 y_Pr_isItem.1 := Or.inl (xtbm (List.mem_of_getElem? (i := 399) rfl) rfl)
set_option maxRecDepth 20000 in
theorem l_Pr_56 : xLk "DataShrinker$Program" 56 y_DS_isItemNumber.1 := Or.inr ⟨"DataShrinker", List.mem_of_getElem? (i := 3) rfl⟩
set_option maxRecDepth 20000 in
theorem l_Pr_60 : xLk "DataShrinker$Program" 60 y_DS_within.1 := Or.inr ⟨"DataShrinker", List.mem_of_getElem? (i := 4) rfl⟩
set_option maxRecDepth 20000 in
theorem l_DS_45 : xLk "DataShrinker" 45 y_Pr_tellItem.1 := Or.inl (xtbm (List.mem_of_getElem? (i := 408) rfl) rfl)
set_option maxRecDepth 20000 in
theorem l_Pr_72 : xLk "DataShrinker$Program" 72 y_Pr_forgetReferencesTo.1 := Or.inl (xtbm (List.mem_of_getElem? (i := 412) rfl) rfl)
set_option maxRecDepth 20000 in
theorem l_Lw_20 : xLk "DataShrinkerLaw" 20 y_DS_bytes.1 := Or.inl (xtbm (List.mem_of_getElem? (i := 417) rfl) rfl)
set_option maxRecDepth 20000 in
theorem l_DS_53 : xLk "DataShrinker" 53 y_Pr_hasPlace.1 := Or.inl (xtbm (List.mem_of_getElem? (i := 421) rfl) rfl)
set_option maxRecDepth 20000 in
theorem l_DS_57 : xLk "DataShrinker" 57 y_DS_within.1 := Or.inl (xtbm (List.mem_of_getElem? (i := 425) rfl) rfl)
set_option maxRecDepth 20000 in
theorem l_DS_61 : xLk "DataShrinker" 61 y_Pr_tellOctets.1 := Or.inl (xtbm (List.mem_of_getElem? (i := 426) rfl) rfl)
set_option maxRecDepth 20000 in
theorem l_Pr_76 : xLk "DataShrinker$Program" 76 y_JM_min.1 := Or.inl (xtbm (List.mem_of_getElem? (i := 430) rfl) rfl)
set_option maxRecDepth 20000 in
theorem l_Pr_82 : xLk "DataShrinker$Program" 82 y_DS_octetOf.1 := Or.inr ⟨"DataShrinker", List.mem_of_getElem? (i := 5) rfl⟩
set_option maxRecDepth 20000 in
theorem l_Lw_25 : xLk "DataShrinkerLaw" 25 y_DS_refer.1 := Or.inl (xtbm (List.mem_of_getElem? (i := 436) rfl) rfl)
set_option maxRecDepth 20000 in
theorem l_DS_65 : xLk "DataShrinker" 65 y_Pr_hasItem.1 := Or.inl (xtbm (List.mem_of_getElem? (i := 440) rfl) rfl)
set_option maxRecDepth 20000 in
theorem l_DS_69 : xLk "DataShrinker" 69 y_Pr_tellReference.1 := Or.inl (xtbm (List.mem_of_getElem? (i := 444) rfl) rfl)
set_option maxRecDepth 20000 in
theorem l_Lw_30 : xLk "DataShrinkerLaw" 30 y_DS_code.1 := Or.inl (xtbm (List.mem_of_getElem? (i := 448) rfl) rfl)
set_option maxRecDepth 20000 in
theorem l_DS_73 : xLk "DataShrinker" 73 y_DS_isFunction.1 := Or.inl (xtbm (List.mem_of_getElem? (i := 452) rfl) rfl)
set_option maxRecDepth 20000 in
theorem l_DS_76 : xLk "DataShrinker" 76 y_Pr_isInstruction.1 := Or.inl (xtbm (List.mem_of_getElem? (i := 455) rfl) rfl)
set_option maxRecDepth 20000 in
theorem l_Pr_64 : xLk "DataShrinker$Program" 64 y_DS_isRegister.1 := Or.inr ⟨"DataShrinker", List.mem_of_getElem? (i := 6) rfl⟩
set_option maxRecDepth 20000 in
theorem l_Pr_67 : xLk "DataShrinker$Program" 67 y_DS_isFunction.1 := Or.inr ⟨"DataShrinker", List.mem_of_getElem? (i := 7) rfl⟩
set_option maxRecDepth 20000 in
theorem l_DS_83 : xLk "DataShrinker" 83 y_Pr_addInstruction.1 := Or.inl (xtbm (List.mem_of_getElem? (i := 462) rfl) rfl)
set_option maxRecDepth 20000 in
theorem l_Lw_35 : xLk "DataShrinkerLaw" 35 y_DS_clear.1 := Or.inl (xtbm (List.mem_of_getElem? (i := 466) rfl) rfl)
set_option maxRecDepth 20000 in
theorem l_Lw_40 : xLk "DataShrinkerLaw" 40 y_DS_entry.1 := Or.inl (xtbm (List.mem_of_getElem? (i := 470) rfl) rfl)
set_option maxRecDepth 20000 in
theorem l_Lw_45 : xLk "DataShrinkerLaw" 45 y_DS_input1.1 := Or.inl (xtbm (List.mem_of_getElem? (i := 474) rfl) rfl)
set_option maxRecDepth 20000 in
theorem l_DS_95 : xLk "DataShrinker" 95 y_Pr_addInput.1 := Or.inl (xtbm (List.mem_of_getElem? (i := 478) rfl) rfl)
set_option maxRecDepth 20000 in
theorem l_Lw_50 : xLk "DataShrinkerLaw" 50 y_DS_input2.1 := Or.inl (xtbm (List.mem_of_getElem? (i := 482) rfl) rfl)
set_option maxRecDepth 20000 in
theorem l_Lw_54 : xLk "DataShrinkerLaw" 54 y_DS_run.1 := Or.inl (xtbm (List.mem_of_getElem? (i := 486) rfl) rfl)
set_option maxRecDepth 20000 in
theorem l_DS_99 : xLk "DataShrinker" 99 y_Pr_hasEntry.1 := Or.inl (xtbm (List.mem_of_getElem? (i := 490) rfl) rfl)
set_option maxRecDepth 20000 in
theorem l_DS_102 : xLk "DataShrinker" 102 y_Ma_takeAsTold.1 := Or.inl (xtbm (List.mem_of_getElem? (i := 494) rfl) rfl)
set_option maxRecDepth 20000 in
theorem l_DS_105 : xLk "DataShrinker" 105 y_Ma_work.1 := Or.inl (xtbm (List.mem_of_getElem? (i := 501) rfl) rfl)
set_option maxRecDepth 20000 in
theorem l_Ma_78 : xLk "DataShrinker$Machine" 78 y_Ma_begin.1 := Or.inl (xtbm (List.mem_of_getElem? (i := 505) rfl) rfl)
set_option maxRecDepth 20000 in
theorem l_Ma_96 : xLk "DataShrinker$Machine" 96 y_JA_fill1.1 := Or.inl (xtbm (List.mem_of_getElem? (i := 509) rfl) rfl)
set_option maxRecDepth 20000 in
theorem l_Ma_89 : xLk "DataShrinker$Machine" 89 y_Ma_leave.1 := Or.inl (xtbm (List.mem_of_getElem? (i := 513) rfl) rfl)
set_option maxRecDepth 20000 in
theorem l_Ma_92 : xLk "DataShrinker$Machine" 92 y_Ma_carryOut.1 := Or.inl (xtbm (List.mem_of_getElem? (i := 517) rfl) rfl)
set_option maxRecDepth 20000 in
theorem l_Ma_117 : xLk "DataShrinker$Machine" 117 y_Ma_put.1 := Or.inl (xtbm (List.mem_of_getElem? (i := 521) rfl) rfl)
set_option maxRecDepth 20000 in
theorem l_Ma_120 : xLk "DataShrinker$Machine" 120 y_JM_floorMod.1 := Or.inl (xtbm (List.mem_of_getElem? (i := 525) rfl) rfl)
set_option maxRecDepth 20000 in
theorem l_Ma_123 : xLk "DataShrinker$Machine" 123 y_Ma_load.1 := Or.inl (xtbm (List.mem_of_getElem? (i := 528) rfl) rfl)
set_option maxRecDepth 20000 in
theorem l_Ma_154 : xLk "DataShrinker$Machine" 154 y_Pr_hasPlace.1 := Or.inl (xtbm (List.mem_of_getElem? (i := 532) rfl) rfl)
set_option maxRecDepth 20000 in
theorem l_Ma_127 : xLk "DataShrinker$Machine" 127 y_Ma_store.1 := Or.inl (xtbm (List.mem_of_getElem? (i := 533) rfl) rfl)
set_option maxRecDepth 20000 in
theorem l_Ma_130 : xLk "DataShrinker$Machine" 130 y_Ma_openFunction.1 := Or.inl (xtbm (List.mem_of_getElem? (i := 537) rfl) rfl)
set_option maxRecDepth 20000 in
theorem l_Ma_133 : xLk "DataShrinker$Machine" 133 y_Ma_skip.1 := Or.inl (xtbm (List.mem_of_getElem? (i := 541) rfl) rfl)
set_option maxRecDepth 20000 in
theorem l_Ma_136 : xLk "DataShrinker$Machine" 136 y_Ma_send.1 := Or.inl (xtbm (List.mem_of_getElem? (i := 545) rfl) rfl)
set_option maxRecDepth 20000 in
theorem l_Ma_139 : xLk "DataShrinker$Machine" 139 y_Ma_takeInput.1 := Or.inl (xtbm (List.mem_of_getElem? (i := 549) rfl) rfl)
set_option maxRecDepth 20000 in
theorem l_Ma_143 : xLk "DataShrinker$Machine" 143 y_Ma_standAsOne.1 := Or.inl (xtbm (List.mem_of_getElem? (i := 553) rfl) rfl)
set_option maxRecDepth 20000 in
theorem l_Ma_147 : xLk "DataShrinker$Machine" 147 y_DS_asNumber.1 := Or.inr ⟨"DataShrinker", List.mem_of_getElem? (i := 8) rfl⟩
set_option maxRecDepth 20000 in
theorem l_Ma_151 : xLk "DataShrinker$Machine" 151 y_Ma_follow.1 := Or.inl (xtbm (List.mem_of_getElem? (i := 560) rfl) rfl)
set_option maxRecDepth 20000 in
theorem l_Ma_163 : xLk "DataShrinker$Machine" 163 y_Pr_hasReference.1 := Or.inl (xtbm (List.mem_of_getElem? (i := 564) rfl) rfl)
set_option maxRecDepth 20000 in
theorem l_Lw_58 : xLk "DataShrinkerLaw" 58 y_DS_runLaid.1 := Or.inl (xtbm (List.mem_of_getElem? (i := 568) rfl) rfl)
set_option maxRecDepth 20000 in
theorem l_DS_109 : xLk "DataShrinker" 109 y_Ma_takeAsLaid.1 := Or.inl (xtbm (List.mem_of_getElem? (i := 572) rfl) rfl)
set_option maxRecDepth 20000 in
theorem l_Lw_62 : xLk "DataShrinkerLaw" 62 y_DS_ran.1 := Or.inl (xtbm (List.mem_of_getElem? (i := 576) rfl) rfl)
set_option maxRecDepth 20000 in
theorem l_DS_113 : xLk "DataShrinker" 113 y_Ma_tell.1 := Or.inl (xtbm (List.mem_of_getElem? (i := 580) rfl) rfl)
set_option maxRecDepth 20000 in
theorem l_Lw_66 : xLk "DataShrinkerLaw" 66 y_DS_out.1 := Or.inl (xtbm (List.mem_of_getElem? (i := 584) rfl) rfl)
set_option maxRecDepth 20000 in
theorem l_DS_116 : xLk "DataShrinker" 116 y_Ma_sentAt.1 := Or.inl (xtbm (List.mem_of_getElem? (i := 588) rfl) rfl)
set_option maxRecDepth 20000 in
theorem l_Ma_68 : xLk "DataShrinker$Machine" 68 y_JM_min.1 := Or.inl (xtbm (List.mem_of_getElem? (i := 592) rfl) rfl)
set_option maxRecDepth 20000 in
theorem l_Ma_74 : xLk "DataShrinker$Machine" 74 y_DS_within.1 := Or.inr ⟨"DataShrinker", List.mem_of_getElem? (i := 9) rfl⟩
set_option maxRecDepth 20000 in
theorem l_Lw_70 : xLk "DataShrinkerLaw" 70 y_DS_shrink.1 := Or.inl (xtbm (List.mem_of_getElem? (i := 594) rfl) rfl)
set_option maxRecDepth 20000 in
theorem l_DS_119 : xLk "DataShrinker" 119 y_Re_work.1 := Or.inl (xtbm (List.mem_of_getElem? (i := 598) rfl) rfl)
set_option maxRecDepth 20000 in
theorem l_Re_57 : xLk "DataShrinker$Reach" 57 y_Re_forget.1 := Or.inl (xtbm (List.mem_of_getElem? (i := 602) rfl) rfl)
set_option maxRecDepth 20000 in
theorem l_Re_102 : xLk "DataShrinker$Reach" 102 y_Ch_forget.1 := Or.inl (xtbm (List.mem_of_getElem? (i := 606) rfl) rfl)
set_option maxRecDepth 20000 in
theorem l_Ch_19 : xLk "DataShrinker$Chains" 19 y_JA_fill2.1 := Or.inl (xtbm (List.mem_of_getElem? (i := 610) rfl) rfl)
set_option maxRecDepth 20000 in
theorem l_Re_103 : xLk "DataShrinker$Reach" 103 y_Re_forgetStates.1 := Or.inl (xtbm (List.mem_of_getElem? (i := 613) rfl) rfl)
set_option maxRecDepth 20000 in
theorem l_Re_95 : xLk "DataShrinker$Reach" 95 y_Re_setAt.1 := Or.inl (xtbm (List.mem_of_getElem? (i := 617) rfl) rfl)
set_option maxRecDepth 20000 in
theorem l_Re_119 : xLk "DataShrinker$Reach" 119 y_JA_fill3.1 := Or.inl (xtbm (List.mem_of_getElem? (i := 620) rfl) rfl)
set_option maxRecDepth 20000 in
theorem l_Re_106 : xLk "DataShrinker$Reach" 106 y_JA_fill2.1 := Or.inl (xtbm (List.mem_of_getElem? (i := 626) rfl) rfl)
set_option maxRecDepth 20000 in
theorem l_Re_60 : xLk "DataShrinker$Reach" 60 y_Re_standAsTold.1 := Or.inl (xtbm (List.mem_of_getElem? (i := 628) rfl) rfl)
set_option maxRecDepth 20000 in
theorem l_Re_122 : xLk "DataShrinker$Reach" 122 y_Re_standAt.1 := Or.inl (xtbm (List.mem_of_getElem? (i := 632) rfl) rfl)
set_option maxRecDepth 20000 in
theorem l_Re_131 : xLk "DataShrinker$Reach" 131 y_OS_add.1 := Or.inl (xtbm (List.mem_of_getElem? (i := 635) rfl) rfl)
set_option maxRecDepth 20000 in
theorem l_Re_63 : xLk "DataShrinker$Reach" 63 y_Re_findSites.1 := Or.inl (xtbm (List.mem_of_getElem? (i := 638) rfl) rfl)
set_option maxRecDepth 20000 in
theorem l_Re_135 : xLk "DataShrinker$Reach" 135 y_Re_wakerOf.1 := Or.inl (xtbm (List.mem_of_getElem? (i := 642) rfl) rfl)
set_option maxRecDepth 20000 in
theorem l_Re_66 : xLk "DataShrinker$Reach" 66 y_Re_beginAtEntries.1 := Or.inl (xtbm (List.mem_of_getElem? (i := 646) rfl) rfl)
set_option maxRecDepth 20000 in
theorem l_Re_148 : xLk "DataShrinker$Reach" 148 y_OS_makeOnly.1 := Or.inl (xtbm (List.mem_of_getElem? (i := 650) rfl) rfl)
set_option maxRecDepth 20000 in
theorem l_OS_9 : xLk "DataShrinker$OctetSet" 9 y_JA_fill2.1 := Or.inl (xtbm (List.mem_of_getElem? (i := 653) rfl) rfl)
set_option maxRecDepth 20000 in
theorem l_OS_15 : xLk "DataShrinker$OctetSet" 15 y_OS_add.1 := Or.inl (xtbm (List.mem_of_getElem? (i := 654) rfl) rfl)
set_option maxRecDepth 20000 in
theorem l_Re_152 : xLk "DataShrinker$Reach" 152 y_Re_placeIn.1 := Or.inl (xtbm (List.mem_of_getElem? (i := 655) rfl) rfl)
set_option maxRecDepth 20000 in
theorem l_Re_91 : xLk "DataShrinker$Reach" 91 y_Re_slotOf.1 := Or.inl (xtbm (List.mem_of_getElem? (i := 659) rfl) rfl)
set_option maxRecDepth 20000 in
theorem l_Re_155 : xLk "DataShrinker$Reach" 155 y_OS_join.1 := Or.inl (xtbm (List.mem_of_getElem? (i := 662) rfl) rfl)
set_option maxRecDepth 20000 in
theorem l_Re_159 : xLk "DataShrinker$Reach" 159 y_Re_arriveAt.1 := Or.inl (xtbm (List.mem_of_getElem? (i := 666) rfl) rfl)
set_option maxRecDepth 20000 in
theorem l_Re_70 : xLk "DataShrinker$Reach" 70 y_Re_goRound.1 := Or.inl (xtbm (List.mem_of_getElem? (i := 671) rfl) rfl)
set_option maxRecDepth 20000 in
theorem l_Re_163 : xLk "DataShrinker$Reach" 163 y_JL_numberOfTrailingZeros.1 := Or.inl (xtbm (List.mem_of_getElem? (i := 675) rfl) rfl)
set_option maxRecDepth 20000 in
theorem l_JL_311 : xLk "java/lang/Long" 311 y_JI_numberOfTrailingZeros.1 := Or.inl (xtbm (List.mem_of_getElem? (i := 678) rfl) rfl)
set_option maxRecDepth 20000 in
theorem l_Re_168 : xLk "DataShrinker$Reach" 168 y_Re_takeOn.1 := Or.inl (xtbm (List.mem_of_getElem? (i := 683) rfl) rfl)
set_option maxRecDepth 20000 in
theorem l_Re_171 : xLk "DataShrinker$Reach" 171 y_Re_wake.1 := Or.inl (xtbm (List.mem_of_getElem? (i := 687) rfl) rfl)
set_option maxRecDepth 20000 in
theorem l_Re_178 : xLk "DataShrinker$Reach" 178 y_Re_takeStore.1 := Or.inl (xtbm (List.mem_of_getElem? (i := 691) rfl) rfl)
set_option maxRecDepth 20000 in
theorem l_Re_223 : xLk "DataShrinker$Reach" 223 y_Re_placesIn.1 := Or.inl (xtbm (List.mem_of_getElem? (i := 695) rfl) rfl)
set_option maxRecDepth 20000 in
theorem l_Re_227 : xLk "DataShrinker$Reach" 227 y_Pr_placesOf.1 := Or.inl (xtbm (List.mem_of_getElem? (i := 699) rfl) rfl)
set_option maxRecDepth 20000 in
theorem l_Re_182 : xLk "DataShrinker$Reach" 182 y_Re_flow.1 := Or.inl (xtbm (List.mem_of_getElem? (i := 703) rfl) rfl)
set_option maxRecDepth 20000 in
theorem l_Re_186 : xLk "DataShrinker$Reach" 186 y_Re_takeCall.1 := Or.inl (xtbm (List.mem_of_getElem? (i := 707) rfl) rfl)
set_option maxRecDepth 20000 in
theorem l_Re_220 : xLk "DataShrinker$Reach" 220 y_Ch_link.1 := Or.inl (xtbm (List.mem_of_getElem? (i := 711) rfl) rfl)
set_option maxRecDepth 20000 in
theorem l_Re_190 : xLk "DataShrinker$Reach" 190 y_Re_takeNought.1 := Or.inl (xtbm (List.mem_of_getElem? (i := 715) rfl) rfl)
set_option maxRecDepth 20000 in
theorem l_Re_193 : xLk "DataShrinker$Reach" 193 y_Re_makeRest.1 := Or.inl (xtbm (List.mem_of_getElem? (i := 719) rfl) rfl)
set_option maxRecDepth 20000 in
theorem l_Re_237 : xLk "DataShrinker$Reach" 237 y_OS_isEmpty.1 := Or.inl (xtbm (List.mem_of_getElem? (i := 724) rfl) rfl)
set_option maxRecDepth 20000 in
theorem l_Re_197 : xLk "DataShrinker$Reach" 197 y_Re_takeLoad.1 := Or.inl (xtbm (List.mem_of_getElem? (i := 727) rfl) rfl)
set_option maxRecDepth 20000 in
theorem l_Re_231 : xLk "DataShrinker$Reach" 231 y_Re_beginRead.1 := Or.inl (xtbm (List.mem_of_getElem? (i := 731) rfl) rfl)
set_option maxRecDepth 20000 in
theorem l_Re_200 : xLk "DataShrinker$Reach" 200 y_Re_takeFollow.1 := Or.inl (xtbm (List.mem_of_getElem? (i := 735) rfl) rfl)
set_option maxRecDepth 20000 in
theorem l_Re_203 : xLk "DataShrinker$Reach" 203 y_Re_makeSimple.1 := Or.inl (xtbm (List.mem_of_getElem? (i := 739) rfl) rfl)
set_option maxRecDepth 20000 in
theorem l_Re_206 : xLk "DataShrinker$Reach" 206 y_OS_makeSums.1 := Or.inl (xtbm (List.mem_of_getElem? (i := 743) rfl) rfl)
set_option maxRecDepth 20000 in
theorem l_OS_23 : xLk "DataShrinker$OctetSet" 23 y_JM_floorMod.1 := Or.inl (xtbm (List.mem_of_getElem? (i := 746) rfl) rfl)
set_option maxRecDepth 20000 in
theorem l_Re_210 : xLk "DataShrinker$Reach" 210 y_OS_makeMasked.1 := Or.inl (xtbm (List.mem_of_getElem? (i := 747) rfl) rfl)
set_option maxRecDepth 20000 in
theorem l_OS_39 : xLk "DataShrinker$OctetSet" 39 y_OS_foldWords.1 := Or.inl (xtbm (List.mem_of_getElem? (i := 753) rfl) rfl)
set_option maxRecDepth 20000 in
theorem l_OS_43 : xLk "DataShrinker$OctetSet" 43 y_OS_moveWord.1 := Or.inl (xtbm (List.mem_of_getElem? (i := 756) rfl) rfl)
set_option maxRecDepth 20000 in
theorem l_Re_213 : xLk "DataShrinker$Reach" 213 y_Re_compare.1 := Or.inl (xtbm (List.mem_of_getElem? (i := 759) rfl) rfl)
set_option maxRecDepth 20000 in
theorem l_Re_216 : xLk "DataShrinker$Reach" 216 y_DS_asNumber.1 := Or.inr ⟨"DataShrinker", List.mem_of_getElem? (i := 10) rfl⟩
set_option maxRecDepth 20000 in
theorem l_Re_79 : xLk "DataShrinker$Reach" 79 y_Ch_measure.1 := Or.inl (xtbm (List.mem_of_getElem? (i := 764) rfl) rfl)
set_option maxRecDepth 20000 in
theorem l_Ch_25 : xLk "DataShrinker$Chains" 25 y_JA_fill1.1 := Or.inl (xtbm (List.mem_of_getElem? (i := 768) rfl) rfl)
set_option maxRecDepth 20000 in
theorem l_Ch_28 : xLk "DataShrinker$Chains" 28 y_Ch_stepOn.1 := Or.inl (xtbm (List.mem_of_getElem? (i := 769) rfl) rfl)
set_option maxRecDepth 20000 in
theorem l_DS_121 : xLk "DataShrinker" 121 y_La_work.1 := Or.inl (xtbm (List.mem_of_getElem? (i := 774) rfl) rfl)
set_option maxRecDepth 20000 in
theorem l_La_55 : xLk "DataShrinker$Layout" 55 y_La_begin.1 := Or.inl (xtbm (List.mem_of_getElem? (i := 778) rfl) rfl)
set_option maxRecDepth 20000 in
theorem l_La_103 : xLk "DataShrinker$Layout" 103 y_JA_fill1.1 := Or.inl (xtbm (List.mem_of_getElem? (i := 783) rfl) rfl)
set_option maxRecDepth 20000 in
theorem l_La_58 : xLk "DataShrinker$Layout" 58 y_La_keepItems.1 := Or.inl (xtbm (List.mem_of_getElem? (i := 784) rfl) rfl)
set_option maxRecDepth 20000 in
theorem l_La_61 : xLk "DataShrinker$Layout" 61 y_La_keepGroups.1 := Or.inl (xtbm (List.mem_of_getElem? (i := 788) rfl) rfl)
set_option maxRecDepth 20000 in
theorem l_La_64 : xLk "DataShrinker$Layout" 64 y_La_findStill.1 := Or.inl (xtbm (List.mem_of_getElem? (i := 792) rfl) rfl)
set_option maxRecDepth 20000 in
theorem l_La_67 : xLk "DataShrinker$Layout" 67 y_La_joinAlike.1 := Or.inl (xtbm (List.mem_of_getElem? (i := 796) rfl) rfl)
set_option maxRecDepth 20000 in
theorem l_La_130 : xLk "DataShrinker$Layout" 130 y_La_standsStill.1 := Or.inl (xtbm (List.mem_of_getElem? (i := 800) rfl) rfl)
set_option maxRecDepth 20000 in
theorem l_La_133 : xLk "DataShrinker$Layout" 133 y_La_endsWith.1 := Or.inl (xtbm (List.mem_of_getElem? (i := 804) rfl) rfl)
set_option maxRecDepth 20000 in
theorem l_La_137 : xLk "DataShrinker$Layout" 137 y_JM_max.1 := Or.inl (xtbm (List.mem_of_getElem? (i := 808) rfl) rfl)
set_option maxRecDepth 20000 in
theorem l_La_70 : xLk "DataShrinker$Layout" 70 y_La_layTails.1 := Or.inl (xtbm (List.mem_of_getElem? (i := 811) rfl) rfl)
set_option maxRecDepth 20000 in
theorem l_La_144 : xLk "DataShrinker$Layout" 144 y_La_holdsAny.1 := Or.inl (xtbm (List.mem_of_getElem? (i := 815) rfl) rfl)
set_option maxRecDepth 20000 in
theorem l_La_147 : xLk "DataShrinker$Layout" 147 y_La_findOuter.1 := Or.inl (xtbm (List.mem_of_getElem? (i := 819) rfl) rfl)
set_option maxRecDepth 20000 in
theorem l_La_151 : xLk "DataShrinker$Layout" 151 y_La_fitsAlign.1 := Or.inl (xtbm (List.mem_of_getElem? (i := 823) rfl) rfl)
set_option maxRecDepth 20000 in
theorem l_La_73 : xLk "DataShrinker$Layout" 73 y_La_listBlocks.1 := Or.inl (xtbm (List.mem_of_getElem? (i := 827) rfl) rfl)
set_option maxRecDepth 20000 in
theorem l_La_158 : xLk "DataShrinker$Layout" 158 y_La_holderOf.1 := Or.inl (xtbm (List.mem_of_getElem? (i := 831) rfl) rfl)
set_option maxRecDepth 20000 in
theorem l_La_161 : xLk "DataShrinker$Layout" 161 y_BO_arrange.1 := Or.inl (xtbm (List.mem_of_getElem? (i := 835) rfl) rfl)
set_option maxRecDepth 20000 in
theorem l_BO_24 : xLk "DataShrinker$BlockOrder" 24 y_BO_measure.1 := Or.inl (xtbm (List.mem_of_getElem? (i := 840) rfl) rfl)
set_option maxRecDepth 20000 in
theorem l_BO_37 : xLk "DataShrinker$BlockOrder" 37 y_BO_need.1 := Or.inl (xtbm (List.mem_of_getElem? (i := 845) rfl) rfl)
set_option maxRecDepth 20000 in
theorem l_BO_32 : xLk "DataShrinker$BlockOrder" 32 y_BO_gap.1 := Or.inl (xtbm (List.mem_of_getElem? (i := 849) rfl) rfl)
set_option maxRecDepth 20000 in
theorem l_BO_40 : xLk "DataShrinker$BlockOrder" 40 y_JM_min.1 := Or.inl (xtbm (List.mem_of_getElem? (i := 852) rfl) rfl)
set_option maxRecDepth 20000 in
theorem l_BO_28 : xLk "DataShrinker$BlockOrder" 28 y_BO_choose.1 := Or.inl (xtbm (List.mem_of_getElem? (i := 853) rfl) rfl)
set_option maxRecDepth 20000 in
theorem l_La_76 : xLk "DataShrinker$Layout" 76 y_La_placeBlocks.1 := Or.inl (xtbm (List.mem_of_getElem? (i := 857) rfl) rfl)
set_option maxRecDepth 20000 in
theorem l_La_168 : xLk "DataShrinker$Layout" 168 y_BO_gap.1 := Or.inl (xtbm (List.mem_of_getElem? (i := 861) rfl) rfl)
set_option maxRecDepth 20000 in
theorem l_La_79 : xLk "DataShrinker$Layout" 79 y_La_placeOthers.1 := Or.inl (xtbm (List.mem_of_getElem? (i := 862) rfl) rfl)
set_option maxRecDepth 20000 in
theorem l_La_82 : xLk "DataShrinker$Layout" 82 y_La_writeOctets.1 := Or.inl (xtbm (List.mem_of_getElem? (i := 866) rfl) rfl)
set_option maxRecDepth 20000 in
theorem l_Lw_74 : xLk "DataShrinkerLaw" 74 y_DS_kept.1 := Or.inl (xtbm (List.mem_of_getElem? (i := 870) rfl) rfl)
set_option maxRecDepth 20000 in
theorem l_DS_128 : xLk "DataShrinker" 128 y_DS_hadItem.1 := Or.inl (xtbm (List.mem_of_getElem? (i := 874) rfl) rfl)
set_option maxRecDepth 20000 in
theorem l_DS_212 : xLk "DataShrinker" 212 y_DS_isItemNumber.1 := Or.inl (xtbm (List.mem_of_getElem? (i := 878) rfl) rfl)
set_option maxRecDepth 20000 in
theorem l_DS_134 : xLk "DataShrinker" 134 y_DS_asNumber.1 := Or.inl (xtbm (List.mem_of_getElem? (i := 879) rfl) rfl)
set_option maxRecDepth 20000 in
theorem l_DS_142 : xLk "DataShrinker" 142 y_JL_bitCount.1 := Or.inl (xtbm (List.mem_of_getElem? (i := 880) rfl) rfl)
set_option maxRecDepth 20000 in
theorem l_DS_157 : xLk "DataShrinker" 157 y_La_holderOf.1 := Or.inl (xtbm (List.mem_of_getElem? (i := 886) rfl) rfl)
set_option maxRecDepth 20000 in
theorem l_Lw_79 : xLk "DataShrinkerLaw" 79 y_DS_read.1 := Or.inl (xtbm (List.mem_of_getElem? (i := 887) rfl) rfl)
set_option maxRecDepth 20000 in
theorem l_Lw_83 : xLk "DataShrinkerLaw" 83 y_DS_function.1 := Or.inl (xtbm (List.mem_of_getElem? (i := 891) rfl) rfl)
set_option maxRecDepth 20000 in
theorem l_DS_175 : xLk "DataShrinker" 175 y_Re_countComeTo.1 := Or.inl (xtbm (List.mem_of_getElem? (i := 895) rfl) rfl)
set_option maxRecDepth 20000 in
theorem l_Re_85 : xLk "DataShrinker$Reach" 85 y_JL_bitCount.1 := Or.inl (xtbm (List.mem_of_getElem? (i := 900) rfl) rfl)
set_option maxRecDepth 20000 in
theorem l_Lw_87 : xLk "DataShrinkerLaw" 87 y_DS_values.1 := Or.inl (xtbm (List.mem_of_getElem? (i := 901) rfl) rfl)
set_option maxRecDepth 20000 in
theorem l_DS_178 : xLk "DataShrinker" 178 y_DS_isRegister.1 := Or.inl (xtbm (List.mem_of_getElem? (i := 905) rfl) rfl)
set_option maxRecDepth 20000 in
theorem l_DS_182 : xLk "DataShrinker" 182 y_Re_countValues.1 := Or.inl (xtbm (List.mem_of_getElem? (i := 906) rfl) rfl)
set_option maxRecDepth 20000 in
theorem l_Re_98 : xLk "DataShrinker$Reach" 98 y_OS_count.1 := Or.inl (xtbm (List.mem_of_getElem? (i := 910) rfl) rfl)
set_option maxRecDepth 20000 in
theorem l_OS_46 : xLk "DataShrinker$OctetSet" 46 y_JL_bitCount.1 := Or.inl (xtbm (List.mem_of_getElem? (i := 913) rfl) rfl)
set_option maxRecDepth 20000 in
theorem l_Lw_92 : xLk "DataShrinkerLaw" 92 y_DS_octet.1 := Or.inl (xtbm (List.mem_of_getElem? (i := 914) rfl) rfl)
set_option maxRecDepth 20000 in
theorem l_Lw_96 : xLk "DataShrinkerLaw" 96 y_DS_shrunk.1 := Or.inl (xtbm (List.mem_of_getElem? (i := 918) rfl) rfl)
set_option maxRecDepth 20000 in
theorem l_DS_189 : xLk "DataShrinker" 189 y_La_countKept.1 := Or.inl (xtbm (List.mem_of_getElem? (i := 922) rfl) rfl)
set_option maxRecDepth 20000 in
theorem l_La_85 : xLk "DataShrinker$Layout" 85 y_DS_asNumber.1 := Or.inr ⟨"DataShrinker", List.mem_of_getElem? (i := 11) rfl⟩
set_option maxRecDepth 20000 in
theorem l_DS_193 : xLk "DataShrinker" 193 y_La_countDropped.1 := Or.inl (xtbm (List.mem_of_getElem? (i := 927) rfl) rfl)
set_option maxRecDepth 20000 in
theorem l_La_89 : xLk "DataShrinker$Layout" 89 y_La_isDropped.1 := Or.inl (xtbm (List.mem_of_getElem? (i := 931) rfl) rfl)
set_option maxRecDepth 20000 in
theorem l_DS_196 : xLk "DataShrinker" 196 y_La_countDroppedOctets.1 := Or.inl (xtbm (List.mem_of_getElem? (i := 935) rfl) rfl)
set_option maxRecDepth 20000 in
theorem l_DS_205 : xLk "DataShrinker" 205 y_DS_countOthers.1 := Or.inl (xtbm (List.mem_of_getElem? (i := 939) rfl) rfl)
set_option maxRecDepth 20000 in
theorem l_Lw_12 : xLk "DataShrinkerLaw" 12 y_Mo_init.1 := Or.inl (xtbm (List.mem_of_getElem? (i := 944) rfl) rfl)
set_option maxRecDepth 20000 in
theorem l_Lw_17 : xLk "DataShrinkerLaw" 17 y_Mo_item.1 := Or.inl (xtbm (List.mem_of_getElem? (i := 1125) rfl) rfl)
set_option maxRecDepth 20000 in
theorem l_Mo_157 : xLk "DataShrinkerModel" 157 y_Mo_in.1 := Or.inl (xtbm (List.mem_of_getElem? (i := 1129) rfl) rfl)
set_option maxRecDepth 20000 in
theorem l_Lw_24 : xLk "DataShrinkerLaw" 24 y_Mo_bytes.1 := Or.inl (xtbm (List.mem_of_getElem? (i := 1132) rfl) rfl)
set_option maxRecDepth 20000 in
theorem l_Mo_165 : xLk "DataShrinkerModel" 165 y_Mo_has.1 := Or.inl (xtbm (List.mem_of_getElem? (i := 1136) rfl) rfl)
set_option maxRecDepth 20000 in
theorem l_Lw_29 : xLk "DataShrinkerLaw" 29 y_Mo_refer.1 := Or.inl (xtbm (List.mem_of_getElem? (i := 1141) rfl) rfl)
set_option maxRecDepth 20000 in
theorem l_Lw_34 : xLk "DataShrinkerLaw" 34 y_Mo_code.1 := Or.inl (xtbm (List.mem_of_getElem? (i := 1145) rfl) rfl)
set_option maxRecDepth 20000 in
theorem l_Mo_178 : xLk "DataShrinkerModel" 178 y_Mo_isTold.1 := Or.inl (xtbm (List.mem_of_getElem? (i := 1149) rfl) rfl)
set_option maxRecDepth 20000 in
theorem l_Mo_171 : xLk "DataShrinkerModel" 171 y_Mo_isRegister.1 := Or.inl (xtbm (List.mem_of_getElem? (i := 1152) rfl) rfl)
set_option maxRecDepth 20000 in
theorem l_Mo_175 : xLk "DataShrinkerModel" 175 y_Mo_isItem.1 := Or.inl (xtbm (List.mem_of_getElem? (i := 1155) rfl) rfl)
set_option maxRecDepth 20000 in
theorem l_Lw_39 : xLk "DataShrinkerLaw" 39 y_Mo_clear.1 := Or.inl (xtbm (List.mem_of_getElem? (i := 1158) rfl) rfl)
set_option maxRecDepth 20000 in
theorem l_Lw_44 : xLk "DataShrinkerLaw" 44 y_Mo_entry.1 := Or.inl (xtbm (List.mem_of_getElem? (i := 1162) rfl) rfl)
set_option maxRecDepth 20000 in
theorem l_Lw_49 : xLk "DataShrinkerLaw" 49 y_Mo_input1.1 := Or.inl (xtbm (List.mem_of_getElem? (i := 1166) rfl) rfl)
set_option maxRecDepth 20000 in
theorem l_Lw_53 : xLk "DataShrinkerLaw" 53 y_Mo_input2.1 := Or.inl (xtbm (List.mem_of_getElem? (i := 1170) rfl) rfl)
set_option maxRecDepth 20000 in
theorem l_Lw_57 : xLk "DataShrinkerLaw" 57 y_Mo_run.1 := Or.inl (xtbm (List.mem_of_getElem? (i := 1174) rfl) rfl)
set_option maxRecDepth 20000 in
theorem l_Mo_201 : xLk "DataShrinkerModel" 201 y_Mo_goes.1 := Or.inl (xtbm (List.mem_of_getElem? (i := 1178) rfl) rfl)
set_option maxRecDepth 20000 in
theorem l_Mo_197 : xLk "DataShrinkerModel" 197 y_Mo_place.1 := Or.inl (xtbm (List.mem_of_getElem? (i := 1182) rfl) rfl)
set_option maxRecDepth 20000 in
theorem l_Lw_61 : xLk "DataShrinkerLaw" 61 y_Mo_runLaid.1 := Or.inl (xtbm (List.mem_of_getElem? (i := 1186) rfl) rfl)
set_option maxRecDepth 20000 in
theorem l_Lw_65 : xLk "DataShrinkerLaw" 65 y_Mo_ran.1 := Or.inl (xtbm (List.mem_of_getElem? (i := 1190) rfl) rfl)
set_option maxRecDepth 20000 in
theorem l_Lw_69 : xLk "DataShrinkerLaw" 69 y_Mo_out.1 := Or.inl (xtbm (List.mem_of_getElem? (i := 1194) rfl) rfl)
set_option maxRecDepth 20000 in
theorem l_Lw_73 : xLk "DataShrinkerLaw" 73 y_Mo_shrink.1 := Or.inl (xtbm (List.mem_of_getElem? (i := 1198) rfl) rfl)
set_option maxRecDepth 20000 in
theorem l_Mo_289 : xLk "DataShrinkerModel" 289 y_Mo_reach.1 := Or.inl (xtbm (List.mem_of_getElem? (i := 1202) rfl) rfl)
set_option maxRecDepth 20000 in
theorem l_Mo_234 : xLk "DataShrinkerModel" 234 y_Mo_comes.1 := Or.inl (xtbm (List.mem_of_getElem? (i := 1206) rfl) rfl)
set_option maxRecDepth 20000 in
theorem l_Mo_248 : xLk "DataShrinkerModel" 248 y_Mo_takes.1 := Or.inl (xtbm (List.mem_of_getElem? (i := 1210) rfl) rfl)
set_option maxRecDepth 20000 in
theorem l_Mo_218 : xLk "DataShrinkerModel" 218 y_Mo_returned.1 := Or.inl (xtbm (List.mem_of_getElem? (i := 1214) rfl) rfl)
set_option maxRecDepth 20000 in
theorem l_Mo_211 : xLk "DataShrinkerModel" 211 y_Mo_empty.1 := Or.inl (xtbm (List.mem_of_getElem? (i := 1218) rfl) rfl)
set_option maxRecDepth 20000 in
theorem l_Mo_222 : xLk "DataShrinkerModel" 222 y_Mo_put.1 := Or.inl (xtbm (List.mem_of_getElem? (i := 1222) rfl) rfl)
set_option maxRecDepth 20000 in
theorem l_Mo_225 : xLk "DataShrinkerModel" 225 y_Mo_gets.1 := Or.inl (xtbm (List.mem_of_getElem? (i := 1226) rfl) rfl)
set_option maxRecDepth 20000 in
theorem l_Mo_214 : xLk "DataShrinkerModel" 214 y_Mo_hasValue.1 := Or.inl (xtbm (List.mem_of_getElem? (i := 1230) rfl) rfl)
set_option maxRecDepth 20000 in
theorem l_Mo_228 : xLk "DataShrinkerModel" 228 y_Mo_loads.1 := Or.inl (xtbm (List.mem_of_getElem? (i := 1234) rfl) rfl)
set_option maxRecDepth 20000 in
theorem l_Mo_231 : xLk "DataShrinkerModel" 231 y_Mo_stores.1 := Or.inl (xtbm (List.mem_of_getElem? (i := 1238) rfl) rfl)
set_option maxRecDepth 20000 in
theorem l_Mo_238 : xLk "DataShrinkerModel" 238 y_Mo_skips.1 := Or.inl (xtbm (List.mem_of_getElem? (i := 1242) rfl) rfl)
set_option maxRecDepth 20000 in
theorem l_Mo_243 : xLk "DataShrinkerModel" 243 y_Mo_follows.1 := Or.inl (xtbm (List.mem_of_getElem? (i := 1248) rfl) rfl)
set_option maxRecDepth 20000 in
theorem l_Mo_292 : xLk "DataShrinkerModel" 292 y_Mo_keeps.1 := Or.inl (xtbm (List.mem_of_getElem? (i := 1252) rfl) rfl)
set_option maxRecDepth 20000 in
theorem l_Mo_251 : xLk "DataShrinkerModel" 251 y_Mo_reads.1 := Or.inl (xtbm (List.mem_of_getElem? (i := 1256) rfl) rfl)
set_option maxRecDepth 20000 in
theorem l_Mo_295 : xLk "DataShrinkerModel" 295 y_Mo_chains.1 := Or.inl (xtbm (List.mem_of_getElem? (i := 1260) rfl) rfl)
set_option maxRecDepth 20000 in
theorem l_Mo_254 : xLk "DataShrinkerModel" 254 y_Mo_leads.1 := Or.inl (xtbm (List.mem_of_getElem? (i := 1264) rfl) rfl)
set_option maxRecDepth 20000 in
theorem l_Mo_257 : xLk "DataShrinkerModel" 257 y_Mo_readsBy.1 := Or.inl (xtbm (List.mem_of_getElem? (i := 1268) rfl) rfl)
set_option maxRecDepth 20000 in
theorem l_Mo_298 : xLk "DataShrinkerModel" 298 y_Mo_lays.1 := Or.inl (xtbm (List.mem_of_getElem? (i := 1272) rfl) rfl)
set_option maxRecDepth 20000 in
theorem l_Mo_280 : xLk "DataShrinkerModel" 280 y_Mo_joins.1 := Or.inl (xtbm (List.mem_of_getElem? (i := 1276) rfl) rfl)
set_option maxRecDepth 20000 in
theorem l_Mo_261 : xLk "DataShrinkerModel" 261 y_Mo_refers.1 := Or.inl (xtbm (List.mem_of_getElem? (i := 1280) rfl) rfl)
set_option maxRecDepth 20000 in
theorem l_Mo_264 : xLk "DataShrinkerModel" 264 y_Mo_endsWith.1 := Or.inl (xtbm (List.mem_of_getElem? (i := 1284) rfl) rfl)
set_option maxRecDepth 20000 in
theorem l_Mo_283 : xLk "DataShrinkerModel" 283 y_Mo_tries.1 := Or.inl (xtbm (List.mem_of_getElem? (i := 1288) rfl) rfl)
set_option maxRecDepth 20000 in
theorem l_Mo_276 : xLk "DataShrinkerModel" 276 y_Mo_bytesOf.1 := Or.inl (xtbm (List.mem_of_getElem? (i := 1292) rfl) rfl)
set_option maxRecDepth 20000 in
theorem l_Mo_270 : xLk "DataShrinkerModel" 270 y_Mo_next.1 := Or.inl (xtbm (List.mem_of_getElem? (i := 1296) rfl) rfl)
set_option maxRecDepth 20000 in
theorem l_Lw_78 : xLk "DataShrinkerLaw" 78 y_Mo_kept.1 := Or.inl (xtbm (List.mem_of_getElem? (i := 1299) rfl) rfl)
set_option maxRecDepth 20000 in
theorem l_Mo_301 : xLk "DataShrinkerModel" 301 y_Mo_wasItem.1 := Or.inl (xtbm (List.mem_of_getElem? (i := 1303) rfl) rfl)
set_option maxRecDepth 20000 in
theorem l_Lw_82 : xLk "DataShrinkerLaw" 82 y_Mo_read.1 := Or.inl (xtbm (List.mem_of_getElem? (i := 1307) rfl) rfl)
set_option maxRecDepth 20000 in
theorem l_Lw_86 : xLk "DataShrinkerLaw" 86 y_Mo_function.1 := Or.inl (xtbm (List.mem_of_getElem? (i := 1311) rfl) rfl)
set_option maxRecDepth 20000 in
theorem l_Lw_91 : xLk "DataShrinkerLaw" 91 y_Mo_values.1 := Or.inl (xtbm (List.mem_of_getElem? (i := 1315) rfl) rfl)
set_option maxRecDepth 20000 in
theorem l_Lw_95 : xLk "DataShrinkerLaw" 95 y_Mo_octet.1 := Or.inl (xtbm (List.mem_of_getElem? (i := 1319) rfl) rfl)
set_option maxRecDepth 20000 in
theorem l_Lw_99 : xLk "DataShrinkerLaw" 99 y_Mo_shrunk.1 := Or.inl (xtbm (List.mem_of_getElem? (i := 1323) rfl) rfl)
