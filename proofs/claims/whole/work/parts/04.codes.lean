theorem a_kin {i : Nat} {y : MethodName} {c : ByteArray} {n : Nat} {r : Option FieldType} (h : lw_tbl[i]? = some (Cond.code y c n r)) : Cond.code y c n r ∈ a_wl := List.mem_filter.mpr ⟨List.mem_of_getElem? h, rfl⟩
set_option maxRecDepth 100000 in
theorem a_k0 : Cond.code yX0_init cX0_init 1 none ∈ a_wl := a_kin (i := 365) rfl
set_option maxRecDepth 100000 in
theorem a_k1 : Cond.code yX0_begin cX0_begin 2 none ∈ a_wl := a_kin (i := 1041) rfl
set_option maxRecDepth 100000 in
theorem a_k2 : Cond.code yX0_setCost cX0_setCost 4 none ∈ a_wl := a_kin (i := 1047) rfl
set_option maxRecDepth 100000 in
theorem a_k3 : Cond.code yX0_work cX0_work 5 none ∈ a_wl := a_kin (i := 1052) rfl
set_option maxRecDepth 100000 in
theorem a_k4 : Cond.code yX0_cost cX0_cost 1 (some .int) ∈ a_wl := a_kin (i := 1072) rfl
set_option maxRecDepth 100000 in
theorem a_k5 : Cond.code yX0_whoLives cX0_whoLives 2 (some .int) ∈ a_wl := a_kin (i := 1076) rfl
set_option maxRecDepth 100000 in
theorem a_k6 : Cond.code yX0_cheapest cX0_cheapest 7 (some .int) ∈ a_wl := a_kin (i := 1062) rfl
set_option maxRecDepth 100000 in
theorem a_k7 : Cond.code yX0_costBy cX0_costBy 4 (some .int) ∈ a_wl := a_kin (i := 1066) rfl
set_option maxRecDepth 100000 in
theorem a_k8 : Cond.code yX1_init cX1_init 1 none ∈ a_wl := a_kin (i := 438) rfl
set_option maxRecDepth 100000 in
theorem a_k9 : Cond.code yX1_clear cX1_clear 1 none ∈ a_wl := a_kin (i := 524) rfl
set_option maxRecDepth 100000 in
theorem a_k10 : Cond.code yX1_hasName cX1_hasName 2 (some .boolean) ∈ a_wl := a_kin (i := 702) rfl
set_option maxRecDepth 100000 in
theorem a_k11 : Cond.code yX1_addPerson cX1_addPerson 4 none ∈ a_wl := a_kin (i := 719) rfl
set_option maxRecDepth 100000 in
theorem a_k12 : Cond.code yX1_addTask cX1_addTask 3 none ∈ a_wl := a_kin (i := 726) rfl
set_option maxRecDepth 100000 in
theorem a_k13 : Cond.code yX1_hasDuty cX1_hasDuty 6 (some .boolean) ∈ a_wl := a_kin (i := 738) rfl
set_option maxRecDepth 100000 in
theorem a_k14 : Cond.code yX1_addDuty cX1_addDuty 6 none ∈ a_wl := a_kin (i := 743) rfl
set_option maxRecDepth 100000 in
theorem a_k15 : Cond.code yX1_sameWard cX1_sameWard 3 (some .boolean) ∈ a_wl := a_kin (i := 979) rfl
theorem a_kc0 : ∀ m ∈ a_mt0, a_kw m ∈ a_wl := by unfold a_mt0; exact List.forall_mem_cons.mpr ⟨a_k0, List.forall_mem_cons.mpr ⟨a_k1, List.forall_mem_cons.mpr ⟨a_k2, List.forall_mem_cons.mpr ⟨a_k3, List.forall_mem_cons.mpr ⟨a_k4, List.forall_mem_cons.mpr ⟨a_k5, List.forall_mem_cons.mpr ⟨a_k6, List.forall_mem_cons.mpr ⟨a_k7, List.forall_mem_cons.mpr ⟨a_k8, List.forall_mem_cons.mpr ⟨a_k9, List.forall_mem_cons.mpr ⟨a_k10, List.forall_mem_cons.mpr ⟨a_k11, List.forall_mem_cons.mpr ⟨a_k12, List.forall_mem_cons.mpr ⟨a_k13, List.forall_mem_cons.mpr ⟨a_k14, List.forall_mem_cons.mpr ⟨a_k15, fun _ h => absurd h List.not_mem_nil⟩⟩⟩⟩⟩⟩⟩⟩⟩⟩⟩⟩⟩⟩⟩⟩
set_option maxRecDepth 100000 in
theorem a_k16 : Cond.code yX2_init cX2_init 1 none ∈ a_wl := a_kin (i := 332) rfl
set_option maxRecDepth 100000 in
theorem a_k17 : Cond.code yX2_forgetFailures cX2_forgetFailures 1 none ∈ a_wl := a_kin (i := 956) rfl
set_option maxRecDepth 100000 in
theorem a_k18 : Cond.code yX2_sendAway cX2_sendAway 6 none ∈ a_wl := a_kin (i := 946) rfl
set_option maxRecDepth 100000 in
theorem a_k19 : Cond.code yX2_comes cX2_comes 6 none ∈ a_wl := a_kin (i := 965) rfl
set_option maxRecDepth 100000 in
theorem a_k20 : Cond.code yX2_passNight cX2_passNight 6 none ∈ a_wl := a_kin (i := 969) rfl
set_option maxRecDepth 100000 in
theorem a_k21 : Cond.code yX2_meetDuty cX2_meetDuty 6 none ∈ a_wl := a_kin (i := 988) rfl
set_option maxRecDepth 100000 in
theorem a_k22 : Cond.code yX2_fail cX2_fail 5 none ∈ a_wl := a_kin (i := 993) rfl
set_option maxRecDepth 100000 in
theorem a_k23 : Cond.code yX2_noticeAll cX2_noticeAll 6 none ∈ a_wl := a_kin (i := 1001) rfl
set_option maxRecDepth 100000 in
theorem a_k24 : Cond.code yX2_watchAll cX2_watchAll 8 none ∈ a_wl := a_kin (i := 1005) rfl
set_option maxRecDepth 100000 in
theorem a_k25 : Cond.code yX2_learned cX2_learned 6 (some .int) ∈ a_wl := a_kin (i := 1009) rfl
set_option maxRecDepth 100000 in
theorem a_k26 : Cond.code yX2_ableNow cX2_ableNow 7 (some .boolean) ∈ a_wl := a_kin (i := 885) rfl
set_option maxRecDepth 100000 in
theorem a_k27 : Cond.code yX2_ableInAll cX2_ableInAll 7 (some .boolean) ∈ a_wl := a_kin (i := 1032) rfl
set_option maxRecDepth 100000 in
theorem a_k28 : Cond.code yX2_countAble cX2_countAble 9 (some .int) ∈ a_wl := a_kin (i := 1023) rfl
set_option maxRecDepth 100000 in
theorem a_k29 : Cond.code yX2_able cX2_able 6 (some .boolean) ∈ a_wl := a_kin (i := 895) rfl
set_option maxRecDepth 100000 in
theorem a_k30 : Cond.code yX2_setTime cX2_setTime 3 none ∈ a_wl := a_kin (i := 889) rfl
set_option maxRecDepth 100000 in
theorem a_k31 : Cond.code yX2_setKnower cX2_setKnower 5 none ∈ a_wl := a_kin (i := 975) rfl
theorem a_kc1 : ∀ m ∈ a_mt1, a_kw m ∈ a_wl := by unfold a_mt1; exact List.forall_mem_cons.mpr ⟨a_k16, List.forall_mem_cons.mpr ⟨a_k17, List.forall_mem_cons.mpr ⟨a_k18, List.forall_mem_cons.mpr ⟨a_k19, List.forall_mem_cons.mpr ⟨a_k20, List.forall_mem_cons.mpr ⟨a_k21, List.forall_mem_cons.mpr ⟨a_k22, List.forall_mem_cons.mpr ⟨a_k23, List.forall_mem_cons.mpr ⟨a_k24, List.forall_mem_cons.mpr ⟨a_k25, List.forall_mem_cons.mpr ⟨a_k26, List.forall_mem_cons.mpr ⟨a_k27, List.forall_mem_cons.mpr ⟨a_k28, List.forall_mem_cons.mpr ⟨a_k29, List.forall_mem_cons.mpr ⟨a_k30, List.forall_mem_cons.mpr ⟨a_k31, fun _ h => absurd h List.not_mem_nil⟩⟩⟩⟩⟩⟩⟩⟩⟩⟩⟩⟩⟩⟩⟩⟩
set_option maxRecDepth 100000 in
theorem a_k32 : Cond.code yX2_setAskFacts cX2_setAskFacts 7 none ∈ a_wl := a_kin (i := 1207) rfl
set_option maxRecDepth 100000 in
theorem a_k33 : Cond.code yX3_init cX3_init 1 none ∈ a_wl := a_kin (i := 203) rfl
set_option maxRecDepth 100000 in
theorem a_k34 : Cond.code yX3_isTold cX3_isTold 1 (some .boolean) ∈ a_wl := a_kin (i := 677) rfl
set_option maxRecDepth 100000 in
theorem a_k35 : Cond.code yX3_clear cX3_clear 1 none ∈ a_wl := a_kin (i := 533) rfl
set_option maxRecDepth 100000 in
theorem a_k36 : Cond.code yX3_write cX3_write 3 none ∈ a_wl := a_kin (i := 778) rfl
set_option maxRecDepth 100000 in
theorem a_k37 : Cond.code yX3_value cX3_value 6 (some .int) ∈ a_wl := a_kin (i := 901) rfl
set_option maxRecDepth 100000 in
theorem a_k38 : Cond.code yX3_known cX3_known 2 (some .int) ∈ a_wl := a_kin (i := 906) rfl
set_option maxRecDepth 100000 in
theorem a_k39 : Cond.code yX3_worked cX3_worked 3 (some .int) ∈ a_wl := a_kin (i := 909) rfl
set_option maxRecDepth 100000 in
theorem a_k40 : Cond.code yX3_held cX3_held 2 (some .int) ∈ a_wl := a_kin (i := 912) rfl
set_option maxRecDepth 100000 in
theorem a_k41 : Cond.code yX4_init cX4_init 1 none ∈ a_wl := a_kin (i := 393) rfl
set_option maxRecDepth 100000 in
theorem a_k42 : Cond.code yX4_begin cX4_begin 3 none ∈ a_wl := a_kin (i := 538) rfl
set_option maxRecDepth 100000 in
theorem a_k43 : Cond.code yX4_goHome cX4_goHome 3 none ∈ a_wl := a_kin (i := 546) rfl
set_option maxRecDepth 100000 in
theorem a_k44 : Cond.code yX4_copy cX4_copy 2 none ∈ a_wl := a_kin (i := 942) rfl
set_option maxRecDepth 100000 in
theorem a_k45 : Cond.code yX4_pointsOf cX4_pointsOf 3 (some .int) ∈ a_wl := a_kin (i := 868) rfl
set_option maxRecDepth 100000 in
theorem a_k46 : Cond.code yX4_setPoints cX4_setPoints 4 none ∈ a_wl := a_kin (i := 983) rfl
set_option maxRecDepth 100000 in
theorem a_k47 : Cond.code yX4_keep cX4_keep 5 none ∈ a_wl := a_kin (i := 997) rfl
theorem a_kc2 : ∀ m ∈ a_mt2, a_kw m ∈ a_wl := by unfold a_mt2; exact List.forall_mem_cons.mpr ⟨a_k32, List.forall_mem_cons.mpr ⟨a_k33, List.forall_mem_cons.mpr ⟨a_k34, List.forall_mem_cons.mpr ⟨a_k35, List.forall_mem_cons.mpr ⟨a_k36, List.forall_mem_cons.mpr ⟨a_k37, List.forall_mem_cons.mpr ⟨a_k38, List.forall_mem_cons.mpr ⟨a_k39, List.forall_mem_cons.mpr ⟨a_k40, List.forall_mem_cons.mpr ⟨a_k41, List.forall_mem_cons.mpr ⟨a_k42, List.forall_mem_cons.mpr ⟨a_k43, List.forall_mem_cons.mpr ⟨a_k44, List.forall_mem_cons.mpr ⟨a_k45, List.forall_mem_cons.mpr ⟨a_k46, List.forall_mem_cons.mpr ⟨a_k47, fun _ h => absurd h List.not_mem_nil⟩⟩⟩⟩⟩⟩⟩⟩⟩⟩⟩⟩⟩⟩⟩⟩
set_option maxRecDepth 100000 in
theorem a_k48 : Cond.code yX4_keptCount cX4_keptCount 1 (some .int) ∈ a_wl := a_kin (i := 842) rfl
set_option maxRecDepth 100000 in
theorem a_k49 : Cond.code yX4_keptPart cX4_keptPart 4 (some .int) ∈ a_wl := a_kin (i := 929) rfl
set_option maxRecDepth 100000 in
theorem a_k50 : Cond.code yX5_init cX5_init 2 none ∈ a_wl := a_kin (i := 386) rfl
set_option maxRecDepth 100000 in
theorem a_k51 : Cond.code yX5_size cX5_size 1 (some .int) ∈ a_wl := a_kin (i := 847) rfl
set_option maxRecDepth 100000 in
theorem a_k52 : Cond.code yX5_clear cX5_clear 1 none ∈ a_wl := a_kin (i := 818) rfl
set_option maxRecDepth 100000 in
theorem a_k53 : Cond.code yX5_remember cX5_remember 3 none ∈ a_wl := a_kin (i := 1093) rfl
set_option maxRecDepth 100000 in
theorem a_k54 : Cond.code yX5_recall cX5_recall 3 (some .boolean) ∈ a_wl := a_kin (i := 1139) rfl
set_option maxRecDepth 100000 in
theorem a_k55 : Cond.code yX5_slot cX5_slot 2 (some (.object "NoonBell$Moment")) ∈ a_wl := a_kin (i := 1097) rfl
set_option maxRecDepth 100000 in
theorem a_k56 : Cond.code yX6_init cX6_init 1 none ∈ a_wl := a_kin (i := 195) rfl
set_option maxRecDepth 100000 in
theorem a_k57 : Cond.code yX6_addWords cX6_addWords 5 none ∈ a_wl := a_kin (i := 229) rfl
set_option maxRecDepth 100000 in
theorem a_k58 : Cond.code yX6_start cX6_start 4 none ∈ a_wl := a_kin (i := 628) rfl
set_option maxRecDepth 100000 in
theorem a_k59 : Cond.code yX6_put cX6_put 6 none ∈ a_wl := a_kin (i := 649) rfl
set_option maxRecDepth 100000 in
theorem a_k60 : Cond.code yX6_scan cX6_scan 4 (some .int) ∈ a_wl := a_kin (i := 634) rfl
set_option maxRecDepth 100000 in
theorem a_k61 : Cond.code yX6_scanWord cX6_scanWord 5 (some .int) ∈ a_wl := a_kin (i := 642) rfl
set_option maxRecDepth 100000 in
theorem a_k62 : Cond.code yX6_scanNumber cX6_scanNumber 5 (some .int) ∈ a_wl := a_kin (i := 657) rfl
set_option maxRecDepth 100000 in
theorem a_k63 : Cond.code yX6_isLetter cX6_isLetter 1 (some .boolean) ∈ a_wl := a_kin (i := 638) rfl
theorem a_kc3 : ∀ m ∈ a_mt3, a_kw m ∈ a_wl := by unfold a_mt3; exact List.forall_mem_cons.mpr ⟨a_k48, List.forall_mem_cons.mpr ⟨a_k49, List.forall_mem_cons.mpr ⟨a_k50, List.forall_mem_cons.mpr ⟨a_k51, List.forall_mem_cons.mpr ⟨a_k52, List.forall_mem_cons.mpr ⟨a_k53, List.forall_mem_cons.mpr ⟨a_k54, List.forall_mem_cons.mpr ⟨a_k55, List.forall_mem_cons.mpr ⟨a_k56, List.forall_mem_cons.mpr ⟨a_k57, List.forall_mem_cons.mpr ⟨a_k58, List.forall_mem_cons.mpr ⟨a_k59, List.forall_mem_cons.mpr ⟨a_k60, List.forall_mem_cons.mpr ⟨a_k61, List.forall_mem_cons.mpr ⟨a_k62, List.forall_mem_cons.mpr ⟨a_k63, fun _ h => absurd h List.not_mem_nil⟩⟩⟩⟩⟩⟩⟩⟩⟩⟩⟩⟩⟩⟩⟩⟩
set_option maxRecDepth 100000 in
theorem a_k64 : Cond.code yX6_isDigit cX6_isDigit 1 (some .boolean) ∈ a_wl := a_kin (i := 645) rfl
set_option maxRecDepth 100000 in
theorem a_k65 : Cond.code yX6_fine cX6_fine 1 (some .boolean) ∈ a_wl := a_kin (i := 666) rfl
set_option maxRecDepth 100000 in
theorem a_k66 : Cond.code yX6_fail cX6_fail 3 none ∈ a_wl := a_kin (i := 686) rfl
set_option maxRecDepth 100000 in
theorem a_k67 : Cond.code yX6_here cX6_here 1 (some .int) ∈ a_wl := a_kin (i := 682) rfl
set_option maxRecDepth 100000 in
theorem a_k68 : Cond.code yX6_word cX6_word 1 (some .int) ∈ a_wl := a_kin (i := 670) rfl
set_option maxRecDepth 100000 in
theorem a_k69 : Cond.code yX6_isSign cX6_isSign 2 (some .boolean) ∈ a_wl := a_kin (i := 783) rfl
set_option maxRecDepth 100000 in
theorem a_k70 : Cond.code yX6_isWord cX6_isWord 2 (some .boolean) ∈ a_wl := a_kin (i := 711) rfl
set_option maxRecDepth 100000 in
theorem a_k71 : Cond.code yX6_take cX6_take 1 none ∈ a_wl := a_kin (i := 694) rfl
set_option maxRecDepth 100000 in
theorem a_k72 : Cond.code yX6_takeSign cX6_takeSign 2 none ∈ a_wl := a_kin (i := 791) rfl
set_option maxRecDepth 100000 in
theorem a_k73 : Cond.code yX6_takeWord cX6_takeWord 2 none ∈ a_wl := a_kin (i := 707) rfl
set_option maxRecDepth 100000 in
theorem a_k74 : Cond.code yX6_takeName cX6_takeName 3 (some .int) ∈ a_wl := a_kin (i := 698) rfl
set_option maxRecDepth 100000 in
theorem a_k75 : Cond.code yX6_takeNumber cX6_takeNumber 3 (some .int) ∈ a_wl := a_kin (i := 715) rfl
set_option maxRecDepth 100000 in
theorem a_k76 : Cond.code yX6_takeOpening cX6_takeOpening 2 none ∈ a_wl := a_kin (i := 787) rfl
set_option maxRecDepth 100000 in
theorem a_k77 : Cond.code yX6_readCity cX6_readCity 4 none ∈ a_wl := a_kin (i := 661) rfl
set_option maxRecDepth 100000 in
theorem a_k78 : Cond.code yX6_isTooMany cX6_isTooMany 2 (some .boolean) ∈ a_wl := a_kin (i := 673) rfl
set_option maxRecDepth 100000 in
theorem a_k79 : Cond.code yX6_readGiven cX6_readGiven 6 none ∈ a_wl := a_kin (i := 690) rfl
theorem a_kc4 : ∀ m ∈ a_mt4, a_kw m ∈ a_wl := by unfold a_mt4; exact List.forall_mem_cons.mpr ⟨a_k64, List.forall_mem_cons.mpr ⟨a_k65, List.forall_mem_cons.mpr ⟨a_k66, List.forall_mem_cons.mpr ⟨a_k67, List.forall_mem_cons.mpr ⟨a_k68, List.forall_mem_cons.mpr ⟨a_k69, List.forall_mem_cons.mpr ⟨a_k70, List.forall_mem_cons.mpr ⟨a_k71, List.forall_mem_cons.mpr ⟨a_k72, List.forall_mem_cons.mpr ⟨a_k73, List.forall_mem_cons.mpr ⟨a_k74, List.forall_mem_cons.mpr ⟨a_k75, List.forall_mem_cons.mpr ⟨a_k76, List.forall_mem_cons.mpr ⟨a_k77, List.forall_mem_cons.mpr ⟨a_k78, List.forall_mem_cons.mpr ⟨a_k79, fun _ h => absurd h List.not_mem_nil⟩⟩⟩⟩⟩⟩⟩⟩⟩⟩⟩⟩⟩⟩⟩⟩
set_option maxRecDepth 100000 in
theorem a_k80 : Cond.code yX6_takeKnown cX6_takeKnown 4 (some .int) ∈ a_wl := a_kin (i := 734) rfl
set_option maxRecDepth 100000 in
theorem a_k81 : Cond.code yX6_readDuty cX6_readDuty 6 none ∈ a_wl := a_kin (i := 730) rfl
set_option maxRecDepth 100000 in
theorem a_k82 : Cond.code yX6_readCover cX6_readCover 5 none ∈ a_wl := a_kin (i := 752) rfl
set_option maxRecDepth 100000 in
theorem a_k83 : Cond.code yX6_readKnowing cX6_readKnowing 6 none ∈ a_wl := a_kin (i := 757) rfl
set_option maxRecDepth 100000 in
theorem a_k84 : Cond.code yX6_readRule cX6_readRule 3 none ∈ a_wl := a_kin (i := 761) rfl
set_option maxRecDepth 100000 in
theorem a_k85 : Cond.code yX6_readQuestion cX6_readQuestion 3 none ∈ a_wl := a_kin (i := 1170) rfl
set_option maxRecDepth 100000 in
theorem a_k86 : Cond.code yX6_readTest cX6_readTest 3 none ∈ a_wl := a_kin (i := 802) rfl
set_option maxRecDepth 100000 in
theorem a_k87 : Cond.code yX6_readBoth cX6_readBoth 3 none ∈ a_wl := a_kin (i := 806) rfl
set_option maxRecDepth 100000 in
theorem a_k88 : Cond.code yX6_readFact cX6_readFact 3 none ∈ a_wl := a_kin (i := 810) rfl
set_option maxRecDepth 100000 in
theorem a_k89 : Cond.code yX6_comparison cX6_comparison 1 (some .int) ∈ a_wl := a_kin (i := 814) rfl
set_option maxRecDepth 100000 in
theorem a_k90 : Cond.code yX6_readSum cX6_readSum 4 none ∈ a_wl := a_kin (i := 766) rfl
set_option maxRecDepth 100000 in
theorem a_k91 : Cond.code yX6_readProduct cX6_readProduct 4 none ∈ a_wl := a_kin (i := 770) rfl
set_option maxRecDepth 100000 in
theorem a_k92 : Cond.code yX6_readPart cX6_readPart 3 none ∈ a_wl := a_kin (i := 774) rfl
set_option maxRecDepth 100000 in
theorem a_k93 : Cond.code yX6_readPair cX6_readPair 3 none ∈ a_wl := a_kin (i := 795) rfl
set_option maxRecDepth 100000 in
theorem a_k94 : Cond.code yX7_init cX7_init 2 none ∈ a_wl := a_kin (i := 178) rfl
set_option maxRecDepth 100000 in
theorem a_k95 : Cond.code yX7_size cX7_size 1 (some .int) ∈ a_wl := a_kin (i := 542) rfl
theorem a_kc5 : ∀ m ∈ a_mt5, a_kw m ∈ a_wl := by unfold a_mt5; exact List.forall_mem_cons.mpr ⟨a_k80, List.forall_mem_cons.mpr ⟨a_k81, List.forall_mem_cons.mpr ⟨a_k82, List.forall_mem_cons.mpr ⟨a_k83, List.forall_mem_cons.mpr ⟨a_k84, List.forall_mem_cons.mpr ⟨a_k85, List.forall_mem_cons.mpr ⟨a_k86, List.forall_mem_cons.mpr ⟨a_k87, List.forall_mem_cons.mpr ⟨a_k88, List.forall_mem_cons.mpr ⟨a_k89, List.forall_mem_cons.mpr ⟨a_k90, List.forall_mem_cons.mpr ⟨a_k91, List.forall_mem_cons.mpr ⟨a_k92, List.forall_mem_cons.mpr ⟨a_k93, List.forall_mem_cons.mpr ⟨a_k94, List.forall_mem_cons.mpr ⟨a_k95, fun _ h => absurd h List.not_mem_nil⟩⟩⟩⟩⟩⟩⟩⟩⟩⟩⟩⟩⟩⟩⟩⟩
set_option maxRecDepth 100000 in
theorem a_k96 : Cond.code yX7_get cX7_get 2 (some .int) ∈ a_wl := a_kin (i := 556) rfl
set_option maxRecDepth 100000 in
theorem a_k97 : Cond.code yX7_put cX7_put 3 none ∈ a_wl := a_kin (i := 217) rfl
set_option maxRecDepth 100000 in
theorem a_k98 : Cond.code yX7_add cX7_add 2 none ∈ a_wl := a_kin (i := 281) rfl
set_option maxRecDepth 100000 in
theorem a_k99 : Cond.code yX7_insert cX7_insert 4 none ∈ a_wl := a_kin (i := 747) rfl
set_option maxRecDepth 100000 in
theorem a_k100 : Cond.code yX7_cut cX7_cut 2 none ∈ a_wl := a_kin (i := 528) rfl
set_option maxRecDepth 100000 in
theorem a_k101 : Cond.code yX7_fill cX7_fill 4 none ∈ a_wl := a_kin (i := 210) rfl
set_option maxRecDepth 100000 in
theorem a_k102 : Cond.code yX7_copy cX7_copy 3 none ∈ a_wl := a_kin (i := 552) rfl
set_option maxRecDepth 100000 in
theorem a_k103 : Cond.code yX7_find cX7_find 3 (some .int) ∈ a_wl := a_kin (i := 653) rfl
set_option maxRecDepth 100000 in
theorem a_k104 : Cond.code yX7_count cX7_count 4 (some .int) ∈ a_wl := a_kin (i := 834) rfl
set_option maxRecDepth 100000 in
theorem a_k105 : Cond.code yX8_init cX8_init 1 none ∈ a_wl := a_kin (i := 1180) rfl
set_option maxRecDepth 100000 in
theorem a_k106 : Cond.code yX8_count cX8_count 3 none ∈ a_wl := a_kin (i := 1212) rfl
set_option maxRecDepth 100000 in
theorem a_k107 : Cond.code yX8_answer cX8_answer 2 (some .long) ∈ a_wl := a_kin (i := 1218) rfl
set_option maxRecDepth 100000 in
theorem a_k108 : Cond.code yX9_init cX9_init 1 none ∈ a_wl := a_kin (i := 170) rfl
set_option maxRecDepth 100000 in
theorem a_k109 : Cond.code yX9_feed cX9_feed 6 (some .int) ∈ a_wl := a_kin (i := 603) rfl
set_option maxRecDepth 100000 in
theorem a_k110 : Cond.code yX9_end cX9_end 2 (some .boolean) ∈ a_wl := a_kin (i := 619) rfl
set_option maxRecDepth 100000 in
theorem a_k111 : Cond.code yX9_city cX9_city 2 (some .int) ∈ a_wl := a_kin (i := 624) rfl
theorem a_kc6 : ∀ m ∈ a_mt6, a_kw m ∈ a_wl := by unfold a_mt6; exact List.forall_mem_cons.mpr ⟨a_k96, List.forall_mem_cons.mpr ⟨a_k97, List.forall_mem_cons.mpr ⟨a_k98, List.forall_mem_cons.mpr ⟨a_k99, List.forall_mem_cons.mpr ⟨a_k100, List.forall_mem_cons.mpr ⟨a_k101, List.forall_mem_cons.mpr ⟨a_k102, List.forall_mem_cons.mpr ⟨a_k103, List.forall_mem_cons.mpr ⟨a_k104, List.forall_mem_cons.mpr ⟨a_k105, List.forall_mem_cons.mpr ⟨a_k106, List.forall_mem_cons.mpr ⟨a_k107, List.forall_mem_cons.mpr ⟨a_k108, List.forall_mem_cons.mpr ⟨a_k109, List.forall_mem_cons.mpr ⟨a_k110, List.forall_mem_cons.mpr ⟨a_k111, fun _ h => absurd h List.not_mem_nil⟩⟩⟩⟩⟩⟩⟩⟩⟩⟩⟩⟩⟩⟩⟩⟩
set_option maxRecDepth 100000 in
theorem a_k112 : Cond.code yX9_fault cX9_fault 2 (some .int) ∈ a_wl := a_kin (i := 822) rfl
set_option maxRecDepth 100000 in
theorem a_k113 : Cond.code yX9_has cX9_has 2 (some .int) ∈ a_wl := a_kin (i := 826) rfl
set_option maxRecDepth 100000 in
theorem a_k114 : Cond.code yX9_letter cX9_letter 5 (some .int) ∈ a_wl := a_kin (i := 851) rfl
set_option maxRecDepth 100000 in
theorem a_k115 : Cond.code yX9_person cX9_person 3 (some .int) ∈ a_wl := a_kin (i := 855) rfl
set_option maxRecDepth 100000 in
theorem a_k116 : Cond.code yX9_points cX9_points 3 (some .int) ∈ a_wl := a_kin (i := 864) rfl
set_option maxRecDepth 100000 in
theorem a_k117 : Cond.code yX9_could cX9_could 5 (some .int) ∈ a_wl := a_kin (i := 873) rfl
set_option maxRecDepth 100000 in
theorem a_k118 : Cond.code yX9_kept cX9_kept 3 (some .int) ∈ a_wl := a_kin (i := 925) rfl
set_option maxRecDepth 100000 in
theorem a_k119 : Cond.code yX9_wave cX9_wave 3 (some .int) ∈ a_wl := a_kin (i := 934) rfl
set_option maxRecDepth 100000 in
theorem a_k120 : Cond.code yX9_would cX9_would 4 (some .int) ∈ a_wl := a_kin (i := 952) rfl
set_option maxRecDepth 100000 in
theorem a_k121 : Cond.code yX9_first cX9_first 3 (some .int) ∈ a_wl := a_kin (i := 1015) rfl
set_option maxRecDepth 100000 in
theorem a_k122 : Cond.code yX9_best cX9_best 7 (some .int) ∈ a_wl := a_kin (i := 1019) rfl
set_option maxRecDepth 100000 in
theorem a_k123 : Cond.code yX9_study cX9_study 5 (some .int) ∈ a_wl := a_kin (i := 1028) rfl
set_option maxRecDepth 100000 in
theorem a_k124 : Cond.code yX9_change cX9_change 6 (some .int) ∈ a_wl := a_kin (i := 1037) rfl
set_option maxRecDepth 100000 in
theorem a_k125 : Cond.code yX9_ring cX9_ring 4 (some .int) ∈ a_wl := a_kin (i := 1080) rfl
set_option maxRecDepth 100000 in
theorem a_k126 : Cond.code yX9_odds cX9_odds 9 (some .int) ∈ a_wl := a_kin (i := 1084) rfl
set_option maxRecDepth 100000 in
theorem a_k127 : Cond.code yX9_go cX9_go 2 (some .int) ∈ a_wl := a_kin (i := 1089) rfl
theorem a_kc7 : ∀ m ∈ a_mt7, a_kw m ∈ a_wl := by unfold a_mt7; exact List.forall_mem_cons.mpr ⟨a_k112, List.forall_mem_cons.mpr ⟨a_k113, List.forall_mem_cons.mpr ⟨a_k114, List.forall_mem_cons.mpr ⟨a_k115, List.forall_mem_cons.mpr ⟨a_k116, List.forall_mem_cons.mpr ⟨a_k117, List.forall_mem_cons.mpr ⟨a_k118, List.forall_mem_cons.mpr ⟨a_k119, List.forall_mem_cons.mpr ⟨a_k120, List.forall_mem_cons.mpr ⟨a_k121, List.forall_mem_cons.mpr ⟨a_k122, List.forall_mem_cons.mpr ⟨a_k123, List.forall_mem_cons.mpr ⟨a_k124, List.forall_mem_cons.mpr ⟨a_k125, List.forall_mem_cons.mpr ⟨a_k126, List.forall_mem_cons.mpr ⟨a_k127, fun _ h => absurd h List.not_mem_nil⟩⟩⟩⟩⟩⟩⟩⟩⟩⟩⟩⟩⟩⟩⟩⟩
set_option maxRecDepth 100000 in
theorem a_k128 : Cond.code yX9_call cX9_call 2 (some .int) ∈ a_wl := a_kin (i := 1103) rfl
set_option maxRecDepth 100000 in
theorem a_k129 : Cond.code yX9_watch cX9_watch 4 (some .boolean) ∈ a_wl := a_kin (i := 1107) rfl
set_option maxRecDepth 100000 in
theorem a_k130 : Cond.code yX9_teach cX9_teach 6 (some .int) ∈ a_wl := a_kin (i := 1111) rfl
set_option maxRecDepth 100000 in
theorem a_k131 : Cond.code yX9_bells cX9_bells 4 (some .int) ∈ a_wl := a_kin (i := 1116) rfl
set_option maxRecDepth 100000 in
theorem a_k132 : Cond.code yX9_undo cX9_undo 1 (some .boolean) ∈ a_wl := a_kin (i := 1135) rfl
set_option maxRecDepth 100000 in
theorem a_k133 : Cond.code yX9_seed cX9_seed 2 (some .boolean) ∈ a_wl := a_kin (i := 1144) rfl
set_option maxRecDepth 100000 in
theorem a_k134 : Cond.code yX9_slips cX9_slips 3 (some .int) ∈ a_wl := a_kin (i := 1148) rfl
set_option maxRecDepth 100000 in
theorem a_k135 : Cond.code yX9_who cX9_who 3 (some .int) ∈ a_wl := a_kin (i := 1157) rfl
set_option maxRecDepth 100000 in
theorem a_k136 : Cond.code yX9_ask cX9_ask 3 (some .long) ∈ a_wl := a_kin (i := 1165) rfl
set_option maxRecDepth 100000 in
theorem a_k137 : Cond.code yX9_image cX9_image 4 (some .int) ∈ a_wl := a_kin (i := 1223) rfl
set_option maxRecDepth 100000 in
theorem a_k138 : Cond.code yX9_octet cX9_octet 2 (some .int) ∈ a_wl := a_kin (i := 1230) rfl
set_option maxRecDepth 100000 in
theorem a_k139 : Cond.code yX9_on cX9_on 2 (some .boolean) ∈ a_wl := a_kin (i := 1234) rfl
set_option maxRecDepth 100000 in
theorem a_k140 : Cond.code yX9_status cX9_status 2 (some .int) ∈ a_wl := a_kin (i := 1246) rfl
set_option maxRecDepth 100000 in
theorem a_k141 : Cond.code yX9_refuse cX9_refuse 2 (some .int) ∈ a_wl := a_kin (i := 608) rfl
set_option maxRecDepth 100000 in
theorem a_k142 : Cond.code yX9_isPerson cX9_isPerson 2 (some .boolean) ∈ a_wl := a_kin (i := 859) rfl
set_option maxRecDepth 100000 in
theorem a_k143 : Cond.code yX9_isTask cX9_isTask 2 (some .boolean) ∈ a_wl := a_kin (i := 877) rfl
theorem a_kc8 : ∀ m ∈ a_mt8, a_kw m ∈ a_wl := by unfold a_mt8; exact List.forall_mem_cons.mpr ⟨a_k128, List.forall_mem_cons.mpr ⟨a_k129, List.forall_mem_cons.mpr ⟨a_k130, List.forall_mem_cons.mpr ⟨a_k131, List.forall_mem_cons.mpr ⟨a_k132, List.forall_mem_cons.mpr ⟨a_k133, List.forall_mem_cons.mpr ⟨a_k134, List.forall_mem_cons.mpr ⟨a_k135, List.forall_mem_cons.mpr ⟨a_k136, List.forall_mem_cons.mpr ⟨a_k137, List.forall_mem_cons.mpr ⟨a_k138, List.forall_mem_cons.mpr ⟨a_k139, List.forall_mem_cons.mpr ⟨a_k140, List.forall_mem_cons.mpr ⟨a_k141, List.forall_mem_cons.mpr ⟨a_k142, List.forall_mem_cons.mpr ⟨a_k143, fun _ h => absurd h List.not_mem_nil⟩⟩⟩⟩⟩⟩⟩⟩⟩⟩⟩⟩⟩⟩⟩⟩
set_option maxRecDepth 100000 in
theorem a_k144 : Cond.code yX9_isClock cX9_isClock 2 (some .boolean) ∈ a_wl := a_kin (i := 881) rfl
set_option maxRecDepth 100000 in
theorem a_k145 : Cond.code yX9_isHere cX9_isHere 2 (some .boolean) ∈ a_wl := a_kin (i := 938) rfl
set_option maxRecDepth 100000 in
theorem a_k146 : Cond.code yX9_feedNumber cX9_feedNumber 3 none ∈ a_wl := a_kin (i := 614) rfl
set_option maxRecDepth 100000 in
theorem a_k147 : Cond.code yX9_countAway cX9_countAway 1 (some .int) ∈ a_wl := a_kin (i := 830) rfl
set_option maxRecDepth 100000 in
theorem a_k148 : Cond.code yX9_countElsewhere cX9_countElsewhere 4 (some .int) ∈ a_wl := a_kin (i := 838) rfl
set_option maxRecDepth 100000 in
theorem a_k149 : Cond.code yX9_bring cX9_bring 4 none ∈ a_wl := a_kin (i := 961) rfl
set_option maxRecDepth 100000 in
theorem a_k150 : Cond.code yX9_hoursTillNoon cX9_hoursTillNoon 1 (some .int) ∈ a_wl := a_kin (i := 1120) rfl
set_option maxRecDepth 100000 in
theorem a_k151 : Cond.code yX9_ringBell cX9_ringBell 3 none ∈ a_wl := a_kin (i := 1127) rfl
set_option maxRecDepth 100000 in
theorem a_k152 : Cond.code yX9_areSlips cX9_areSlips 3 (some .boolean) ∈ a_wl := a_kin (i := 1152) rfl
set_option maxRecDepth 100000 in
theorem a_k153 : Cond.code yX9_fitsSlips cX9_fitsSlips 5 (some .boolean) ∈ a_wl := a_kin (i := 1161) rfl
set_option maxRecDepth 100000 in
theorem a_k154 : Cond.code yX9_answer cX9_answer 4 (some .long) ∈ a_wl := a_kin (i := 1175) rfl
set_option maxRecDepth 100000 in
theorem a_k155 : Cond.code yX9_checkOf cX9_checkOf 4 (some .int) ∈ a_wl := a_kin (i := 1226) rfl
set_option maxRecDepth 100000 in
theorem a_k156 : Cond.code yX9_isImage cX9_isImage 10 (some .boolean) ∈ a_wl := a_kin (i := 1238) rfl
set_option maxRecDepth 100000 in
theorem a_k157 : Cond.code yX9_takeImage cX9_takeImage 5 none ∈ a_wl := a_kin (i := 1242) rfl
set_option maxRecDepth 100000 in
theorem a_k158 : Cond.code yX10_init cX10_init 1 none ∈ a_wl := a_kin (i := 1251) rfl
set_option maxRecDepth 100000 in
theorem a_k159 : Cond.code yX10_isIn cX10_isIn 6 (some .boolean) ∈ a_wl := a_kin (i := 1657) rfl
theorem a_kc9 : ∀ m ∈ a_mt9, a_kw m ∈ a_wl := by unfold a_mt9; exact List.forall_mem_cons.mpr ⟨a_k144, List.forall_mem_cons.mpr ⟨a_k145, List.forall_mem_cons.mpr ⟨a_k146, List.forall_mem_cons.mpr ⟨a_k147, List.forall_mem_cons.mpr ⟨a_k148, List.forall_mem_cons.mpr ⟨a_k149, List.forall_mem_cons.mpr ⟨a_k150, List.forall_mem_cons.mpr ⟨a_k151, List.forall_mem_cons.mpr ⟨a_k152, List.forall_mem_cons.mpr ⟨a_k153, List.forall_mem_cons.mpr ⟨a_k154, List.forall_mem_cons.mpr ⟨a_k155, List.forall_mem_cons.mpr ⟨a_k156, List.forall_mem_cons.mpr ⟨a_k157, List.forall_mem_cons.mpr ⟨a_k158, List.forall_mem_cons.mpr ⟨a_k159, fun _ h => absurd h List.not_mem_nil⟩⟩⟩⟩⟩⟩⟩⟩⟩⟩⟩⟩⟩⟩⟩⟩
set_option maxRecDepth 100000 in
theorem a_k160 : Cond.code yX10_feed cX10_feed 8 (some .int) ∈ a_wl := a_kin (i := 1586) rfl
set_option maxRecDepth 100000 in
theorem a_k161 : Cond.code yX10_end cX10_end 2 (some .boolean) ∈ a_wl := a_kin (i := 1590) rfl
set_option maxRecDepth 100000 in
theorem a_k162 : Cond.code yX10_fail cX10_fail 3 none ∈ a_wl := a_kin (i := 1606) rfl
set_option maxRecDepth 100000 in
theorem a_k163 : Cond.code yX10_isLetter cX10_isLetter 1 (some .boolean) ∈ a_wl := a_kin (i := 1617) rfl
set_option maxRecDepth 100000 in
theorem a_k164 : Cond.code yX10_isDigit cX10_isDigit 1 (some .boolean) ∈ a_wl := a_kin (i := 1654) rfl
set_option maxRecDepth 100000 in
theorem a_k165 : Cond.code yX10_look cX10_look 1 (some .int) ∈ a_wl := a_kin (i := 1598) rfl
set_option maxRecDepth 100000 in
theorem a_k166 : Cond.code yX10_isHere cX10_isHere 4 (some .boolean) ∈ a_wl := a_kin (i := 1614) rfl
set_option maxRecDepth 100000 in
theorem a_k167 : Cond.code yX10_takes cX10_takes 2 (some .boolean) ∈ a_wl := a_kin (i := 1610) rfl
set_option maxRecDepth 100000 in
theorem a_k168 : Cond.code yX10_asks cX10_asks 2 none ∈ a_wl := a_kin (i := 1647) rfl
set_option maxRecDepth 100000 in
theorem a_k169 : Cond.code yX10_takesSign cX10_takesSign 2 (some .boolean) ∈ a_wl := a_kin (i := 1713) rfl
set_option maxRecDepth 100000 in
theorem a_k170 : Cond.code yX10_asksSign cX10_asksSign 2 none ∈ a_wl := a_kin (i := 1709) rfl
set_option maxRecDepth 100000 in
theorem a_k171 : Cond.code yX10_number cX10_number 5 (some .int) ∈ a_wl := a_kin (i := 1651) rfl
set_option maxRecDepth 100000 in
theorem a_k172 : Cond.code yX10_isOwnHere cX10_isOwnHere 2 (some .boolean) ∈ a_wl := a_kin (i := 1637) rfl
set_option maxRecDepth 100000 in
theorem a_k173 : Cond.code yX10_name cX10_name 3 (some .long) ∈ a_wl := a_kin (i := 1633) rfl
set_option maxRecDepth 100000 in
theorem a_k174 : Cond.code yX10_isAllowed cX10_isAllowed 2 (some .boolean) ∈ a_wl := a_kin (i := 1701) rfl
set_option maxRecDepth 100000 in
theorem a_k175 : Cond.code yX10_isFull cX10_isFull 4 (some .boolean) ∈ a_wl := a_kin (i := 1625) rfl
theorem a_kc10 : ∀ m ∈ a_mt10, a_kw m ∈ a_wl := by unfold a_mt10; exact List.forall_mem_cons.mpr ⟨a_k160, List.forall_mem_cons.mpr ⟨a_k161, List.forall_mem_cons.mpr ⟨a_k162, List.forall_mem_cons.mpr ⟨a_k163, List.forall_mem_cons.mpr ⟨a_k164, List.forall_mem_cons.mpr ⟨a_k165, List.forall_mem_cons.mpr ⟨a_k166, List.forall_mem_cons.mpr ⟨a_k167, List.forall_mem_cons.mpr ⟨a_k168, List.forall_mem_cons.mpr ⟨a_k169, List.forall_mem_cons.mpr ⟨a_k170, List.forall_mem_cons.mpr ⟨a_k171, List.forall_mem_cons.mpr ⟨a_k172, List.forall_mem_cons.mpr ⟨a_k173, List.forall_mem_cons.mpr ⟨a_k174, List.forall_mem_cons.mpr ⟨a_k175, fun _ h => absurd h List.not_mem_nil⟩⟩⟩⟩⟩⟩⟩⟩⟩⟩⟩⟩⟩⟩⟩⟩
set_option maxRecDepth 100000 in
theorem a_k176 : Cond.code yX10_nameOf cX10_nameOf 5 (some .int) ∈ a_wl := a_kin (i := 1643) rfl
set_option maxRecDepth 100000 in
theorem a_k177 : Cond.code yX10_newName cX10_newName 4 (some .long) ∈ a_wl := a_kin (i := 1629) rfl
set_option maxRecDepth 100000 in
theorem a_k178 : Cond.code yX10_oneOf cX10_oneOf 5 (some .int) ∈ a_wl := a_kin (i := 1669) rfl
set_option maxRecDepth 100000 in
theorem a_k179 : Cond.code yX10_personTold cX10_personTold 7 none ∈ a_wl := a_kin (i := 1621) rfl
set_option maxRecDepth 100000 in
theorem a_k180 : Cond.code yX10_taskTold cX10_taskTold 5 none ∈ a_wl := a_kin (i := 1661) rfl
set_option maxRecDepth 100000 in
theorem a_k181 : Cond.code yX10_dutyTold cX10_dutyTold 6 none ∈ a_wl := a_kin (i := 1665) rfl
set_option maxRecDepth 100000 in
theorem a_k182 : Cond.code yX10_coverTold cX10_coverTold 3 none ∈ a_wl := a_kin (i := 1673) rfl
set_option maxRecDepth 100000 in
theorem a_k183 : Cond.code yX10_knownTold cX10_knownTold 4 none ∈ a_wl := a_kin (i := 1677) rfl
set_option maxRecDepth 100000 in
theorem a_k184 : Cond.code yX10_codesTold cX10_codesTold 4 none ∈ a_wl := a_kin (i := 1681) rfl
set_option maxRecDepth 100000 in
theorem a_k185 : Cond.code yX10_statementTold cX10_statementTold 2 none ∈ a_wl := a_kin (i := 1602) rfl
set_option maxRecDepth 100000 in
theorem a_k186 : Cond.code yX10_city cX10_city 2 (some .int) ∈ a_wl := a_kin (i := 1594) rfl
set_option maxRecDepth 100000 in
theorem a_k187 : Cond.code yX10_stands cX10_stands 3 none ∈ a_wl := a_kin (i := 1772) rfl
set_option maxRecDepth 100000 in
theorem a_k188 : Cond.code yX10_fault cX10_fault 2 (some .int) ∈ a_wl := a_kin (i := 1776) rfl
set_option maxRecDepth 100000 in
theorem a_k189 : Cond.code yX10_peopleMany cX10_peopleMany 1 (some .int) ∈ a_wl := a_kin (i := 1784) rfl
set_option maxRecDepth 100000 in
theorem a_k190 : Cond.code yX10_dutyMany cX10_dutyMany 1 (some .int) ∈ a_wl := a_kin (i := 1788) rfl
set_option maxRecDepth 100000 in
theorem a_k191 : Cond.code yX10_isPerson cX10_isPerson 2 (some .boolean) ∈ a_wl := a_kin (i := 1813) rfl
theorem a_kc11 : ∀ m ∈ a_mt11, a_kw m ∈ a_wl := by unfold a_mt11; exact List.forall_mem_cons.mpr ⟨a_k176, List.forall_mem_cons.mpr ⟨a_k177, List.forall_mem_cons.mpr ⟨a_k178, List.forall_mem_cons.mpr ⟨a_k179, List.forall_mem_cons.mpr ⟨a_k180, List.forall_mem_cons.mpr ⟨a_k181, List.forall_mem_cons.mpr ⟨a_k182, List.forall_mem_cons.mpr ⟨a_k183, List.forall_mem_cons.mpr ⟨a_k184, List.forall_mem_cons.mpr ⟨a_k185, List.forall_mem_cons.mpr ⟨a_k186, List.forall_mem_cons.mpr ⟨a_k187, List.forall_mem_cons.mpr ⟨a_k188, List.forall_mem_cons.mpr ⟨a_k189, List.forall_mem_cons.mpr ⟨a_k190, List.forall_mem_cons.mpr ⟨a_k191, fun _ h => absurd h List.not_mem_nil⟩⟩⟩⟩⟩⟩⟩⟩⟩⟩⟩⟩⟩⟩⟩⟩
set_option maxRecDepth 100000 in
theorem a_k192 : Cond.code yX10_wardOf cX10_wardOf 2 (some .int) ∈ a_wl := a_kin (i := 1817) rfl
set_option maxRecDepth 100000 in
theorem a_k193 : Cond.code yX10_hardOf cX10_hardOf 2 (some .int) ∈ a_wl := a_kin (i := 1858) rfl
set_option maxRecDepth 100000 in
theorem a_k194 : Cond.code yX10_dutyOf cX10_dutyOf 3 (some .int) ∈ a_wl := a_kin (i := 1829) rfl
set_option maxRecDepth 100000 in
theorem a_k195 : Cond.code yX10_livesNow cX10_livesNow 2 (some .int) ∈ a_wl := a_kin (i := 1796) rfl
set_option maxRecDepth 100000 in
theorem a_k196 : Cond.code yX10_liveNow cX10_liveNow 3 none ∈ a_wl := a_kin (i := 1908) rfl
set_option maxRecDepth 100000 in
theorem a_k197 : Cond.code yX10_watches cX10_watches 2 (some .int) ∈ a_wl := a_kin (i := 1821) rfl
set_option maxRecDepth 100000 in
theorem a_k198 : Cond.code yX10_pointsOf cX10_pointsOf 3 (some .int) ∈ a_wl := a_kin (i := 1837) rfl
set_option maxRecDepth 100000 in
theorem a_k199 : Cond.code yX10_knowsNow cX10_knowsNow 4 none ∈ a_wl := a_kin (i := 1943) rfl
set_option maxRecDepth 100000 in
theorem a_k200 : Cond.code yX10_whoLives cX10_whoLives 3 (some .int) ∈ a_wl := a_kin (i := 1800) rfl
set_option maxRecDepth 100000 in
theorem a_k201 : Cond.code yX10_putsAside cX10_putsAside 2 none ∈ a_wl := a_kin (i := 1900) rfl
set_option maxRecDepth 100000 in
theorem a_k202 : Cond.code yX10_takesBack cX10_takesBack 2 none ∈ a_wl := a_kin (i := 1912) rfl
set_option maxRecDepth 100000 in
theorem a_k203 : Cond.code yX10_codesTell cX10_codesTell 4 (some .long) ∈ a_wl := a_kin (i := 1862) rfl
set_option maxRecDepth 100000 in
theorem a_k204 : Cond.code yX10_made cX10_made 9 (some .int) ∈ a_wl := a_kin (i := 1939) rfl
set_option maxRecDepth 100000 in
theorem a_k205 : Cond.code yX10_canBy cX10_canBy 6 (some .boolean) ∈ a_wl := a_kin (i := 1854) rfl
set_option maxRecDepth 100000 in
theorem a_k206 : Cond.code yX10_canDo cX10_canDo 5 (some .boolean) ∈ a_wl := a_kin (i := 1850) rfl
set_option maxRecDepth 100000 in
theorem a_k207 : Cond.code yX10_notices cX10_notices 6 (some .boolean) ∈ a_wl := a_kin (i := 1955) rfl
theorem a_kc12 : ∀ m ∈ a_mt12, a_kw m ∈ a_wl := by unfold a_mt12; exact List.forall_mem_cons.mpr ⟨a_k192, List.forall_mem_cons.mpr ⟨a_k193, List.forall_mem_cons.mpr ⟨a_k194, List.forall_mem_cons.mpr ⟨a_k195, List.forall_mem_cons.mpr ⟨a_k196, List.forall_mem_cons.mpr ⟨a_k197, List.forall_mem_cons.mpr ⟨a_k198, List.forall_mem_cons.mpr ⟨a_k199, List.forall_mem_cons.mpr ⟨a_k200, List.forall_mem_cons.mpr ⟨a_k201, List.forall_mem_cons.mpr ⟨a_k202, List.forall_mem_cons.mpr ⟨a_k203, List.forall_mem_cons.mpr ⟨a_k204, List.forall_mem_cons.mpr ⟨a_k205, List.forall_mem_cons.mpr ⟨a_k206, List.forall_mem_cons.mpr ⟨a_k207, fun _ h => absurd h List.not_mem_nil⟩⟩⟩⟩⟩⟩⟩⟩⟩⟩⟩⟩⟩⟩⟩⟩
set_option maxRecDepth 100000 in
theorem a_k208 : Cond.code yX10_clearsDried cX10_clearsDried 2 none ∈ a_wl := a_kin (i := 1920) rfl
set_option maxRecDepth 100000 in
theorem a_k209 : Cond.code yX10_happens cX10_happens 5 none ∈ a_wl := a_kin (i := 1951) rfl
set_option maxRecDepth 100000 in
theorem a_k210 : Cond.code yX10_nightComes cX10_nightComes 3 none ∈ a_wl := a_kin (i := 1935) rfl
set_option maxRecDepth 100000 in
theorem a_k211 : Cond.code yX10_dutyComes cX10_dutyComes 6 none ∈ a_wl := a_kin (i := 1947) rfl
set_option maxRecDepth 100000 in
theorem a_k212 : Cond.code yX10_hasDuty cX10_hasDuty 4 (some .boolean) ∈ a_wl := a_kin (i := 1959) rfl
set_option maxRecDepth 100000 in
theorem a_k213 : Cond.code yX10_hourComes cX10_hourComes 4 none ∈ a_wl := a_kin (i := 1931) rfl
set_option maxRecDepth 100000 in
theorem a_k214 : Cond.code yX10_hoursCome cX10_hoursCome 3 none ∈ a_wl := a_kin (i := 1927) rfl
set_option maxRecDepth 100000 in
theorem a_k215 : Cond.code yX10_isCalled cX10_isCalled 4 none ∈ a_wl := a_kin (i := 1904) rfl
set_option maxRecDepth 100000 in
theorem a_k216 : Cond.code yX10_countOf cX10_countOf 4 (some .int) ∈ a_wl := a_kin (i := 1792) rfl
set_option maxRecDepth 100000 in
theorem a_k217 : Cond.code yX10_has cX10_has 2 (some .int) ∈ a_wl := a_kin (i := 1780) rfl
set_option maxRecDepth 100000 in
theorem a_k218 : Cond.code yX10_letter cX10_letter 9 (some .int) ∈ a_wl := a_kin (i := 1804) rfl
set_option maxRecDepth 100000 in
theorem a_k219 : Cond.code yX10_dutiesOf cX10_dutiesOf 4 (some .int) ∈ a_wl := a_kin (i := 1825) rfl
set_option maxRecDepth 100000 in
theorem a_k220 : Cond.code yX10_person cX10_person 3 (some .int) ∈ a_wl := a_kin (i := 1809) rfl
set_option maxRecDepth 100000 in
theorem a_k221 : Cond.code yX10_points cX10_points 3 (some .int) ∈ a_wl := a_kin (i := 1833) rfl
set_option maxRecDepth 100000 in
theorem a_k222 : Cond.code yX10_isTask cX10_isTask 2 (some .boolean) ∈ a_wl := a_kin (i := 1845) rfl
set_option maxRecDepth 100000 in
theorem a_k223 : Cond.code yX10_could cX10_could 5 (some .int) ∈ a_wl := a_kin (i := 1841) rfl
theorem a_kc13 : ∀ m ∈ a_mt13, a_kw m ∈ a_wl := by unfold a_mt13; exact List.forall_mem_cons.mpr ⟨a_k208, List.forall_mem_cons.mpr ⟨a_k209, List.forall_mem_cons.mpr ⟨a_k210, List.forall_mem_cons.mpr ⟨a_k211, List.forall_mem_cons.mpr ⟨a_k212, List.forall_mem_cons.mpr ⟨a_k213, List.forall_mem_cons.mpr ⟨a_k214, List.forall_mem_cons.mpr ⟨a_k215, List.forall_mem_cons.mpr ⟨a_k216, List.forall_mem_cons.mpr ⟨a_k217, List.forall_mem_cons.mpr ⟨a_k218, List.forall_mem_cons.mpr ⟨a_k219, List.forall_mem_cons.mpr ⟨a_k220, List.forall_mem_cons.mpr ⟨a_k221, List.forall_mem_cons.mpr ⟨a_k222, List.forall_mem_cons.mpr ⟨a_k223, fun _ h => absurd h List.not_mem_nil⟩⟩⟩⟩⟩⟩⟩⟩⟩⟩⟩⟩⟩⟩⟩⟩
set_option maxRecDepth 100000 in
theorem a_k224 : Cond.code yX10_kept cX10_kept 3 (some .int) ∈ a_wl := a_kin (i := 1887) rfl
set_option maxRecDepth 100000 in
theorem a_k225 : Cond.code yX10_isHere0 cX10_isHere0 2 (some .boolean) ∈ a_wl := a_kin (i := 1896) rfl
set_option maxRecDepth 100000 in
theorem a_k226 : Cond.code yX10_wave cX10_wave 3 (some .int) ∈ a_wl := a_kin (i := 1892) rfl
set_option maxRecDepth 100000 in
theorem a_k227 : Cond.code yX10_least cX10_least 2 (some .int) ∈ a_wl := a_kin (i := 1923) rfl
set_option maxRecDepth 100000 in
theorem a_k228 : Cond.code yX10_would cX10_would 3 (some .int) ∈ a_wl := a_kin (i := 1916) rfl
set_option maxRecDepth 100000 in
theorem a_k229 : Cond.code yX10_first cX10_first 3 (some .int) ∈ a_wl := a_kin (i := 1963) rfl
set_option maxRecDepth 100000 in
theorem a_k230 : Cond.code yX10_doable cX10_doable 6 (some .int) ∈ a_wl := a_kin (i := 1972) rfl
set_option maxRecDepth 100000 in
theorem a_k231 : Cond.code yX10_best cX10_best 7 (some .int) ∈ a_wl := a_kin (i := 1968) rfl
set_option maxRecDepth 100000 in
theorem a_k232 : Cond.code yX10_study cX10_study 5 (some .int) ∈ a_wl := a_kin (i := 1976) rfl
set_option maxRecDepth 100000 in
theorem a_k233 : Cond.code yX10_laysChange cX10_laysChange 7 none ∈ a_wl := a_kin (i := 1984) rfl
set_option maxRecDepth 100000 in
theorem a_k234 : Cond.code yX10_change cX10_change 5 (some .int) ∈ a_wl := a_kin (i := 1980) rfl
set_option maxRecDepth 100000 in
theorem a_k235 : Cond.code yX10_ring cX10_ring 4 (some .int) ∈ a_wl := a_kin (i := 1988) rfl
set_option maxRecDepth 100000 in
theorem a_k236 : Cond.code yX10_odds cX10_odds 10 (some .int) ∈ a_wl := a_kin (i := 1992) rfl
set_option maxRecDepth 100000 in
theorem a_k237 : Cond.code yX10_keeps cX10_keeps 2 none ∈ a_wl := a_kin (i := 2011) rfl
set_option maxRecDepth 100000 in
theorem a_k238 : Cond.code yX10_undo cX10_undo 2 (some .boolean) ∈ a_wl := a_kin (i := 1998) rfl
set_option maxRecDepth 100000 in
theorem a_k239 : Cond.code yX10_refuses cX10_refuses 2 (some .int) ∈ a_wl := a_kin (i := 2007) rfl
theorem a_kc14 : ∀ m ∈ a_mt14, a_kw m ∈ a_wl := by unfold a_mt14; exact List.forall_mem_cons.mpr ⟨a_k224, List.forall_mem_cons.mpr ⟨a_k225, List.forall_mem_cons.mpr ⟨a_k226, List.forall_mem_cons.mpr ⟨a_k227, List.forall_mem_cons.mpr ⟨a_k228, List.forall_mem_cons.mpr ⟨a_k229, List.forall_mem_cons.mpr ⟨a_k230, List.forall_mem_cons.mpr ⟨a_k231, List.forall_mem_cons.mpr ⟨a_k232, List.forall_mem_cons.mpr ⟨a_k233, List.forall_mem_cons.mpr ⟨a_k234, List.forall_mem_cons.mpr ⟨a_k235, List.forall_mem_cons.mpr ⟨a_k236, List.forall_mem_cons.mpr ⟨a_k237, List.forall_mem_cons.mpr ⟨a_k238, List.forall_mem_cons.mpr ⟨a_k239, fun _ h => absurd h List.not_mem_nil⟩⟩⟩⟩⟩⟩⟩⟩⟩⟩⟩⟩⟩⟩⟩⟩
set_option maxRecDepth 100000 in
theorem a_k240 : Cond.code yX10_go cX10_go 2 (some .int) ∈ a_wl := a_kin (i := 2002) rfl
set_option maxRecDepth 100000 in
theorem a_k241 : Cond.code yX10_call cX10_call 2 (some .int) ∈ a_wl := a_kin (i := 2015) rfl
set_option maxRecDepth 100000 in
theorem a_k242 : Cond.code yX10_watch cX10_watch 3 (some .boolean) ∈ a_wl := a_kin (i := 2019) rfl
set_option maxRecDepth 100000 in
theorem a_k243 : Cond.code yX10_teach cX10_teach 5 (some .int) ∈ a_wl := a_kin (i := 2023) rfl
set_option maxRecDepth 100000 in
theorem a_k244 : Cond.code yX10_seed cX10_seed 2 (some .boolean) ∈ a_wl := a_kin (i := 2027) rfl
set_option maxRecDepth 100000 in
theorem a_k245 : Cond.code yX10_drawOf cX10_drawOf 2 (some .int) ∈ a_wl := a_kin (i := 2044) rfl
set_option maxRecDepth 100000 in
theorem a_k246 : Cond.code yX10_bellRings cX10_bellRings 2 none ∈ a_wl := a_kin (i := 2040) rfl
set_option maxRecDepth 100000 in
theorem a_k247 : Cond.code yX10_tillNoon cX10_tillNoon 1 (some .int) ∈ a_wl := a_kin (i := 2036) rfl
set_option maxRecDepth 100000 in
theorem a_k248 : Cond.code yX10_bells cX10_bells 3 (some .int) ∈ a_wl := a_kin (i := 2031) rfl
set_option maxRecDepth 100000 in
theorem a_k249 : Cond.code yX10_slips cX10_slips 5 (some .int) ∈ a_wl := a_kin (i := 2052) rfl
set_option maxRecDepth 100000 in
theorem a_k250 : Cond.code yX10_isAsSlips cX10_isAsSlips 3 (some .boolean) ∈ a_wl := a_kin (i := 2060) rfl
set_option maxRecDepth 100000 in
theorem a_k251 : Cond.code yX10_who cX10_who 3 (some .int) ∈ a_wl := a_kin (i := 2056) rfl
set_option maxRecDepth 100000 in
theorem a_k252 : Cond.code yX10_qCode cX10_qCode 2 none ∈ a_wl := a_kin (i := 1721) rfl
set_option maxRecDepth 100000 in
theorem a_k253 : Cond.code yX10_qOpens cX10_qOpens 3 none ∈ a_wl := a_kin (i := 1705) rfl
set_option maxRecDepth 100000 in
theorem a_k254 : Cond.code yX10_qIsOn cX10_qIsOn 2 (some .boolean) ∈ a_wl := a_kin (i := 1748) rfl
set_option maxRecDepth 100000 in
theorem a_k255 : Cond.code yX10_qDrops cX10_qDrops 1 none ∈ a_wl := a_kin (i := 1729) rfl
theorem a_kc15 : ∀ m ∈ a_mt15, a_kw m ∈ a_wl := by unfold a_mt15; exact List.forall_mem_cons.mpr ⟨a_k240, List.forall_mem_cons.mpr ⟨a_k241, List.forall_mem_cons.mpr ⟨a_k242, List.forall_mem_cons.mpr ⟨a_k243, List.forall_mem_cons.mpr ⟨a_k244, List.forall_mem_cons.mpr ⟨a_k245, List.forall_mem_cons.mpr ⟨a_k246, List.forall_mem_cons.mpr ⟨a_k247, List.forall_mem_cons.mpr ⟨a_k248, List.forall_mem_cons.mpr ⟨a_k249, List.forall_mem_cons.mpr ⟨a_k250, List.forall_mem_cons.mpr ⟨a_k251, List.forall_mem_cons.mpr ⟨a_k252, List.forall_mem_cons.mpr ⟨a_k253, List.forall_mem_cons.mpr ⟨a_k254, List.forall_mem_cons.mpr ⟨a_k255, fun _ h => absurd h List.not_mem_nil⟩⟩⟩⟩⟩⟩⟩⟩⟩⟩⟩⟩⟩⟩⟩⟩
set_option maxRecDepth 100000 in
theorem a_k256 : Cond.code yX10_qIsBracket cX10_qIsBracket 1 (some .boolean) ∈ a_wl := a_kin (i := 1740) rfl
set_option maxRecDepth 100000 in
theorem a_k257 : Cond.code yX10_qBracket cX10_qBracket 2 (some .int) ∈ a_wl := a_kin (i := 1737) rfl
set_option maxRecDepth 100000 in
theorem a_k258 : Cond.code yX10_qDropsToBracket cX10_qDropsToBracket 1 none ∈ a_wl := a_kin (i := 1744) rfl
set_option maxRecDepth 100000 in
theorem a_k259 : Cond.code yX10_qWordHere cX10_qWordHere 1 (some .int) ∈ a_wl := a_kin (i := 1697) rfl
set_option maxRecDepth 100000 in
theorem a_k260 : Cond.code yX10_qWordOf cX10_qWordOf 4 (some .int) ∈ a_wl := a_kin (i := 1693) rfl
set_option maxRecDepth 100000 in
theorem a_k261 : Cond.code yX10_qAsksWord cX10_qAsksWord 2 none ∈ a_wl := a_kin (i := 1717) rfl
set_option maxRecDepth 100000 in
theorem a_k262 : Cond.code yX10_qEndsPart cX10_qEndsPart 1 none ∈ a_wl := a_kin (i := 1725) rfl
set_option maxRecDepth 100000 in
theorem a_k263 : Cond.code yX10_qPartTold cX10_qPartTold 6 none ∈ a_wl := a_kin (i := 1689) rfl
set_option maxRecDepth 100000 in
theorem a_k264 : Cond.code yX10_qGoesOn cX10_qGoesOn 2 (some .boolean) ∈ a_wl := a_kin (i := 1733) rfl
set_option maxRecDepth 100000 in
theorem a_k265 : Cond.code yX10_qSums cX10_qSums 3 none ∈ a_wl := a_kin (i := 1685) rfl
set_option maxRecDepth 100000 in
theorem a_k266 : Cond.code yX10_qFact cX10_qFact 2 none ∈ a_wl := a_kin (i := 1756) rfl
set_option maxRecDepth 100000 in
theorem a_k267 : Cond.code yX10_qHasSquare cX10_qHasSquare 2 (some .boolean) ∈ a_wl := a_kin (i := 1768) rfl
set_option maxRecDepth 100000 in
theorem a_k268 : Cond.code yX10_qDropsNots cX10_qDropsNots 1 none ∈ a_wl := a_kin (i := 1760) rfl
set_option maxRecDepth 100000 in
theorem a_k269 : Cond.code yX10_qTest cX10_qTest 3 none ∈ a_wl := a_kin (i := 1752) rfl
set_option maxRecDepth 100000 in
theorem a_k270 : Cond.code yX10_qGoesOnTest cX10_qGoesOnTest 1 (some .boolean) ∈ a_wl := a_kin (i := 1764) rfl
set_option maxRecDepth 100000 in
theorem a_k271 : Cond.code yX10_qClip cX10_qClip 2 (some .long) ∈ a_wl := a_kin (i := 1878) rfl
theorem a_kc16 : ∀ m ∈ a_mt16, a_kw m ∈ a_wl := by unfold a_mt16; exact List.forall_mem_cons.mpr ⟨a_k256, List.forall_mem_cons.mpr ⟨a_k257, List.forall_mem_cons.mpr ⟨a_k258, List.forall_mem_cons.mpr ⟨a_k259, List.forall_mem_cons.mpr ⟨a_k260, List.forall_mem_cons.mpr ⟨a_k261, List.forall_mem_cons.mpr ⟨a_k262, List.forall_mem_cons.mpr ⟨a_k263, List.forall_mem_cons.mpr ⟨a_k264, List.forall_mem_cons.mpr ⟨a_k265, List.forall_mem_cons.mpr ⟨a_k266, List.forall_mem_cons.mpr ⟨a_k267, List.forall_mem_cons.mpr ⟨a_k268, List.forall_mem_cons.mpr ⟨a_k269, List.forall_mem_cons.mpr ⟨a_k270, List.forall_mem_cons.mpr ⟨a_k271, fun _ h => absurd h List.not_mem_nil⟩⟩⟩⟩⟩⟩⟩⟩⟩⟩⟩⟩⟩⟩⟩⟩
set_option maxRecDepth 100000 in
theorem a_k272 : Cond.code yX10_qFloor cX10_qFloor 6 (some .long) ∈ a_wl := a_kin (i := 1883) rfl
set_option maxRecDepth 100000 in
theorem a_k273 : Cond.code yX10_qPuts cX10_qPuts 3 none ∈ a_wl := a_kin (i := 1866) rfl
set_option maxRecDepth 100000 in
theorem a_k274 : Cond.code yX10_qJoins cX10_qJoins 6 none ∈ a_wl := a_kin (i := 1875) rfl
set_option maxRecDepth 100000 in
theorem a_k275 : Cond.code yX10_qPartOf cX10_qPartOf 3 (some .long) ∈ a_wl := a_kin (i := 1870) rfl
set_option maxRecDepth 100000 in
theorem a_k276 : Cond.code yX10_qOf cX10_qOf 5 (some .long) ∈ a_wl := a_kin (i := 2078) rfl
set_option maxRecDepth 100000 in
theorem a_k277 : Cond.code yX10_qTold cX10_qTold 4 (some .long) ∈ a_wl := a_kin (i := 2074) rfl
set_option maxRecDepth 100000 in
theorem a_k278 : Cond.code yX10_qKind cX10_qKind 2 (some .int) ∈ a_wl := a_kin (i := 2069) rfl
set_option maxRecDepth 100000 in
theorem a_k279 : Cond.code yX10_qTakes cX10_qTakes 6 none ∈ a_wl := a_kin (i := 2082) rfl
set_option maxRecDepth 100000 in
theorem a_k280 : Cond.code yX10_ask cX10_ask 4 (some .long) ∈ a_wl := a_kin (i := 2064) rfl
set_option maxRecDepth 100000 in
theorem a_k281 : Cond.code yX10_checked cX10_checked 4 (some .int) ∈ a_wl := a_kin (i := 2093) rfl
set_option maxRecDepth 100000 in
theorem a_k282 : Cond.code yX10_writes cX10_writes 2 none ∈ a_wl := a_kin (i := 2090) rfl
set_option maxRecDepth 100000 in
theorem a_k283 : Cond.code yX10_image cX10_image 3 (some .int) ∈ a_wl := a_kin (i := 2086) rfl
set_option maxRecDepth 100000 in
theorem a_k284 : Cond.code yX10_octet cX10_octet 2 (some .int) ∈ a_wl := a_kin (i := 2097) rfl
set_option maxRecDepth 100000 in
theorem a_k285 : Cond.code yX10_isPersonTold cX10_isPersonTold 5 (some .boolean) ∈ a_wl := a_kin (i := 2109) rfl
set_option maxRecDepth 100000 in
theorem a_k286 : Cond.code yX10_isTold cX10_isTold 4 (some .boolean) ∈ a_wl := a_kin (i := 2105) rfl
set_option maxRecDepth 100000 in
theorem a_k287 : Cond.code yX10_on cX10_on 5 (some .boolean) ∈ a_wl := a_kin (i := 2101) rfl
theorem a_kc17 : ∀ m ∈ a_mt17, a_kw m ∈ a_wl := by unfold a_mt17; exact List.forall_mem_cons.mpr ⟨a_k272, List.forall_mem_cons.mpr ⟨a_k273, List.forall_mem_cons.mpr ⟨a_k274, List.forall_mem_cons.mpr ⟨a_k275, List.forall_mem_cons.mpr ⟨a_k276, List.forall_mem_cons.mpr ⟨a_k277, List.forall_mem_cons.mpr ⟨a_k278, List.forall_mem_cons.mpr ⟨a_k279, List.forall_mem_cons.mpr ⟨a_k280, List.forall_mem_cons.mpr ⟨a_k281, List.forall_mem_cons.mpr ⟨a_k282, List.forall_mem_cons.mpr ⟨a_k283, List.forall_mem_cons.mpr ⟨a_k284, List.forall_mem_cons.mpr ⟨a_k285, List.forall_mem_cons.mpr ⟨a_k286, List.forall_mem_cons.mpr ⟨a_k287, fun _ h => absurd h List.not_mem_nil⟩⟩⟩⟩⟩⟩⟩⟩⟩⟩⟩⟩⟩⟩⟩⟩
set_option maxRecDepth 100000 in
theorem a_k288 : Cond.code yX10_status cX10_status 2 (some .int) ∈ a_wl := a_kin (i := 2113) rfl
set_option maxRecDepth 100000 in
theorem a_k289 : Cond.code Lib.Math.max.name Lib.Math.max.code 2 (some .int) ∈ a_wl := a_kin (i := 182) rfl
set_option maxRecDepth 100000 in
theorem a_k290 : Cond.code Lib.Math.min.name Lib.Math.min.code 2 (some .int) ∈ a_wl := a_kin (i := 213) rfl
set_option maxRecDepth 100000 in
theorem a_k291 : Cond.code Lib.Math.max.name Lib.Math.max.code 2 (some .int) ∈ a_wl := a_kin (i := 182) rfl
set_option maxRecDepth 100000 in
theorem a_k292 : Cond.code Lib.Math.min.name Lib.Math.min.code 2 (some .int) ∈ a_wl := a_kin (i := 213) rfl
set_option maxRecDepth 100000 in
theorem a_k293 : Cond.code yJ9_floorDiv_7cf53 cJ9_floorDiv_7cf53 3 (some .int) ∈ a_wl := a_kin (i := 919) rfl
set_option maxRecDepth 100000 in
theorem a_k294 : Cond.code yJ9_floorMod_7cf53 cJ9_floorMod_7cf53 3 (some .int) ∈ a_wl := a_kin (i := 1123) rfl
set_option maxRecDepth 100000 in
theorem a_k295 : Cond.code yJ6_bitCount_0f7a4 cJ6_bitCount_0f7a4 1 (some .int) ∈ a_wl := a_kin (i := 1055) rfl
set_option maxRecDepth 100000 in
theorem a_k296 : Cond.code yJ0_length_8abf5 cJ0_length_8abf5 1 (some .int) ∈ a_wl := a_kin (i := 233) rfl
set_option maxRecDepth 100000 in
theorem a_k297 : Cond.code yJ0_charAt_5068e cJ0_charAt_5068e 2 (some .char) ∈ a_wl := a_kin (i := 243) rfl
set_option maxRecDepth 100000 in
theorem a_k298 : Cond.code yJ0_coder_7d493 cJ0_coder_7d493 1 (some .byte) ∈ a_wl := a_kin (i := 237) rfl
set_option maxRecDepth 100000 in
theorem a_k299 : Cond.code yJ0_isLatin1_aae02 cJ0_isLatin1_aae02 1 (some .boolean) ∈ a_wl := a_kin (i := 247) rfl
set_option maxRecDepth 100000 in
theorem a_k300 : Cond.code yJ0_checkIndex_df160 cJ0_checkIndex_df160 2 none ∈ a_wl := a_kin (i := 253) rfl
set_option maxRecDepth 100000 in
theorem a_k301 : Cond.code yJ1_charAt_3b067 cJ1_charAt_3b067 2 (some .char) ∈ a_wl := a_kin (i := 250) rfl
set_option maxRecDepth 100000 in
theorem a_k302 : Cond.code yJ3_checkIndex_8e157 cJ3_checkIndex_8e157 3 (some .int) ∈ a_wl := a_kin (i := 258) rfl
theorem a_kc18 : ∀ m ∈ (a_mt18.take 15), a_kw m ∈ a_wl := by unfold a_mt18; exact List.forall_mem_cons.mpr ⟨a_k288, List.forall_mem_cons.mpr ⟨a_k289, List.forall_mem_cons.mpr ⟨a_k290, List.forall_mem_cons.mpr ⟨a_k291, List.forall_mem_cons.mpr ⟨a_k292, List.forall_mem_cons.mpr ⟨a_k293, List.forall_mem_cons.mpr ⟨a_k294, List.forall_mem_cons.mpr ⟨a_k295, List.forall_mem_cons.mpr ⟨a_k296, List.forall_mem_cons.mpr ⟨a_k297, List.forall_mem_cons.mpr ⟨a_k298, List.forall_mem_cons.mpr ⟨a_k299, List.forall_mem_cons.mpr ⟨a_k300, List.forall_mem_cons.mpr ⟨a_k301, List.forall_mem_cons.mpr ⟨a_k302, fun _ h => absurd h List.not_mem_nil⟩⟩⟩⟩⟩⟩⟩⟩⟩⟩⟩⟩⟩⟩⟩
