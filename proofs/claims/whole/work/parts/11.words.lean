theorem in_t {w : Cond} (h : w ∈ tables_1) (g : goodWord w = true) : w ∈ gw := List.mem_filter.mpr ⟨List.mem_append_right _ h, g⟩
theorem in_1 {w : Cond} (h : w ∈ tables_1_1) (g : goodWord w = true) : w ∈ gw := in_t (List.mem_append_left _ h) g
theorem in_2 {w : Cond} (h : w ∈ tables_1_2) (g : goodWord w = true) : w ∈ gw := in_t (List.mem_append_right _ (List.mem_append_left _ h)) g
theorem in_3 {w : Cond} (h : w ∈ tables_1_3) (g : goodWord w = true) : w ∈ gw := in_t (List.mem_append_right _ (List.mem_append_right _ (List.mem_append_left _ h))) g
theorem in_4 {w : Cond} (h : w ∈ tables_1_4) (g : goodWord w = true) : w ∈ gw := in_t (List.mem_append_right _ (List.mem_append_right _ (List.mem_append_right _ (List.mem_append_left _ h)))) g
theorem in_5 {w : Cond} (h : w ∈ tables_1_5) (g : goodWord w = true) : w ∈ gw := in_t (List.mem_append_right _ (List.mem_append_right _ (List.mem_append_right _ (List.mem_append_right _ (List.mem_append_left _ h))))) g
theorem in_6 {w : Cond} (h : w ∈ tables_1_6) (g : goodWord w = true) : w ∈ gw := in_t (List.mem_append_right _ (List.mem_append_right _ (List.mem_append_right _ (List.mem_append_right _ (List.mem_append_right _ (List.mem_append_left _ h)))))) g
theorem in_7 {w : Cond} (h : w ∈ tables_1_7) (g : goodWord w = true) : w ∈ gw := in_t (List.mem_append_right _ (List.mem_append_right _ (List.mem_append_right _ (List.mem_append_right _ (List.mem_append_right _ (List.mem_append_right _ h)))))) g
theorem in_s1 {q : MethodName × Nat} (h : q ∈ lw_privs_1) : Cond.selects q.1.cls q.1 q.1 ∈ gw := List.mem_filter.mpr ⟨List.mem_append_left _ (List.mem_map.mpr ⟨q, (List.mem_append_left _ h), rfl⟩), rfl⟩
theorem in_s2 {q : MethodName × Nat} (h : q ∈ lw_privs_2) : Cond.selects q.1.cls q.1 q.1 ∈ gw := List.mem_filter.mpr ⟨List.mem_append_left _ (List.mem_map.mpr ⟨q, (List.mem_append_right _ (List.mem_append_left _ h)), rfl⟩), rfl⟩
theorem in_s3 {q : MethodName × Nat} (h : q ∈ lw_privs_3) : Cond.selects q.1.cls q.1 q.1 ∈ gw := List.mem_filter.mpr ⟨List.mem_append_left _ (List.mem_map.mpr ⟨q, (List.mem_append_right _ (List.mem_append_right _ (List.mem_append_left _ h))), rfl⟩), rfl⟩
theorem in_s4 {q : MethodName × Nat} (h : q ∈ lw_privs_4) : Cond.selects q.1.cls q.1 q.1 ∈ gw := List.mem_filter.mpr ⟨List.mem_append_left _ (List.mem_map.mpr ⟨q, (List.mem_append_right _ (List.mem_append_right _ (List.mem_append_right _ (List.mem_append_left _ h)))), rfl⟩), rfl⟩
theorem in_s5 {q : MethodName × Nat} (h : q ∈ lw_privs_5) : Cond.selects q.1.cls q.1 q.1 ∈ gw := List.mem_filter.mpr ⟨List.mem_append_left _ (List.mem_map.mpr ⟨q, (List.mem_append_right _ (List.mem_append_right _ (List.mem_append_right _ (List.mem_append_right _ h)))), rfl⟩), rfl⟩
theorem ks_0 : Cond.selects y_st_highest.cls y_st_highest y_st_highest ∈ gw := in_s1 (q := (y_st_highest, 15)) (List.mem_of_getElem? (i := 0) rfl)
theorem ks_1 : Cond.selects y_st_slowestAllowed.cls y_st_slowestAllowed y_st_slowestAllowed ∈ gw := in_s1 (q := (y_st_slowestAllowed, 15)) (List.mem_of_getElem? (i := 1) rfl)
theorem ks_2 : Cond.selects y_nt_drawCandidate.cls y_nt_drawCandidate y_nt_drawCandidate ∈ gw := in_s1 (q := (y_nt_drawCandidate, 11)) (List.mem_of_getElem? (i := 2) rfl)
theorem ks_3 : Cond.selects y_nt_causeAgainst.cls y_nt_causeAgainst y_nt_causeAgainst ∈ gw := in_s1 (q := (y_nt_causeAgainst, 11)) (List.mem_of_getElem? (i := 3) rfl)
theorem ks_4 : Cond.selects y_nt_chooseRates.cls y_nt_chooseRates y_nt_chooseRates ∈ gw := in_s1 (q := (y_nt_chooseRates, 11)) (List.mem_of_getElem? (i := 4) rfl)
theorem ks_5 : Cond.selects y_nt_countTries.cls y_nt_countTries y_nt_countTries ∈ gw := in_s1 (q := (y_nt_countTries, 11)) (List.mem_of_getElem? (i := 5) rfl)
theorem ks_6 : Cond.selects y_nt_endFallback.cls y_nt_endFallback y_nt_endFallback ∈ gw := in_s1 (q := (y_nt_endFallback, 11)) (List.mem_of_getElem? (i := 6) rfl)
theorem ks_7 : Cond.selects y_nt_beginFallback.cls y_nt_beginFallback y_nt_beginFallback ∈ gw := in_s1 (q := (y_nt_beginFallback, 11)) (List.mem_of_getElem? (i := 7) rfl)
theorem ks_8 : Cond.selects y_nt_learnAll.cls y_nt_learnAll y_nt_learnAll ∈ gw := in_s1 (q := (y_nt_learnAll, 11)) (List.mem_of_getElem? (i := 8) rfl)
theorem ks_9 : Cond.selects y_nt_reachAfter.cls y_nt_reachAfter y_nt_reachAfter ∈ gw := in_s1 (q := (y_nt_reachAfter, 11)) (List.mem_of_getElem? (i := 9) rfl)
theorem ks_10 : Cond.selects y_tb_placeInMode.cls y_tb_placeInMode y_tb_placeInMode ∈ gw := in_s1 (q := (y_tb_placeInMode, 4)) (List.mem_of_getElem? (i := 10) rfl)
theorem ks_11 : Cond.selects y_se_place.cls y_se_place y_se_place ∈ gw := in_s1 (q := (y_se_place, 11)) (List.mem_of_getElem? (i := 11) rfl)
theorem ks_12 : Cond.selects y_se_keepIfBetter.cls y_se_keepIfBetter y_se_keepIfBetter ∈ gw := in_s1 (q := (y_se_keepIfBetter, 11)) (List.mem_of_getElem? (i := 12) rfl)
theorem ks_13 : Cond.selects y_rc_errorOfSimulation.cls y_rc_errorOfSimulation y_rc_errorOfSimulation ∈ gw := in_s1 (q := (y_rc_errorOfSimulation, 6)) (List.mem_of_getElem? (i := 13) rfl)
theorem ks_14 : Cond.selects y_rc_digestOfStation.cls y_rc_digestOfStation y_rc_digestOfStation ∈ gw := in_s1 (q := (y_rc_digestOfStation, 6)) (List.mem_of_getElem? (i := 14) rfl)
theorem ks_15 : Cond.selects y_m_act.cls y_m_act y_m_act ∈ gw := in_s1 (q := (y_m_act, 8)) (List.mem_of_getElem? (i := 15) rfl)
theorem ks_16 : Cond.selects y_m_begins.cls y_m_begins y_m_begins ∈ gw := in_s2 (q := (y_m_begins, 8)) (List.mem_of_getElem? (i := 0) rfl)
theorem ks_17 : Cond.selects y_m_fillRoles.cls y_m_fillRoles y_m_fillRoles ∈ gw := in_s2 (q := (y_m_fillRoles, 8)) (List.mem_of_getElem? (i := 1) rfl)
theorem ks_18 : Cond.selects y_m_bestBut.cls y_m_bestBut y_m_bestBut ∈ gw := in_s2 (q := (y_m_bestBut, 8)) (List.mem_of_getElem? (i := 2) rfl)
theorem ks_19 : Cond.selects y_m_allows.cls y_m_allows y_m_allows ∈ gw := in_s2 (q := (y_m_allows, 8)) (List.mem_of_getElem? (i := 3) rfl)
theorem ks_20 : Cond.selects y_m_known.cls y_m_known y_m_known ∈ gw := in_s2 (q := (y_m_known, 8)) (List.mem_of_getElem? (i := 4) rfl)
theorem ks_21 : Cond.selects y_m_betters.cls y_m_betters y_m_betters ∈ gw := in_s2 (q := (y_m_betters, 8)) (List.mem_of_getElem? (i := 5) rfl)
theorem ks_22 : Cond.selects y_m_valueOf.cls y_m_valueOf y_m_valueOf ∈ gw := in_s2 (q := (y_m_valueOf, 8)) (List.mem_of_getElem? (i := 6) rfl)
theorem ks_23 : Cond.selects y_m_nominal.cls y_m_nominal y_m_nominal ∈ gw := in_s2 (q := (y_m_nominal, 8)) (List.mem_of_getElem? (i := 7) rfl)
theorem ks_24 : Cond.selects y_m_air.cls y_m_air y_m_air ∈ gw := in_s2 (q := (y_m_air, 8)) (List.mem_of_getElem? (i := 8) rfl)
theorem ks_25 : Cond.selects y_m_surestOf.cls y_m_surestOf y_m_surestOf ∈ gw := in_s2 (q := (y_m_surestOf, 8)) (List.mem_of_getElem? (i := 9) rfl)
theorem ks_26 : Cond.selects y_m_slowestOf.cls y_m_slowestOf y_m_slowestOf ∈ gw := in_s2 (q := (y_m_slowestOf, 8)) (List.mem_of_getElem? (i := 10) rfl)
theorem ks_27 : Cond.selects y_m_endFromNow.cls y_m_endFromNow y_m_endFromNow ∈ gw := in_s2 (q := (y_m_endFromNow, 8)) (List.mem_of_getElem? (i := 11) rfl)
theorem ks_28 : Cond.selects y_m_areBoth.cls y_m_areBoth y_m_areBoth ∈ gw := in_s2 (q := (y_m_areBoth, 8)) (List.mem_of_getElem? (i := 12) rfl)
theorem ks_29 : Cond.selects y_m_isStation.cls y_m_isStation y_m_isStation ∈ gw := in_s2 (q := (y_m_isStation, 8)) (List.mem_of_getElem? (i := 13) rfl)
theorem ks_30 : Cond.selects y_m_isRate.cls y_m_isRate y_m_isRate ∈ gw := in_s2 (q := (y_m_isRate, 8)) (List.mem_of_getElem? (i := 14) rfl)
theorem ks_31 : Cond.selects y_m_sets.cls y_m_sets y_m_sets ∈ gw := in_s2 (q := (y_m_sets, 8)) (List.mem_of_getElem? (i := 15) rfl)
theorem ks_32 : Cond.selects y_m_hasAllowed.cls y_m_hasAllowed y_m_hasAllowed ∈ gw := in_s3 (q := (y_m_hasAllowed, 8)) (List.mem_of_getElem? (i := 0) rfl)
theorem ks_33 : Cond.selects y_m_freeChain.cls y_m_freeChain y_m_freeChain ∈ gw := in_s3 (q := (y_m_freeChain, 8)) (List.mem_of_getElem? (i := 1) rfl)
theorem ks_34 : Cond.selects y_m_lays.cls y_m_lays y_m_lays ∈ gw := in_s3 (q := (y_m_lays, 8)) (List.mem_of_getElem? (i := 2) rfl)
theorem ks_35 : Cond.selects y_m_layFallback.cls y_m_layFallback y_m_layFallback ∈ gw := in_s3 (q := (y_m_layFallback, 8)) (List.mem_of_getElem? (i := 3) rfl)
theorem ks_36 : Cond.selects y_m_roleOf.cls y_m_roleOf y_m_roleOf ∈ gw := in_s3 (q := (y_m_roleOf, 8)) (List.mem_of_getElem? (i := 4) rfl)
theorem ks_37 : Cond.selects y_m_fullEntry.cls y_m_fullEntry y_m_fullEntry ∈ gw := in_s3 (q := (y_m_fullEntry, 8)) (List.mem_of_getElem? (i := 5) rfl)
theorem ks_38 : Cond.selects y_m_triesFor.cls y_m_triesFor y_m_triesFor ∈ gw := in_s3 (q := (y_m_triesFor, 8)) (List.mem_of_getElem? (i := 6) rfl)
theorem ks_39 : Cond.selects y_m_timeOf.cls y_m_timeOf y_m_timeOf ∈ gw := in_s3 (q := (y_m_timeOf, 8)) (List.mem_of_getElem? (i := 7) rfl)
theorem ks_40 : Cond.selects y_m_entry.cls y_m_entry y_m_entry ∈ gw := in_s3 (q := (y_m_entry, 8)) (List.mem_of_getElem? (i := 8) rfl)
theorem ks_41 : Cond.selects y_m_refuse.cls y_m_refuse y_m_refuse ∈ gw := in_s3 (q := (y_m_refuse, 8)) (List.mem_of_getElem? (i := 9) rfl)
theorem ks_42 : Cond.selects y_m_sampledBy.cls y_m_sampledBy y_m_sampledBy ∈ gw := in_s3 (q := (y_m_sampledBy, 8)) (List.mem_of_getElem? (i := 10) rfl)
theorem ks_43 : Cond.selects y_m_causeOf.cls y_m_causeOf y_m_causeOf ∈ gw := in_s3 (q := (y_m_causeOf, 8)) (List.mem_of_getElem? (i := 11) rfl)
theorem ks_44 : Cond.selects y_m_layPlain.cls y_m_layPlain y_m_layPlain ∈ gw := in_s3 (q := (y_m_layPlain, 8)) (List.mem_of_getElem? (i := 12) rfl)
theorem ks_45 : Cond.selects y_m_laySampling.cls y_m_laySampling y_m_laySampling ∈ gw := in_s3 (q := (y_m_laySampling, 8)) (List.mem_of_getElem? (i := 13) rfl)
theorem ks_46 : Cond.selects y_m_isAnyReady.cls y_m_isAnyReady y_m_isAnyReady ∈ gw := in_s3 (q := (y_m_isAnyReady, 8)) (List.mem_of_getElem? (i := 14) rfl)
theorem ks_47 : Cond.selects y_m_isReady.cls y_m_isReady y_m_isReady ∈ gw := in_s3 (q := (y_m_isReady, 8)) (List.mem_of_getElem? (i := 15) rfl)
theorem ks_48 : Cond.selects y_m_turns.cls y_m_turns y_m_turns ∈ gw := in_s4 (q := (y_m_turns, 8)) (List.mem_of_getElem? (i := 0) rfl)
theorem ks_49 : Cond.selects y_m_isOpen.cls y_m_isOpen y_m_isOpen ∈ gw := in_s4 (q := (y_m_isOpen, 8)) (List.mem_of_getElem? (i := 1) rfl)
theorem ks_50 : Cond.selects y_m_triesOfAll.cls y_m_triesOfAll y_m_triesOfAll ∈ gw := in_s4 (q := (y_m_triesOfAll, 8)) (List.mem_of_getElem? (i := 2) rfl)
theorem ks_51 : Cond.selects y_m_timeOfTries.cls y_m_timeOfTries y_m_timeOfTries ∈ gw := in_s4 (q := (y_m_timeOfTries, 8)) (List.mem_of_getElem? (i := 3) rfl)
theorem ks_52 : Cond.selects y_m_timeOfTry.cls y_m_timeOfTry y_m_timeOfTry ∈ gw := in_s4 (q := (y_m_timeOfTry, 8)) (List.mem_of_getElem? (i := 4) rfl)
theorem ks_53 : Cond.selects y_m_rateOfTry.cls y_m_rateOfTry y_m_rateOfTry ∈ gw := in_s4 (q := (y_m_rateOfTry, 8)) (List.mem_of_getElem? (i := 5) rfl)
theorem ks_54 : Cond.selects y_m_entryOf.cls y_m_entryOf y_m_entryOf ∈ gw := in_s4 (q := (y_m_entryOf, 8)) (List.mem_of_getElem? (i := 6) rfl)
theorem ks_55 : Cond.selects y_m_tryOf.cls y_m_tryOf y_m_tryOf ∈ gw := in_s4 (q := (y_m_tryOf, 8)) (List.mem_of_getElem? (i := 7) rfl)
theorem ks_56 : Cond.selects y_m_reports.cls y_m_reports y_m_reports ∈ gw := in_s4 (q := (y_m_reports, 8)) (List.mem_of_getElem? (i := 8) rfl)
theorem ks_57 : Cond.selects y_m_ends.cls y_m_ends y_m_ends ∈ gw := in_s4 (q := (y_m_ends, 8)) (List.mem_of_getElem? (i := 9) rfl)
theorem ks_58 : Cond.selects y_m_log.cls y_m_log y_m_log ∈ gw := in_s4 (q := (y_m_log, 8)) (List.mem_of_getElem? (i := 10) rfl)
theorem ks_59 : Cond.selects y_m_updatesDue.cls y_m_updatesDue y_m_updatesDue ∈ gw := in_s4 (q := (y_m_updatesDue, 8)) (List.mem_of_getElem? (i := 11) rfl)
theorem ks_60 : Cond.selects y_m_updates.cls y_m_updates y_m_updates ∈ gw := in_s4 (q := (y_m_updates, 8)) (List.mem_of_getElem? (i := 12) rfl)
theorem ks_61 : Cond.selects y_m_collapses.cls y_m_collapses y_m_collapses ∈ gw := in_s4 (q := (y_m_collapses, 8)) (List.mem_of_getElem? (i := 13) rfl)
theorem ks_62 : Cond.selects y_m_change.cls y_m_change y_m_change ∈ gw := in_s4 (q := (y_m_change, 8)) (List.mem_of_getElem? (i := 14) rfl)
theorem ks_63 : Cond.selects y_m_sampleOf.cls y_m_sampleOf y_m_sampleOf ∈ gw := in_s4 (q := (y_m_sampleOf, 8)) (List.mem_of_getElem? (i := 15) rfl)
theorem ks_64 : Cond.selects y_m_collapse.cls y_m_collapse y_m_collapse ∈ gw := in_s5 (q := (y_m_collapse, 8)) (List.mem_of_getElem? (i := 0) rfl)
theorem ks_65 : Cond.selects y_m_follow.cls y_m_follow y_m_follow ∈ gw := in_s5 (q := (y_m_follow, 8)) (List.mem_of_getElem? (i := 1) rfl)
theorem ks_66 : Cond.selects y_m_learn.cls y_m_learn y_m_learn ∈ gw := in_s5 (q := (y_m_learn, 8)) (List.mem_of_getElem? (i := 2) rfl)
theorem ks_67 : Cond.selects y_m_atPlace.cls y_m_atPlace y_m_atPlace ∈ gw := in_s5 (q := (y_m_atPlace, 8)) (List.mem_of_getElem? (i := 3) rfl)
theorem ks_68 : Cond.selects y_m_before.cls y_m_before y_m_before ∈ gw := in_s5 (q := (y_m_before, 8)) (List.mem_of_getElem? (i := 4) rfl)
theorem ks_69 : Cond.selects y_m_isSequence.cls y_m_isSequence y_m_isSequence ∈ gw := in_s5 (q := (y_m_isSequence, 8)) (List.mem_of_getElem? (i := 5) rfl)
theorem ks_70 : Cond.selects y_m_walks.cls y_m_walks y_m_walks ∈ gw := in_s5 (q := (y_m_walks, 8)) (List.mem_of_getElem? (i := 6) rfl)
theorem ks_71 : Cond.selects y_m_told.cls y_m_told y_m_told ∈ gw := in_s5 (q := (y_m_told, 8)) (List.mem_of_getElem? (i := 7) rfl)
theorem ks_72 : Cond.selects y_m_whyNot.cls y_m_whyNot y_m_whyNot ∈ gw := in_s5 (q := (y_m_whyNot, 8)) (List.mem_of_getElem? (i := 8) rfl)
theorem ks_73 : Cond.selects y_m_simulates.cls y_m_simulates y_m_simulates ∈ gw := in_s5 (q := (y_m_simulates, 8)) (List.mem_of_getElem? (i := 9) rfl)
theorem ks_74 : Cond.selects y_m_event.cls y_m_event y_m_event ∈ gw := in_s5 (q := (y_m_event, 8)) (List.mem_of_getElem? (i := 10) rfl)
theorem ks_75 : Cond.selects y_m_stationDigest.cls y_m_stationDigest y_m_stationDigest ∈ gw := in_s5 (q := (y_m_stationDigest, 8)) (List.mem_of_getElem? (i := 11) rfl)
theorem k_1 : (Cond.initialized "RetryChains") ∈ gw := in_1 (List.mem_of_getElem? (i := 1) rfl) rfl
theorem k_2 : (Cond.initialized "RetryChains$Network") ∈ gw := in_1 (List.mem_of_getElem? (i := 2) rfl) rfl
theorem k_3 : (Cond.initialized "RetryChains$RateTable") ∈ gw := in_1 (List.mem_of_getElem? (i := 3) rfl) rfl
theorem k_4 : (Cond.initialized "RetryChains$EventLog") ∈ gw := in_1 (List.mem_of_getElem? (i := 4) rfl) rfl
theorem k_5 : (Cond.initialized "RetryChains$Station") ∈ gw := in_1 (List.mem_of_getElem? (i := 5) rfl) rfl
theorem k_6 : (Cond.initialized "RetryChains$Link") ∈ gw := in_1 (List.mem_of_getElem? (i := 6) rfl) rfl
theorem k_8 : (Cond.initialized "RetryChains$Chain") ∈ gw := in_1 (List.mem_of_getElem? (i := 8) rfl) rfl
theorem k_9 : (Cond.initialized "RetryChains$History") ∈ gw := in_1 (List.mem_of_getElem? (i := 9) rfl) rfl
theorem k_10 : (Cond.initialized "RetryChains$ChainSearch") ∈ gw := in_1 (List.mem_of_getElem? (i := 10) rfl) rfl
theorem k_11 : (Cond.initialized "RetryChainsModel") ∈ gw := in_1 (List.mem_of_getElem? (i := 11) rfl) rfl
theorem k_12 : (Cond.initialized "java/lang/Math") ∈ gw := in_1 (List.mem_of_getElem? (i := 12) rfl) rfl
theorem k_13 : (Cond.initialized "java/lang/System") ∈ gw := in_1 (List.mem_of_getElem? (i := 13) rfl) rfl
theorem k_34 : (Cond.fieldLink "RetryChains$RateTable" (21 : Nat) "RetryChains$RateTable" "count" "I") ∈ gw := in_1 (List.mem_of_getElem? (i := 34) rfl) rfl
theorem k_35 : (Cond.fieldLink "RetryChains$ChainSearch" (48 : Nat) "RetryChains$RateTable" "count" "I") ∈ gw := in_1 (List.mem_of_getElem? (i := 35) rfl) rfl
theorem k_36 : (Cond.fieldLink "RetryChains" (49 : Nat) "RetryChains$RateTable" "count" "I") ∈ gw := in_1 (List.mem_of_getElem? (i := 36) rfl) rfl
theorem k_37 : (Cond.fieldLink "RetryChains$Station" (80 : Nat) "RetryChains$RateTable" "count" "I") ∈ gw := in_1 (List.mem_of_getElem? (i := 37) rfl) rfl
theorem k_38 : (Cond.fieldLink "RetryChains$Network" (160 : Nat) "RetryChains$RateTable" "count" "I") ∈ gw := in_1 (List.mem_of_getElem? (i := 38) rfl) rfl
theorem k_39 : (Cond.fieldLink "RetryChains$RateTable" (9 : Nat) "RetryChains$RateTable" "modes" "[I") ∈ gw := in_1 (List.mem_of_getElem? (i := 39) rfl) rfl
theorem k_40 : (Cond.fieldLink "RetryChains$RateTable" (15 : Nat) "RetryChains$RateTable" "speeds" "[I") ∈ gw := in_1 (List.mem_of_getElem? (i := 40) rfl) rfl
theorem k_41 : (Cond.fieldLink "RetryChains$RateTable" (18 : Nat) "RetryChains$RateTable" "nominals" "[I") ∈ gw := in_1 (List.mem_of_getElem? (i := 41) rfl) rfl
theorem k_42 : (Cond.fieldLink "RetryChains$Station" (111 : Nat) "RetryChains$RateTable" "nominals" "[I") ∈ gw := in_1 (List.mem_of_getElem? (i := 42) rfl) rfl
theorem k_65 : (Cond.fieldLink "RetryChains$EventLog" (16 : Nat) "RetryChains$EventLog" "total" "I") ∈ gw := in_1 (List.mem_of_getElem? (i := 65) rfl) rfl
theorem k_66 : (Cond.fieldLink "RetryChains" (300 : Nat) "RetryChains$EventLog" "total" "I") ∈ gw := in_1 (List.mem_of_getElem? (i := 66) rfl) rfl
theorem k_67 : (Cond.fieldLink "RetryChains$EventLog" (13 : Nat) "RetryChains$EventLog" "rows" "[[I") ∈ gw := in_1 (List.mem_of_getElem? (i := 67) rfl) rfl
theorem k_86 : (Cond.fieldLink "RetryChains$Link" (9 : Nat) "RetryChains$Link" "isAllowed" "Z") ∈ gw := in_1 (List.mem_of_getElem? (i := 86) rfl) rfl
theorem k_87 : (Cond.fieldLink "RetryChains$ChainSearch" (57 : Nat) "RetryChains$Link" "isAllowed" "Z") ∈ gw := in_1 (List.mem_of_getElem? (i := 87) rfl) rfl
theorem k_88 : (Cond.fieldLink "RetryChains$Station" (85 : Nat) "RetryChains$Link" "isAllowed" "Z") ∈ gw := in_1 (List.mem_of_getElem? (i := 88) rfl) rfl
theorem k_89 : (Cond.fieldLink "RetryChains" (92 : Nat) "RetryChains$Link" "isAllowed" "Z") ∈ gw := in_1 (List.mem_of_getElem? (i := 89) rfl) rfl
theorem k_90 : (Cond.fieldLink "RetryChains$Network" (176 : Nat) "RetryChains$Link" "isAllowed" "Z") ∈ gw := in_1 (List.mem_of_getElem? (i := 90) rfl) rfl
theorem k_91 : (Cond.fieldLink "RetryChains$Link" (15 : Nat) "RetryChains$Link" "estimate" "I") ∈ gw := in_1 (List.mem_of_getElem? (i := 91) rfl) rfl
theorem k_92 : (Cond.fieldLink "RetryChains$Network" (181 : Nat) "RetryChains$Link" "estimate" "I") ∈ gw := in_1 (List.mem_of_getElem? (i := 92) rfl) rfl
theorem k_93 : (Cond.fieldLink "RetryChains$Station" (151 : Nat) "RetryChains$Link" "estimate" "I") ∈ gw := in_1 (List.mem_of_getElem? (i := 93) rfl) rfl
theorem k_94 : (Cond.fieldLink "RetryChains" (205 : Nat) "RetryChains$Link" "estimate" "I") ∈ gw := in_1 (List.mem_of_getElem? (i := 94) rfl) rfl
theorem k_95 : (Cond.fieldLink "RetryChains$Link" (22 : Nat) "RetryChains$Link" "tendency" "I") ∈ gw := in_1 (List.mem_of_getElem? (i := 95) rfl) rfl
theorem k_96 : (Cond.fieldLink "RetryChains$Link" (25 : Nat) "RetryChains$Link" "tries" "I") ∈ gw := in_1 (List.mem_of_getElem? (i := 96) rfl) rfl
theorem k_97 : (Cond.fieldLink "RetryChains$Network" (185 : Nat) "RetryChains$Link" "tries" "I") ∈ gw := in_1 (List.mem_of_getElem? (i := 97) rfl) rfl
theorem k_98 : (Cond.fieldLink "RetryChains$Station" (134 : Nat) "RetryChains$Link" "tries" "I") ∈ gw := in_1 (List.mem_of_getElem? (i := 98) rfl) rfl
theorem k_99 : (Cond.fieldLink "RetryChains$Link" (28 : Nat) "RetryChains$Link" "successes" "I") ∈ gw := in_1 (List.mem_of_getElem? (i := 99) rfl) rfl
theorem k_100 : (Cond.fieldLink "RetryChains$Station" (154 : Nat) "RetryChains$Link" "successes" "I") ∈ gw := in_1 (List.mem_of_getElem? (i := 100) rfl) rfl
theorem k_101 : (Cond.fieldLink "RetryChains$Link" (31 : Nat) "RetryChains$Link" "allTries" "I") ∈ gw := in_1 (List.mem_of_getElem? (i := 101) rfl) rfl
theorem k_102 : (Cond.fieldLink "RetryChains$Station" (125 : Nat) "RetryChains$Link" "allTries" "I") ∈ gw := in_1 (List.mem_of_getElem? (i := 102) rfl) rfl
theorem k_103 : (Cond.fieldLink "RetryChains" (208 : Nat) "RetryChains$Link" "allTries" "I") ∈ gw := in_1 (List.mem_of_getElem? (i := 103) rfl) rfl
theorem k_104 : (Cond.fieldLink "RetryChains$Link" (34 : Nat) "RetryChains$Link" "allSuccesses" "I") ∈ gw := in_1 (List.mem_of_getElem? (i := 104) rfl) rfl
theorem k_105 : (Cond.fieldLink "RetryChains" (210 : Nat) "RetryChains$Link" "allSuccesses" "I") ∈ gw := in_1 (List.mem_of_getElem? (i := 105) rfl) rfl
theorem k_106 : (Cond.fieldLink "RetryChains$Link" (19 : Nat) "RetryChains$Link" "quality" "I") ∈ gw := in_1 (List.mem_of_getElem? (i := 106) rfl) rfl
theorem k_107 : (Cond.fieldLink "RetryChains$Station" (131 : Nat) "RetryChains$Link" "quality" "I") ∈ gw := in_1 (List.mem_of_getElem? (i := 107) rfl) rfl
theorem k_108 : (Cond.fieldLink "RetryChains$Network" (292 : Nat) "RetryChains$Link" "quality" "I") ∈ gw := in_1 (List.mem_of_getElem? (i := 108) rfl) rfl
theorem k_109 : (Cond.fieldLink "RetryChains" (279 : Nat) "RetryChains$Link" "quality" "I") ∈ gw := in_1 (List.mem_of_getElem? (i := 109) rfl) rfl
theorem k_131 : (Cond.fieldLink "RetryChains$Network" (97 : Nat) "RetryChains$Station" "number" "I") ∈ gw := in_1 (List.mem_of_getElem? (i := 131) rfl) rfl
theorem k_132 : (Cond.fieldLink "RetryChains$Station" (11 : Nat) "RetryChains$Station" "links" "[LRetryChains$Link;") ∈ gw := in_1 (List.mem_of_getElem? (i := 132) rfl) rfl
theorem k_133 : (Cond.fieldLink "RetryChains$ChainSearch" (51 : Nat) "RetryChains$Station" "links" "[LRetryChains$Link;") ∈ gw := in_1 (List.mem_of_getElem? (i := 133) rfl) rfl
theorem k_134 : (Cond.fieldLink "RetryChains$Network" (85 : Nat) "RetryChains$Station" "links" "[LRetryChains$Link;") ∈ gw := in_1 (List.mem_of_getElem? (i := 134) rfl) rfl
theorem k_135 : (Cond.fieldLink "RetryChains$Station" (17 : Nat) "RetryChains$Station" "roles" "[I") ∈ gw := in_1 (List.mem_of_getElem? (i := 135) rfl) rfl
theorem k_136 : (Cond.fieldLink "RetryChains$Network" (137 : Nat) "RetryChains$Station" "roles" "[I") ∈ gw := in_1 (List.mem_of_getElem? (i := 136) rfl) rfl
theorem k_137 : (Cond.fieldLink "RetryChains" (232 : Nat) "RetryChains$Station" "roles" "[I") ∈ gw := in_1 (List.mem_of_getElem? (i := 137) rfl) rfl
theorem k_138 : (Cond.fieldLink "RetryChains$Station" (21 : Nat) "RetryChains$Station" "refusals" "[I") ∈ gw := in_1 (List.mem_of_getElem? (i := 138) rfl) rfl
theorem k_139 : (Cond.fieldLink "RetryChains" (235 : Nat) "RetryChains$Station" "refusals" "[I") ∈ gw := in_1 (List.mem_of_getElem? (i := 139) rfl) rfl
theorem k_140 : (Cond.fieldLink "RetryChains$Station" (24 : Nat) "RetryChains$Station" "queue" "[I") ∈ gw := in_1 (List.mem_of_getElem? (i := 140) rfl) rfl
theorem k_141 : (Cond.fieldLink "RetryChains$Station" (51 : Nat) "RetryChains$Station" "queueLength" "I") ∈ gw := in_1 (List.mem_of_getElem? (i := 141) rfl) rfl
theorem k_142 : (Cond.fieldLink "RetryChains" (127 : Nat) "RetryChains$Station" "queueLength" "I") ∈ gw := in_1 (List.mem_of_getElem? (i := 142) rfl) rfl
theorem k_143 : (Cond.fieldLink "RetryChains$Station" (54 : Nat) "RetryChains$Station" "chains" "I") ∈ gw := in_1 (List.mem_of_getElem? (i := 143) rfl) rfl
theorem k_144 : (Cond.fieldLink "RetryChains$Network" (106 : Nat) "RetryChains$Station" "chains" "I") ∈ gw := in_1 (List.mem_of_getElem? (i := 144) rfl) rfl
theorem k_145 : (Cond.fieldLink "RetryChains" (260 : Nat) "RetryChains$Station" "chains" "I") ∈ gw := in_1 (List.mem_of_getElem? (i := 145) rfl) rfl
theorem k_146 : (Cond.fieldLink "RetryChains$Station" (57 : Nat) "RetryChains$Station" "sampled" "I") ∈ gw := in_1 (List.mem_of_getElem? (i := 146) rfl) rfl
theorem k_147 : (Cond.fieldLink "RetryChains$Network" (147 : Nat) "RetryChains$Station" "sampled" "I") ∈ gw := in_1 (List.mem_of_getElem? (i := 147) rfl) rfl
theorem k_148 : (Cond.fieldLink "RetryChains" (263 : Nat) "RetryChains$Station" "sampled" "I") ∈ gw := in_1 (List.mem_of_getElem? (i := 148) rfl) rfl
theorem k_149 : (Cond.fieldLink "RetryChains$Station" (60 : Nat) "RetryChains$Station" "delivered" "I") ∈ gw := in_1 (List.mem_of_getElem? (i := 149) rfl) rfl
theorem k_150 : (Cond.fieldLink "RetryChains$Network" (210 : Nat) "RetryChains$Station" "delivered" "I") ∈ gw := in_1 (List.mem_of_getElem? (i := 150) rfl) rfl
theorem k_151 : (Cond.fieldLink "RetryChains" (266 : Nat) "RetryChains$Station" "delivered" "I") ∈ gw := in_1 (List.mem_of_getElem? (i := 151) rfl) rfl
theorem k_152 : (Cond.fieldLink "RetryChains$Station" (63 : Nat) "RetryChains$Station" "lost" "I") ∈ gw := in_1 (List.mem_of_getElem? (i := 152) rfl) rfl
theorem k_153 : (Cond.fieldLink "RetryChains$Network" (219 : Nat) "RetryChains$Station" "lost" "I") ∈ gw := in_1 (List.mem_of_getElem? (i := 153) rfl) rfl
theorem k_154 : (Cond.fieldLink "RetryChains" (269 : Nat) "RetryChains$Station" "lost" "I") ∈ gw := in_1 (List.mem_of_getElem? (i := 154) rfl) rfl
theorem k_155 : (Cond.fieldLink "RetryChains$Station" (66 : Nat) "RetryChains$Station" "losses" "I") ∈ gw := in_1 (List.mem_of_getElem? (i := 155) rfl) rfl
theorem k_156 : (Cond.fieldLink "RetryChains$Network" (213 : Nat) "RetryChains$Station" "losses" "I") ∈ gw := in_1 (List.mem_of_getElem? (i := 156) rfl) rfl
theorem k_157 : (Cond.fieldLink "RetryChains$Station" (69 : Nat) "RetryChains$Station" "inFallback" "Z") ∈ gw := in_1 (List.mem_of_getElem? (i := 157) rfl) rfl
theorem k_158 : (Cond.fieldLink "RetryChains$Network" (113 : Nat) "RetryChains$Station" "inFallback" "Z") ∈ gw := in_1 (List.mem_of_getElem? (i := 158) rfl) rfl
theorem k_159 : (Cond.fieldLink "RetryChains" (276 : Nat) "RetryChains$Station" "inFallback" "Z") ∈ gw := in_1 (List.mem_of_getElem? (i := 159) rfl) rfl
theorem k_160 : (Cond.fieldLink "RetryChains$Station" (73 : Nat) "RetryChains$Station" "deficit" "I") ∈ gw := in_1 (List.mem_of_getElem? (i := 160) rfl) rfl
theorem k_161 : (Cond.fieldLink "RetryChains$Network" (192 : Nat) "RetryChains$Station" "deficit" "I") ∈ gw := in_1 (List.mem_of_getElem? (i := 161) rfl) rfl
theorem k_162 : (Cond.fieldLink "RetryChains" (273 : Nat) "RetryChains$Station" "deficit" "I") ∈ gw := in_1 (List.mem_of_getElem? (i := 162) rfl) rfl
theorem k_163 : (Cond.fieldLink "RetryChains$Station" (76 : Nat) "RetryChains$Station" "intervalEnd" "J") ∈ gw := in_1 (List.mem_of_getElem? (i := 163) rfl) rfl
theorem k_164 : (Cond.fieldLink "RetryChains" (80 : Nat) "RetryChains$Station" "intervalEnd" "J") ∈ gw := in_1 (List.mem_of_getElem? (i := 164) rfl) rfl
theorem k_165 : (Cond.fieldLink "RetryChains$Network" (231 : Nat) "RetryChains$Station" "intervalEnd" "J") ∈ gw := in_1 (List.mem_of_getElem? (i := 165) rfl) rfl
theorem k_166 : (Cond.fieldLink "RetryChains$Station" (31 : Nat) "RetryChains$Station" "draw" "I") ∈ gw := in_1 (List.mem_of_getElem? (i := 166) rfl) rfl
theorem k_167 : (Cond.fieldLink "RetryChains$Network" (154 : Nat) "RetryChains$Station" "draw" "I") ∈ gw := in_1 (List.mem_of_getElem? (i := 167) rfl) rfl
theorem k_204 : (Cond.fieldLink "RetryChains$Chain" (22 : Nat) "RetryChains$Chain" "isOpen" "Z") ∈ gw := in_1 (List.mem_of_getElem? (i := 204) rfl) rfl
theorem k_205 : (Cond.fieldLink "RetryChains$Network" (89 : Nat) "RetryChains$Chain" "isOpen" "Z") ∈ gw := in_1 (List.mem_of_getElem? (i := 205) rfl) rfl
theorem k_206 : (Cond.fieldLink "RetryChains$Chain" (26 : Nat) "RetryChains$Chain" "station" "I") ∈ gw := in_1 (List.mem_of_getElem? (i := 206) rfl) rfl
theorem k_207 : (Cond.fieldLink "RetryChains$Network" (100 : Nat) "RetryChains$Chain" "station" "I") ∈ gw := in_1 (List.mem_of_getElem? (i := 207) rfl) rfl
theorem k_208 : (Cond.fieldLink "RetryChains" (176 : Nat) "RetryChains$Chain" "station" "I") ∈ gw := in_1 (List.mem_of_getElem? (i := 208) rfl) rfl
theorem k_209 : (Cond.fieldLink "RetryChains$Chain" (29 : Nat) "RetryChains$Chain" "size" "I") ∈ gw := in_1 (List.mem_of_getElem? (i := 209) rfl) rfl
theorem k_210 : (Cond.fieldLink "RetryChains$Network" (103 : Nat) "RetryChains$Chain" "size" "I") ∈ gw := in_1 (List.mem_of_getElem? (i := 210) rfl) rfl
theorem k_211 : (Cond.fieldLink "RetryChains" (188 : Nat) "RetryChains$Chain" "size" "I") ∈ gw := in_1 (List.mem_of_getElem? (i := 211) rfl) rfl
theorem k_212 : (Cond.fieldLink "RetryChains$Chain" (32 : Nat) "RetryChains$Chain" "kind" "I") ∈ gw := in_1 (List.mem_of_getElem? (i := 212) rfl) rfl
theorem k_213 : (Cond.fieldLink "RetryChains$Network" (140 : Nat) "RetryChains$Chain" "kind" "I") ∈ gw := in_1 (List.mem_of_getElem? (i := 213) rfl) rfl
theorem k_214 : (Cond.fieldLink "RetryChains" (173 : Nat) "RetryChains$Chain" "kind" "I") ∈ gw := in_1 (List.mem_of_getElem? (i := 214) rfl) rfl
theorem k_215 : (Cond.fieldLink "RetryChains$Chain" (9 : Nat) "RetryChains$Chain" "sampleEntry" "I") ∈ gw := in_1 (List.mem_of_getElem? (i := 215) rfl) rfl
theorem k_216 : (Cond.fieldLink "RetryChains$Network" (124 : Nat) "RetryChains$Chain" "sampleEntry" "I") ∈ gw := in_1 (List.mem_of_getElem? (i := 216) rfl) rfl
theorem k_217 : (Cond.fieldLink "RetryChains" (191 : Nat) "RetryChains$Chain" "sampleEntry" "I") ∈ gw := in_1 (List.mem_of_getElem? (i := 217) rfl) rfl
theorem k_218 : (Cond.fieldLink "RetryChains$Chain" (15 : Nat) "RetryChains$Chain" "rates" "[I") ∈ gw := in_1 (List.mem_of_getElem? (i := 218) rfl) rfl
theorem k_219 : (Cond.fieldLink "RetryChains$Network" (131 : Nat) "RetryChains$Chain" "rates" "[I") ∈ gw := in_1 (List.mem_of_getElem? (i := 219) rfl) rfl
theorem k_220 : (Cond.fieldLink "RetryChains" (182 : Nat) "RetryChains$Chain" "rates" "[I") ∈ gw := in_1 (List.mem_of_getElem? (i := 220) rfl) rfl
theorem k_221 : (Cond.fieldLink "RetryChains$Chain" (19 : Nat) "RetryChains$Chain" "tries" "[I") ∈ gw := in_1 (List.mem_of_getElem? (i := 221) rfl) rfl
theorem k_222 : (Cond.fieldLink "RetryChains$Network" (127 : Nat) "RetryChains$Chain" "tries" "[I") ∈ gw := in_1 (List.mem_of_getElem? (i := 222) rfl) rfl
theorem k_223 : (Cond.fieldLink "RetryChains" (185 : Nat) "RetryChains$Chain" "tries" "[I") ∈ gw := in_1 (List.mem_of_getElem? (i := 223) rfl) rfl
theorem k_239 : (Cond.fieldLink "RetryChains$Network" (12 : Nat) "RetryChains$Network" "rates" "LRetryChains$RateTable;") ∈ gw := in_1 (List.mem_of_getElem? (i := 239) rfl) rfl
theorem k_240 : (Cond.fieldLink "RetryChains$ChainSearch" (39 : Nat) "RetryChains$Network" "rates" "LRetryChains$RateTable;") ∈ gw := in_2 (List.mem_of_getElem? (i := 0) rfl) rfl
theorem k_241 : (Cond.fieldLink "RetryChains" (45 : Nat) "RetryChains$Network" "rates" "LRetryChains$RateTable;") ∈ gw := in_2 (List.mem_of_getElem? (i := 1) rfl) rfl
theorem k_242 : (Cond.fieldLink "RetryChains$Network" (20 : Nat) "RetryChains$Network" "stations" "[LRetryChains$Station;") ∈ gw := in_2 (List.mem_of_getElem? (i := 2) rfl) rfl
theorem k_243 : (Cond.fieldLink "RetryChains" (66 : Nat) "RetryChains$Network" "stations" "[LRetryChains$Station;") ∈ gw := in_2 (List.mem_of_getElem? (i := 3) rfl) rfl
theorem k_244 : (Cond.fieldLink "RetryChains$Network" (26 : Nat) "RetryChains$Network" "open" "[LRetryChains$Chain;") ∈ gw := in_2 (List.mem_of_getElem? (i := 4) rfl) rfl
theorem k_245 : (Cond.fieldLink "RetryChains$Network" (33 : Nat) "RetryChains$Network" "log" "LRetryChains$EventLog;") ∈ gw := in_2 (List.mem_of_getElem? (i := 5) rfl) rfl
theorem k_246 : (Cond.fieldLink "RetryChains" (296 : Nat) "RetryChains$Network" "log" "LRetryChains$EventLog;") ∈ gw := in_2 (List.mem_of_getElem? (i := 6) rfl) rfl
theorem k_247 : (Cond.fieldLink "RetryChains" (63 : Nat) "RetryChains$Network" "stationCount" "I") ∈ gw := in_2 (List.mem_of_getElem? (i := 7) rfl) rfl
theorem k_248 : (Cond.fieldLink "RetryChains$Network" (68 : Nat) "RetryChains$Network" "stationCount" "I") ∈ gw := in_2 (List.mem_of_getElem? (i := 8) rfl) rfl
theorem k_249 : (Cond.fieldLink "RetryChains$Network" (71 : Nat) "RetryChains$Network" "time" "I") ∈ gw := in_2 (List.mem_of_getElem? (i := 9) rfl) rfl
theorem k_250 : (Cond.fieldLink "RetryChains" (159 : Nat) "RetryChains$Network" "time" "I") ∈ gw := in_2 (List.mem_of_getElem? (i := 10) rfl) rfl
theorem k_251 : (Cond.fieldLink "RetryChains$Network" (37 : Nat) "RetryChains$Network" "share" "I") ∈ gw := in_2 (List.mem_of_getElem? (i := 11) rfl) rfl
theorem k_252 : (Cond.fieldLink "RetryChains" (98 : Nat) "RetryChains$Network" "share" "I") ∈ gw := in_2 (List.mem_of_getElem? (i := 12) rfl) rfl
theorem k_253 : (Cond.fieldLink "RetryChains$Network" (41 : Nat) "RetryChains$Network" "weight" "I") ∈ gw := in_2 (List.mem_of_getElem? (i := 13) rfl) rfl
theorem k_254 : (Cond.fieldLink "RetryChains" (101 : Nat) "RetryChains$Network" "weight" "I") ∈ gw := in_2 (List.mem_of_getElem? (i := 14) rfl) rfl
theorem k_255 : (Cond.fieldLink "RetryChains$Network" (45 : Nat) "RetryChains$Network" "interval" "I") ∈ gw := in_2 (List.mem_of_getElem? (i := 15) rfl) rfl
theorem k_256 : (Cond.fieldLink "RetryChains" (105 : Nat) "RetryChains$Network" "interval" "I") ∈ gw := in_2 (List.mem_of_getElem? (i := 16) rfl) rfl
theorem k_257 : (Cond.fieldLink "RetryChains$Network" (48 : Nat) "RetryChains$Network" "budget" "I") ∈ gw := in_2 (List.mem_of_getElem? (i := 17) rfl) rfl
theorem k_258 : (Cond.fieldLink "RetryChains$ChainSearch" (68 : Nat) "RetryChains$Network" "budget" "I") ∈ gw := in_2 (List.mem_of_getElem? (i := 18) rfl) rfl
theorem k_259 : (Cond.fieldLink "RetryChains" (109 : Nat) "RetryChains$Network" "budget" "I") ∈ gw := in_2 (List.mem_of_getElem? (i := 19) rfl) rfl
theorem k_260 : (Cond.fieldLink "RetryChains$Network" (74 : Nat) "RetryChains$Network" "turn" "I") ∈ gw := in_2 (List.mem_of_getElem? (i := 20) rfl) rfl
theorem k_293 : (Cond.fieldLink "RetryChains$History" (11 : Nat) "RetryChains$History" "states" "[LRetryChains$Network;") ∈ gw := in_2 (List.mem_of_getElem? (i := 53) rfl) rfl
theorem k_294 : (Cond.fieldLink "RetryChains$History" (18 : Nat) "RetryChains$History" "oldest" "I") ∈ gw := in_2 (List.mem_of_getElem? (i := 54) rfl) rfl
theorem k_295 : (Cond.fieldLink "RetryChains$History" (22 : Nat) "RetryChains$History" "count" "I") ∈ gw := in_2 (List.mem_of_getElem? (i := 55) rfl) rfl
theorem k_296 : (Cond.fieldLink "RetryChains" (308 : Nat) "RetryChains$History" "count" "I") ∈ gw := in_2 (List.mem_of_getElem? (i := 56) rfl) rfl
theorem k_312 : (Cond.fieldLink "RetryChains$ChainSearch" (44 : Nat) "RetryChains$ChainSearch" "count" "I") ∈ gw := in_2 (List.mem_of_getElem? (i := 72) rfl) rfl
theorem k_313 : (Cond.fieldLink "RetryChains" (253 : Nat) "RetryChains$ChainSearch" "count" "I") ∈ gw := in_2 (List.mem_of_getElem? (i := 73) rfl) rfl
theorem k_314 : (Cond.fieldLink "RetryChains$ChainSearch" (9 : Nat) "RetryChains$ChainSearch" "rates" "[I") ∈ gw := in_2 (List.mem_of_getElem? (i := 74) rfl) rfl
theorem k_315 : (Cond.fieldLink "RetryChains$ChainSearch" (15 : Nat) "RetryChains$ChainSearch" "misses" "[I") ∈ gw := in_2 (List.mem_of_getElem? (i := 75) rfl) rfl
theorem k_316 : (Cond.fieldLink "RetryChains$ChainSearch" (18 : Nat) "RetryChains$ChainSearch" "tries" "[I") ∈ gw := in_2 (List.mem_of_getElem? (i := 76) rfl) rfl
theorem k_317 : (Cond.fieldLink "RetryChains$ChainSearch" (23 : Nat) "RetryChains$ChainSearch" "times" "[[I") ∈ gw := in_2 (List.mem_of_getElem? (i := 77) rfl) rfl
theorem k_318 : (Cond.fieldLink "RetryChains$ChainSearch" (26 : Nat) "RetryChains$ChainSearch" "reach" "[J") ∈ gw := in_2 (List.mem_of_getElem? (i := 78) rfl) rfl
theorem k_319 : (Cond.fieldLink "RetryChains$ChainSearch" (30 : Nat) "RetryChains$ChainSearch" "sums" "[J") ∈ gw := in_2 (List.mem_of_getElem? (i := 79) rfl) rfl
theorem k_320 : (Cond.fieldLink "RetryChains$ChainSearch" (33 : Nat) "RetryChains$ChainSearch" "entries" "[I") ∈ gw := in_2 (List.mem_of_getElem? (i := 80) rfl) rfl
theorem k_321 : (Cond.fieldLink "RetryChains$ChainSearch" (36 : Nat) "RetryChains$ChainSearch" "best" "[I") ∈ gw := in_2 (List.mem_of_getElem? (i := 81) rfl) rfl
theorem k_322 : (Cond.fieldLink "RetryChains" (257 : Nat) "RetryChains$ChainSearch" "best" "[I") ∈ gw := in_2 (List.mem_of_getElem? (i := 82) rfl) rfl
theorem k_323 : (Cond.fieldLink "RetryChains$ChainSearch" (82 : Nat) "RetryChains$ChainSearch" "bestChance" "J") ∈ gw := in_2 (List.mem_of_getElem? (i := 83) rfl) rfl
theorem k_324 : (Cond.fieldLink "RetryChains$ChainSearch" (86 : Nat) "RetryChains$ChainSearch" "bestTime" "J") ∈ gw := in_2 (List.mem_of_getElem? (i := 84) rfl) rfl
theorem k_349 : (Cond.fieldLink "RetryChains" (10 : Nat) "RetryChains" "now" "LRetryChains$Network;") ∈ gw := in_2 (List.mem_of_getElem? (i := 109) rfl) rfl
theorem k_350 : (Cond.fieldLink "RetryChains" (16 : Nat) "RetryChains" "trial" "LRetryChains$Network;") ∈ gw := in_2 (List.mem_of_getElem? (i := 110) rfl) rfl
theorem k_351 : (Cond.fieldLink "RetryChains" (19 : Nat) "RetryChains" "slots" "[LRetryChains$Network;") ∈ gw := in_2 (List.mem_of_getElem? (i := 111) rfl) rfl
theorem k_352 : (Cond.fieldLink "RetryChains" (23 : Nat) "RetryChains" "isSaved" "[Z") ∈ gw := in_2 (List.mem_of_getElem? (i := 112) rfl) rfl
theorem k_353 : (Cond.fieldLink "RetryChains" (30 : Nat) "RetryChains" "history" "LRetryChains$History;") ∈ gw := in_2 (List.mem_of_getElem? (i := 113) rfl) rfl
theorem k_354 : (Cond.fieldLink "RetryChains" (37 : Nat) "RetryChains" "search" "LRetryChains$ChainSearch;") ∈ gw := in_2 (List.mem_of_getElem? (i := 114) rfl) rfl
theorem k_371 : (Cond.code y_rc_addRate b_rc_addRate (5 : Nat) (Option.some Jvm.ClassFile.FieldType.int)) ∈ gw := in_2 (List.mem_of_getElem? (i := 131) rfl) rfl
theorem k_372 : (Cond.methodLink "RetryChains" (41 : Nat) y_rc_isMode) ∈ gw := in_2 (List.mem_of_getElem? (i := 132) rfl) rfl
theorem k_373 : (Cond.static y_rc_isMode) ∈ gw := in_2 (List.mem_of_getElem? (i := 133) rfl) rfl
theorem k_374 : (Cond.code y_rc_isMode b_rc_isMode (1 : Nat) (Option.some Jvm.ClassFile.FieldType.boolean)) ∈ gw := in_2 (List.mem_of_getElem? (i := 134) rfl) rfl
theorem k_375 : (Cond.methodLink "RetryChains" (55 : Nat) y_hi_keep) ∈ gw := in_2 (List.mem_of_getElem? (i := 135) rfl) rfl
theorem k_376 : (Cond.instanceMethod y_hi_keep) ∈ gw := in_2 (List.mem_of_getElem? (i := 136) rfl) rfl
theorem k_377 : (Cond.selects "RetryChains$History" y_hi_keep y_hi_keep) ∈ gw := in_2 (List.mem_of_getElem? (i := 137) rfl) rfl
theorem k_378 : (Cond.code y_hi_keep b_hi_keep (2 : Nat) (Option.none : Option Jvm.ClassFile.FieldType)) ∈ gw := in_2 (List.mem_of_getElem? (i := 138) rfl) rfl
theorem k_379 : (Cond.methodLink "RetryChains$History" (25 : Nat) y_jm_floorMod) ∈ gw := in_2 (List.mem_of_getElem? (i := 139) rfl) rfl
theorem k_380 : (Cond.static y_jm_floorMod) ∈ gw := in_2 (List.mem_of_getElem? (i := 140) rfl) rfl
theorem k_381 : (Cond.code y_jm_floorMod b_jm_floorMod (3 : Nat) (Option.some Jvm.ClassFile.FieldType.int)) ∈ gw := in_2 (List.mem_of_getElem? (i := 141) rfl) rfl
theorem k_382 : (Cond.methodLink "RetryChains$History" (31 : Nat) y_nt_become) ∈ gw := in_2 (List.mem_of_getElem? (i := 142) rfl) rfl
theorem k_383 : (Cond.instanceMethod y_nt_become) ∈ gw := in_2 (List.mem_of_getElem? (i := 143) rfl) rfl
theorem k_384 : (Cond.selects "RetryChains$Network" y_nt_become y_nt_become) ∈ gw := in_2 (List.mem_of_getElem? (i := 144) rfl) rfl
theorem k_385 : (Cond.code y_nt_become b_nt_become (3 : Nat) (Option.none : Option Jvm.ClassFile.FieldType)) ∈ gw := in_2 (List.mem_of_getElem? (i := 145) rfl) rfl
theorem k_386 : (Cond.methodLink "RetryChains$Network" (55 : Nat) y_tb_become) ∈ gw := in_2 (List.mem_of_getElem? (i := 146) rfl) rfl
theorem k_387 : (Cond.instanceMethod y_tb_become) ∈ gw := in_2 (List.mem_of_getElem? (i := 147) rfl) rfl
theorem k_388 : (Cond.selects "RetryChains$RateTable" y_tb_become y_tb_become) ∈ gw := in_2 (List.mem_of_getElem? (i := 148) rfl) rfl
theorem k_389 : (Cond.code y_tb_become b_tb_become (2 : Nat) (Option.none : Option Jvm.ClassFile.FieldType)) ∈ gw := in_2 (List.mem_of_getElem? (i := 149) rfl) rfl
theorem k_390 : (Cond.methodLink "RetryChains$RateTable" (25 : Nat) ({ cls := "java/lang/System", name := "arraycopy", desc := "(Ljava/lang/Object;ILjava/lang/Object;II)V" } : Jvm.MethodName)) ∈ gw := in_2 (List.mem_of_getElem? (i := 150) rfl) rfl
theorem k_391 : (Cond.static ({ cls := "java/lang/System", name := "arraycopy", desc := "(Ljava/lang/Object;ILjava/lang/Object;II)V" } : Jvm.MethodName)) ∈ gw := in_2 (List.mem_of_getElem? (i := 151) rfl) rfl
theorem k_392 : (Cond.native ({ cls := "java/lang/System", name := "arraycopy", desc := "(Ljava/lang/Object;ILjava/lang/Object;II)V" } : Jvm.MethodName)) ∈ gw := in_2 (List.mem_of_getElem? (i := 152) rfl) rfl
theorem k_393 : (Cond.methodLink "RetryChains$Network" (59 : Nat) y_st_become) ∈ gw := in_2 (List.mem_of_getElem? (i := 153) rfl) rfl
theorem k_394 : (Cond.instanceMethod y_st_become) ∈ gw := in_2 (List.mem_of_getElem? (i := 154) rfl) rfl
theorem k_395 : (Cond.selects "RetryChains$Station" y_st_become y_st_become) ∈ gw := in_2 (List.mem_of_getElem? (i := 155) rfl) rfl
theorem k_396 : (Cond.code y_st_become b_st_become (3 : Nat) (Option.none : Option Jvm.ClassFile.FieldType)) ∈ gw := in_2 (List.mem_of_getElem? (i := 156) rfl) rfl
theorem k_397 : (Cond.methodLink "RetryChains$Station" (41 : Nat) y_lk_become) ∈ gw := in_2 (List.mem_of_getElem? (i := 157) rfl) rfl
theorem k_398 : (Cond.instanceMethod y_lk_become) ∈ gw := in_2 (List.mem_of_getElem? (i := 158) rfl) rfl
theorem k_399 : (Cond.selects "RetryChains$Link" y_lk_become y_lk_become) ∈ gw := in_2 (List.mem_of_getElem? (i := 159) rfl) rfl
theorem k_400 : (Cond.code y_lk_become b_lk_become (2 : Nat) (Option.none : Option Jvm.ClassFile.FieldType)) ∈ gw := in_2 (List.mem_of_getElem? (i := 160) rfl) rfl
theorem k_401 : (Cond.methodLink "RetryChains$Station" (45 : Nat) ({ cls := "java/lang/System", name := "arraycopy", desc := "(Ljava/lang/Object;ILjava/lang/Object;II)V" } : Jvm.MethodName)) ∈ gw := in_2 (List.mem_of_getElem? (i := 161) rfl) rfl
theorem k_402 : (Cond.methodLink "RetryChains$Network" (62 : Nat) y_ch_become) ∈ gw := in_2 (List.mem_of_getElem? (i := 162) rfl) rfl
theorem k_403 : (Cond.instanceMethod y_ch_become) ∈ gw := in_2 (List.mem_of_getElem? (i := 163) rfl) rfl
theorem k_404 : (Cond.selects "RetryChains$Chain" y_ch_become y_ch_become) ∈ gw := in_2 (List.mem_of_getElem? (i := 164) rfl) rfl
theorem k_405 : (Cond.code y_ch_become b_ch_become (2 : Nat) (Option.none : Option Jvm.ClassFile.FieldType)) ∈ gw := in_2 (List.mem_of_getElem? (i := 165) rfl) rfl
theorem k_406 : (Cond.methodLink "RetryChains$Chain" (35 : Nat) ({ cls := "java/lang/System", name := "arraycopy", desc := "(Ljava/lang/Object;ILjava/lang/Object;II)V" } : Jvm.MethodName)) ∈ gw := in_2 (List.mem_of_getElem? (i := 166) rfl) rfl
theorem k_407 : (Cond.methodLink "RetryChains$Network" (65 : Nat) y_lo_become) ∈ gw := in_2 (List.mem_of_getElem? (i := 167) rfl) rfl
theorem k_408 : (Cond.instanceMethod y_lo_become) ∈ gw := in_2 (List.mem_of_getElem? (i := 168) rfl) rfl
theorem k_409 : (Cond.selects "RetryChains$EventLog" y_lo_become y_lo_become) ∈ gw := in_2 (List.mem_of_getElem? (i := 169) rfl) rfl
theorem k_410 : (Cond.code y_lo_become b_lo_become (3 : Nat) (Option.none : Option Jvm.ClassFile.FieldType)) ∈ gw := in_2 (List.mem_of_getElem? (i := 170) rfl) rfl
theorem k_411 : (Cond.methodLink "RetryChains$EventLog" (20 : Nat) ({ cls := "java/lang/System", name := "arraycopy", desc := "(Ljava/lang/Object;ILjava/lang/Object;II)V" } : Jvm.MethodName)) ∈ gw := in_2 (List.mem_of_getElem? (i := 171) rfl) rfl
theorem k_412 : (Cond.methodLink "RetryChains" (59 : Nat) y_tb_append) ∈ gw := in_2 (List.mem_of_getElem? (i := 172) rfl) rfl
theorem k_413 : (Cond.instanceMethod y_tb_append) ∈ gw := in_2 (List.mem_of_getElem? (i := 173) rfl) rfl
theorem k_414 : (Cond.selects "RetryChains$RateTable" y_tb_append y_tb_append) ∈ gw := in_2 (List.mem_of_getElem? (i := 174) rfl) rfl
theorem k_415 : (Cond.code y_tb_append b_tb_append (4 : Nat) (Option.some Jvm.ClassFile.FieldType.int)) ∈ gw := in_2 (List.mem_of_getElem? (i := 175) rfl) rfl
theorem k_416 : (Cond.methodLink "RetryChains$RateTable" (31 : Nat) y_tb_timeInAir) ∈ gw := in_2 (List.mem_of_getElem? (i := 176) rfl) rfl
theorem k_417 : (Cond.instanceMethod y_tb_timeInAir) ∈ gw := in_2 (List.mem_of_getElem? (i := 177) rfl) rfl
theorem k_418 : (Cond.selects "RetryChains$RateTable" y_tb_timeInAir y_tb_timeInAir) ∈ gw := in_2 (List.mem_of_getElem? (i := 178) rfl) rfl
theorem k_419 : (Cond.code y_tb_timeInAir b_tb_timeInAir (5 : Nat) (Option.some Jvm.ClassFile.FieldType.int)) ∈ gw := in_2 (List.mem_of_getElem? (i := 179) rfl) rfl
theorem k_420 : (Cond.methodLink "RetryChains$RateTable" (35 : Nat) y_tb_has) ∈ gw := in_2 (List.mem_of_getElem? (i := 180) rfl) rfl
theorem k_421 : (Cond.instanceMethod y_tb_has) ∈ gw := in_2 (List.mem_of_getElem? (i := 181) rfl) rfl
theorem k_422 : (Cond.selects "RetryChains$RateTable" y_tb_has y_tb_has) ∈ gw := in_2 (List.mem_of_getElem? (i := 182) rfl) rfl
theorem k_423 : (Cond.code y_tb_has b_tb_has (2 : Nat) (Option.some Jvm.ClassFile.FieldType.boolean)) ∈ gw := in_2 (List.mem_of_getElem? (i := 183) rfl) rfl
theorem k_424 : (Cond.methodLink "RetryChains$RateTable" (39 : Nat) y_jm_max) ∈ gw := in_2 (List.mem_of_getElem? (i := 184) rfl) rfl
theorem k_425 : (Cond.static y_jm_max) ∈ gw := in_2 (List.mem_of_getElem? (i := 185) rfl) rfl
theorem k_426 : Cond.code Lib.Math.max.name Lib.Math.max.code 2 (some .int) ∈ gw := in_2 (List.mem_of_getElem? (i := 186) rfl) rfl
theorem k_427 : (Cond.methodLink "RetryChains$RateTable" (44 : Nat) y_tb_dividedUp) ∈ gw := in_2 (List.mem_of_getElem? (i := 187) rfl) rfl
theorem k_428 : (Cond.static y_tb_dividedUp) ∈ gw := in_2 (List.mem_of_getElem? (i := 188) rfl) rfl
theorem k_429 : (Cond.code y_tb_dividedUp b_tb_dividedUp (2 : Nat) (Option.some Jvm.ClassFile.FieldType.int)) ∈ gw := in_2 (List.mem_of_getElem? (i := 189) rfl) rfl
theorem k_430 : (Cond.methodLink "RetryChains" (70 : Nat) y_st_fillRoles) ∈ gw := in_2 (List.mem_of_getElem? (i := 190) rfl) rfl
theorem k_431 : (Cond.instanceMethod y_st_fillRoles) ∈ gw := in_2 (List.mem_of_getElem? (i := 191) rfl) rfl
theorem k_432 : (Cond.selects "RetryChains$Station" y_st_fillRoles y_st_fillRoles) ∈ gw := in_2 (List.mem_of_getElem? (i := 192) rfl) rfl
theorem k_433 : (Cond.code y_st_fillRoles b_st_fillRoles (4 : Nat) (Option.none : Option Jvm.ClassFile.FieldType)) ∈ gw := in_2 (List.mem_of_getElem? (i := 193) rfl) rfl
theorem k_434 : (Cond.methodLink "RetryChains$Station" (98 : Nat) y_st_highest) ∈ gw := in_2 (List.mem_of_getElem? (i := 194) rfl) rfl
theorem k_436 : (Cond.instanceMethod y_st_highest) ∈ gw := in_2 (List.mem_of_getElem? (i := 196) rfl) rfl
theorem k_437 : (Cond.code y_st_highest b_st_highest (15 : Nat) (Option.some Jvm.ClassFile.FieldType.int)) ∈ gw := in_2 (List.mem_of_getElem? (i := 197) rfl) rfl
theorem k_438 : (Cond.methodLink "RetryChains$Station" (107 : Nat) y_lk_estimateOrZero) ∈ gw := in_2 (List.mem_of_getElem? (i := 198) rfl) rfl
theorem k_439 : (Cond.instanceMethod y_lk_estimateOrZero) ∈ gw := in_2 (List.mem_of_getElem? (i := 199) rfl) rfl
theorem k_440 : (Cond.selects "RetryChains$Link" y_lk_estimateOrZero y_lk_estimateOrZero) ∈ gw := in_2 (List.mem_of_getElem? (i := 200) rfl) rfl
theorem k_441 : (Cond.code y_lk_estimateOrZero b_lk_estimateOrZero (1 : Nat) (Option.some Jvm.ClassFile.FieldType.int)) ∈ gw := in_2 (List.mem_of_getElem? (i := 201) rfl) rfl
theorem k_442 : (Cond.methodLink "RetryChains$Station" (114 : Nat) y_lk_value) ∈ gw := in_2 (List.mem_of_getElem? (i := 202) rfl) rfl
theorem k_443 : (Cond.instanceMethod y_lk_value) ∈ gw := in_2 (List.mem_of_getElem? (i := 203) rfl) rfl
theorem k_444 : (Cond.selects "RetryChains$Link" y_lk_value y_lk_value) ∈ gw := in_2 (List.mem_of_getElem? (i := 204) rfl) rfl
theorem k_445 : (Cond.code y_lk_value b_lk_value (3 : Nat) (Option.some Jvm.ClassFile.FieldType.int)) ∈ gw := in_2 (List.mem_of_getElem? (i := 205) rfl) rfl
theorem k_446 : (Cond.constant "RetryChains$Link" (37 : Nat) (58982 : Int32)) ∈ gw := in_2 (List.mem_of_getElem? (i := 206) rfl) rfl
theorem k_447 : (Cond.constant "RetryChains$Station" (102 : Nat) (62259 : Int32)) ∈ gw := in_2 (List.mem_of_getElem? (i := 207) rfl) rfl
theorem k_448 : (Cond.methodLink "RetryChains$Station" (103 : Nat) y_st_slowestAllowed) ∈ gw := in_2 (List.mem_of_getElem? (i := 208) rfl) rfl
theorem k_450 : (Cond.instanceMethod y_st_slowestAllowed) ∈ gw := in_2 (List.mem_of_getElem? (i := 210) rfl) rfl
theorem k_451 : (Cond.code y_st_slowestAllowed b_st_slowestAllowed (5 : Nat) (Option.some Jvm.ClassFile.FieldType.int)) ∈ gw := in_2 (List.mem_of_getElem? (i := 211) rfl) rfl
theorem k_455 : (Cond.code y_rc_addStation b_rc_addStation (3 : Nat) (Option.some Jvm.ClassFile.FieldType.int)) ∈ gw := in_2 (List.mem_of_getElem? (i := 215) rfl) rfl
theorem k_456 : (Cond.methodLink "RetryChains" (76 : Nat) y_nt_endOfNewInterval) ∈ gw := in_2 (List.mem_of_getElem? (i := 216) rfl) rfl
theorem k_457 : (Cond.instanceMethod y_nt_endOfNewInterval) ∈ gw := in_2 (List.mem_of_getElem? (i := 217) rfl) rfl
theorem k_458 : (Cond.selects "RetryChains$Network" y_nt_endOfNewInterval y_nt_endOfNewInterval) ∈ gw := in_2 (List.mem_of_getElem? (i := 218) rfl) rfl
theorem k_459 : (Cond.code y_nt_endOfNewInterval b_nt_endOfNewInterval (1 : Nat) (Option.some Jvm.ClassFile.FieldType.long)) ∈ gw := in_2 (List.mem_of_getElem? (i := 219) rfl) rfl
theorem k_463 : (Cond.code y_rc_allow b_rc_allow (7 : Nat) (Option.some Jvm.ClassFile.FieldType.int)) ∈ gw := in_2 (List.mem_of_getElem? (i := 223) rfl) rfl
theorem k_464 : (Cond.methodLink "RetryChains" (84 : Nat) y_nt_stationAt) ∈ gw := in_2 (List.mem_of_getElem? (i := 224) rfl) rfl
theorem k_465 : (Cond.instanceMethod y_nt_stationAt) ∈ gw := in_2 (List.mem_of_getElem? (i := 225) rfl) rfl
theorem k_466 : (Cond.selects "RetryChains$Network" y_nt_stationAt y_nt_stationAt) ∈ gw := in_2 (List.mem_of_getElem? (i := 226) rfl) rfl
theorem k_467 : (Cond.code y_nt_stationAt b_nt_stationAt (3 : Nat) (Option.some (Jvm.ClassFile.FieldType.object "RetryChains$Station"))) ∈ gw := in_2 (List.mem_of_getElem? (i := 227) rfl) rfl
theorem k_468 : (Cond.methodLink "RetryChains" (88 : Nat) y_nt_linkAt) ∈ gw := in_2 (List.mem_of_getElem? (i := 228) rfl) rfl
theorem k_469 : (Cond.instanceMethod y_nt_linkAt) ∈ gw := in_2 (List.mem_of_getElem? (i := 229) rfl) rfl
theorem k_470 : (Cond.selects "RetryChains$Network" y_nt_linkAt y_nt_linkAt) ∈ gw := in_2 (List.mem_of_getElem? (i := 230) rfl) rfl
theorem k_471 : (Cond.code y_nt_linkAt b_nt_linkAt (4 : Nat) (Option.some (Jvm.ClassFile.FieldType.object "RetryChains$Link"))) ∈ gw := in_2 (List.mem_of_getElem? (i := 231) rfl) rfl
theorem k_472 : (Cond.methodLink "RetryChains$Network" (77 : Nat) y_nt_stationAt) ∈ gw := in_2 (List.mem_of_getElem? (i := 232) rfl) rfl
theorem k_473 : (Cond.methodLink "RetryChains$Network" (81 : Nat) y_tb_has) ∈ gw := in_2 (List.mem_of_getElem? (i := 233) rfl) rfl
theorem k_477 : (Cond.code y_rc_setShare b_rc_setShare (3 : Nat) (Option.some Jvm.ClassFile.FieldType.int)) ∈ gw := in_2 (List.mem_of_getElem? (i := 237) rfl) rfl
theorem k_481 : (Cond.code y_rc_setWeight b_rc_setWeight (3 : Nat) (Option.some Jvm.ClassFile.FieldType.int)) ∈ gw := in_3 (List.mem_of_getElem? (i := 1) rfl) rfl
theorem k_485 : (Cond.code y_rc_setInterval b_rc_setInterval (3 : Nat) (Option.some Jvm.ClassFile.FieldType.int)) ∈ gw := in_3 (List.mem_of_getElem? (i := 5) rfl) rfl
theorem k_486 : (Cond.constant "RetryChains" (104 : Nat) (1000000 : Int32)) ∈ gw := in_3 (List.mem_of_getElem? (i := 6) rfl) rfl
theorem k_490 : (Cond.code y_rc_setBudget b_rc_setBudget (3 : Nat) (Option.some Jvm.ClassFile.FieldType.int)) ∈ gw := in_3 (List.mem_of_getElem? (i := 10) rfl) rfl
theorem k_491 : (Cond.constant "RetryChains" (108 : Nat) (100000 : Int32)) ∈ gw := in_3 (List.mem_of_getElem? (i := 11) rfl) rfl
theorem k_495 : (Cond.code y_rc_lay b_rc_lay (4 : Nat) (Option.some Jvm.ClassFile.FieldType.int)) ∈ gw := in_3 (List.mem_of_getElem? (i := 15) rfl) rfl
theorem k_496 : (Cond.methodLink "RetryChains" (112 : Nat) y_rc_isFrame) ∈ gw := in_3 (List.mem_of_getElem? (i := 16) rfl) rfl
theorem k_497 : (Cond.static y_rc_isFrame) ∈ gw := in_3 (List.mem_of_getElem? (i := 17) rfl) rfl
theorem k_498 : (Cond.code y_rc_isFrame b_rc_isFrame (1 : Nat) (Option.some Jvm.ClassFile.FieldType.boolean)) ∈ gw := in_3 (List.mem_of_getElem? (i := 18) rfl) rfl
theorem k_499 : (Cond.methodLink "RetryChains" (115 : Nat) y_st_hasAllowedRate) ∈ gw := in_3 (List.mem_of_getElem? (i := 19) rfl) rfl
theorem k_500 : (Cond.instanceMethod y_st_hasAllowedRate) ∈ gw := in_3 (List.mem_of_getElem? (i := 20) rfl) rfl
theorem k_501 : (Cond.selects "RetryChains$Station" y_st_hasAllowedRate y_st_hasAllowedRate) ∈ gw := in_3 (List.mem_of_getElem? (i := 21) rfl) rfl
theorem k_502 : (Cond.code y_st_hasAllowedRate b_st_hasAllowedRate (3 : Nat) (Option.some Jvm.ClassFile.FieldType.boolean)) ∈ gw := in_3 (List.mem_of_getElem? (i := 22) rfl) rfl
theorem k_503 : (Cond.methodLink "RetryChains" (119 : Nat) y_nt_freeChain) ∈ gw := in_3 (List.mem_of_getElem? (i := 23) rfl) rfl
theorem k_504 : (Cond.instanceMethod y_nt_freeChain) ∈ gw := in_3 (List.mem_of_getElem? (i := 24) rfl) rfl
theorem k_505 : (Cond.selects "RetryChains$Network" y_nt_freeChain y_nt_freeChain) ∈ gw := in_3 (List.mem_of_getElem? (i := 25) rfl) rfl
theorem k_506 : (Cond.code y_nt_freeChain b_nt_freeChain (2 : Nat) (Option.some Jvm.ClassFile.FieldType.int)) ∈ gw := in_3 (List.mem_of_getElem? (i := 26) rfl) rfl
theorem k_507 : (Cond.methodLink "RetryChains" (123 : Nat) y_nt_openChain) ∈ gw := in_3 (List.mem_of_getElem? (i := 27) rfl) rfl
theorem k_508 : (Cond.instanceMethod y_nt_openChain) ∈ gw := in_3 (List.mem_of_getElem? (i := 28) rfl) rfl
theorem k_509 : (Cond.selects "RetryChains$Network" y_nt_openChain y_nt_openChain) ∈ gw := in_3 (List.mem_of_getElem? (i := 29) rfl) rfl
theorem k_510 : (Cond.code y_nt_openChain b_nt_openChain (7 : Nat) (Option.some Jvm.ClassFile.FieldType.int)) ∈ gw := in_3 (List.mem_of_getElem? (i := 30) rfl) rfl
theorem k_511 : (Cond.methodLink "RetryChains$Network" (93 : Nat) y_nt_freeChain) ∈ gw := in_3 (List.mem_of_getElem? (i := 31) rfl) rfl
theorem k_512 : (Cond.methodLink "RetryChains$Network" (109 : Nat) y_st_noteRefusal) ∈ gw := in_3 (List.mem_of_getElem? (i := 32) rfl) rfl
theorem k_513 : (Cond.instanceMethod y_st_noteRefusal) ∈ gw := in_3 (List.mem_of_getElem? (i := 33) rfl) rfl
theorem k_514 : (Cond.selects "RetryChains$Station" y_st_noteRefusal y_st_noteRefusal) ∈ gw := in_3 (List.mem_of_getElem? (i := 34) rfl) rfl
theorem k_515 : (Cond.code y_st_noteRefusal b_st_noteRefusal (4 : Nat) (Option.none : Option Jvm.ClassFile.FieldType)) ∈ gw := in_3 (List.mem_of_getElem? (i := 35) rfl) rfl
theorem k_516 : (Cond.methodLink "RetryChains$Network" (116 : Nat) y_nt_drawCandidate) ∈ gw := in_3 (List.mem_of_getElem? (i := 36) rfl) rfl
theorem k_518 : (Cond.instanceMethod y_nt_drawCandidate) ∈ gw := in_3 (List.mem_of_getElem? (i := 38) rfl) rfl
theorem k_519 : (Cond.code y_nt_drawCandidate b_nt_drawCandidate (5 : Nat) (Option.some Jvm.ClassFile.FieldType.int)) ∈ gw := in_3 (List.mem_of_getElem? (i := 39) rfl) rfl
theorem k_521 : (Cond.static y_rc_nextDraw) ∈ gw := in_3 (List.mem_of_getElem? (i := 41) rfl) rfl
theorem k_522 : (Cond.code y_rc_nextDraw b_rc_nextDraw (1 : Nat) (Option.some Jvm.ClassFile.FieldType.int)) ∈ gw := in_3 (List.mem_of_getElem? (i := 42) rfl) rfl
theorem k_523 : (Cond.constant "RetryChains" (355 : Nat) (1103515245 : Int32)) ∈ gw := in_3 (List.mem_of_getElem? (i := 43) rfl) rfl
theorem k_524 : (Cond.methodLink "RetryChains$Network" (163 : Nat) y_jm_max) ∈ gw := in_3 (List.mem_of_getElem? (i := 44) rfl) rfl
theorem k_525 : (Cond.methodLink "RetryChains$Network" (169 : Nat) y_nt_causeAgainst) ∈ gw := in_3 (List.mem_of_getElem? (i := 45) rfl) rfl
theorem k_527 : (Cond.instanceMethod y_nt_causeAgainst) ∈ gw := in_3 (List.mem_of_getElem? (i := 47) rfl) rfl
theorem k_528 : (Cond.code y_nt_causeAgainst b_nt_causeAgainst (5 : Nat) (Option.some Jvm.ClassFile.FieldType.int)) ∈ gw := in_3 (List.mem_of_getElem? (i := 48) rfl) rfl
theorem k_529 : (Cond.methodLink "RetryChains$Network" (173 : Nat) y_nt_roleCause) ∈ gw := in_3 (List.mem_of_getElem? (i := 49) rfl) rfl
theorem k_530 : (Cond.static y_nt_roleCause) ∈ gw := in_3 (List.mem_of_getElem? (i := 50) rfl) rfl
theorem k_531 : (Cond.code y_nt_roleCause b_nt_roleCause (3 : Nat) (Option.some Jvm.ClassFile.FieldType.int)) ∈ gw := in_3 (List.mem_of_getElem? (i := 51) rfl) rfl
theorem k_532 : (Cond.constant "RetryChains$Network" (184 : Nat) (62259 : Int32)) ∈ gw := in_3 (List.mem_of_getElem? (i := 52) rfl) rfl
theorem k_533 : (Cond.methodLink "RetryChains$Network" (150 : Nat) y_tb_nominalOf) ∈ gw := in_3 (List.mem_of_getElem? (i := 53) rfl) rfl
theorem k_534 : (Cond.instanceMethod y_tb_nominalOf) ∈ gw := in_3 (List.mem_of_getElem? (i := 54) rfl) rfl
theorem k_535 : (Cond.selects "RetryChains$RateTable" y_tb_nominalOf y_tb_nominalOf) ∈ gw := in_3 (List.mem_of_getElem? (i := 55) rfl) rfl
theorem k_536 : (Cond.code y_tb_nominalOf b_tb_nominalOf (2 : Nat) (Option.some Jvm.ClassFile.FieldType.int)) ∈ gw := in_3 (List.mem_of_getElem? (i := 56) rfl) rfl
theorem k_537 : (Cond.methodLink "RetryChains$Network" (120 : Nat) y_nt_chooseRates) ∈ gw := in_3 (List.mem_of_getElem? (i := 57) rfl) rfl
theorem k_539 : (Cond.instanceMethod y_nt_chooseRates) ∈ gw := in_3 (List.mem_of_getElem? (i := 59) rfl) rfl
theorem k_540 : (Cond.code y_nt_chooseRates b_nt_chooseRates (8 : Nat) (Option.none : Option Jvm.ClassFile.FieldType)) ∈ gw := in_3 (List.mem_of_getElem? (i := 60) rfl) rfl
theorem k_541 : (Cond.methodLink "RetryChains$Network" (143 : Nat) y_ch_setRates) ∈ gw := in_3 (List.mem_of_getElem? (i := 61) rfl) rfl
theorem k_542 : (Cond.instanceMethod y_ch_setRates) ∈ gw := in_3 (List.mem_of_getElem? (i := 62) rfl) rfl
theorem k_543 : (Cond.selects "RetryChains$Chain" y_ch_setRates y_ch_setRates) ∈ gw := in_3 (List.mem_of_getElem? (i := 63) rfl) rfl
theorem k_544 : (Cond.code y_ch_setRates b_ch_setRates (5 : Nat) (Option.none : Option Jvm.ClassFile.FieldType)) ∈ gw := in_3 (List.mem_of_getElem? (i := 64) rfl) rfl
theorem k_545 : (Cond.methodLink "RetryChains$Network" (133 : Nat) y_tb_triesWithin) ∈ gw := in_3 (List.mem_of_getElem? (i := 65) rfl) rfl
theorem k_546 : (Cond.instanceMethod y_tb_triesWithin) ∈ gw := in_3 (List.mem_of_getElem? (i := 66) rfl) rfl
theorem k_547 : (Cond.selects "RetryChains$RateTable" y_tb_triesWithin y_tb_triesWithin) ∈ gw := in_3 (List.mem_of_getElem? (i := 67) rfl) rfl
theorem k_548 : (Cond.code y_tb_triesWithin b_tb_triesWithin (6 : Nat) (Option.some Jvm.ClassFile.FieldType.int)) ∈ gw := in_3 (List.mem_of_getElem? (i := 68) rfl) rfl
theorem k_549 : (Cond.methodLink "RetryChains$RateTable" (50 : Nat) y_tb_timeOfTry) ∈ gw := in_3 (List.mem_of_getElem? (i := 69) rfl) rfl
theorem k_550 : (Cond.instanceMethod y_tb_timeOfTry) ∈ gw := in_3 (List.mem_of_getElem? (i := 70) rfl) rfl
theorem k_551 : (Cond.selects "RetryChains$RateTable" y_tb_timeOfTry y_tb_timeOfTry) ∈ gw := in_3 (List.mem_of_getElem? (i := 71) rfl) rfl
theorem k_552 : (Cond.code y_tb_timeOfTry b_tb_timeOfTry (4 : Nat) (Option.some Jvm.ClassFile.FieldType.int)) ∈ gw := in_3 (List.mem_of_getElem? (i := 72) rfl) rfl
theorem k_553 : (Cond.methodLink "RetryChains$RateTable" (47 : Nat) y_jm_min) ∈ gw := in_3 (List.mem_of_getElem? (i := 73) rfl) rfl
theorem k_554 : (Cond.static y_jm_min) ∈ gw := in_3 (List.mem_of_getElem? (i := 74) rfl) rfl
theorem k_555 : Cond.code Lib.Math.min.name Lib.Math.min.code 2 (some .int) ∈ gw := in_3 (List.mem_of_getElem? (i := 75) rfl) rfl
theorem k_559 : (Cond.code y_rc_enqueue b_rc_enqueue (4 : Nat) (Option.some Jvm.ClassFile.FieldType.int)) ∈ gw := in_3 (List.mem_of_getElem? (i := 79) rfl) rfl
theorem k_560 : (Cond.methodLink "RetryChains" (130 : Nat) y_st_appendFrame) ∈ gw := in_3 (List.mem_of_getElem? (i := 80) rfl) rfl
theorem k_561 : (Cond.instanceMethod y_st_appendFrame) ∈ gw := in_3 (List.mem_of_getElem? (i := 81) rfl) rfl
theorem k_562 : (Cond.selects "RetryChains$Station" y_st_appendFrame y_st_appendFrame) ∈ gw := in_3 (List.mem_of_getElem? (i := 82) rfl) rfl
theorem k_563 : (Cond.code y_st_appendFrame b_st_appendFrame (2 : Nat) (Option.some Jvm.ClassFile.FieldType.int)) ∈ gw := in_3 (List.mem_of_getElem? (i := 83) rfl) rfl
theorem k_567 : (Cond.code y_rc_dispatch b_rc_dispatch (2 : Nat) (Option.some Jvm.ClassFile.FieldType.int)) ∈ gw := in_3 (List.mem_of_getElem? (i := 87) rfl) rfl
theorem k_568 : (Cond.methodLink "RetryChains" (134 : Nat) y_nt_hasReadyStation) ∈ gw := in_3 (List.mem_of_getElem? (i := 88) rfl) rfl
theorem k_569 : (Cond.instanceMethod y_nt_hasReadyStation) ∈ gw := in_3 (List.mem_of_getElem? (i := 89) rfl) rfl
theorem k_570 : (Cond.selects "RetryChains$Network" y_nt_hasReadyStation y_nt_hasReadyStation) ∈ gw := in_3 (List.mem_of_getElem? (i := 90) rfl) rfl
theorem k_571 : (Cond.code y_nt_hasReadyStation b_nt_hasReadyStation (2 : Nat) (Option.some Jvm.ClassFile.FieldType.boolean)) ∈ gw := in_3 (List.mem_of_getElem? (i := 91) rfl) rfl
theorem k_572 : (Cond.methodLink "RetryChains$Network" (187 : Nat) y_st_isReady) ∈ gw := in_3 (List.mem_of_getElem? (i := 92) rfl) rfl
theorem k_573 : (Cond.instanceMethod y_st_isReady) ∈ gw := in_3 (List.mem_of_getElem? (i := 93) rfl) rfl
theorem k_574 : (Cond.selects "RetryChains$Station" y_st_isReady y_st_isReady) ∈ gw := in_3 (List.mem_of_getElem? (i := 94) rfl) rfl
theorem k_575 : (Cond.code y_st_isReady b_st_isReady (2 : Nat) (Option.some Jvm.ClassFile.FieldType.boolean)) ∈ gw := in_3 (List.mem_of_getElem? (i := 95) rfl) rfl
theorem k_576 : (Cond.methodLink "RetryChains$Station" (88 : Nat) y_st_hasAllowedRate) ∈ gw := in_3 (List.mem_of_getElem? (i := 96) rfl) rfl
theorem k_577 : (Cond.methodLink "RetryChains" (138 : Nat) y_nt_chooseByDeficit) ∈ gw := in_3 (List.mem_of_getElem? (i := 97) rfl) rfl
theorem k_578 : (Cond.instanceMethod y_nt_chooseByDeficit) ∈ gw := in_3 (List.mem_of_getElem? (i := 98) rfl) rfl
theorem k_579 : (Cond.selects "RetryChains$Network" y_nt_chooseByDeficit y_nt_chooseByDeficit) ∈ gw := in_3 (List.mem_of_getElem? (i := 99) rfl) rfl
theorem k_580 : (Cond.code y_nt_chooseByDeficit b_nt_chooseByDeficit (3 : Nat) (Option.some (Jvm.ClassFile.FieldType.object "RetryChains$Station"))) ∈ gw := in_3 (List.mem_of_getElem? (i := 100) rfl) rfl
theorem k_581 : (Cond.constant "RetryChains$Network" (191 : Nat) (1000000 : Int32)) ∈ gw := in_3 (List.mem_of_getElem? (i := 101) rfl) rfl
theorem k_582 : (Cond.methodLink "RetryChains" (142 : Nat) y_st_takeFrame) ∈ gw := in_3 (List.mem_of_getElem? (i := 102) rfl) rfl
theorem k_583 : (Cond.instanceMethod y_st_takeFrame) ∈ gw := in_3 (List.mem_of_getElem? (i := 103) rfl) rfl
theorem k_584 : (Cond.selects "RetryChains$Station" y_st_takeFrame y_st_takeFrame) ∈ gw := in_3 (List.mem_of_getElem? (i := 104) rfl) rfl
theorem k_585 : (Cond.code y_st_takeFrame b_st_takeFrame (2 : Nat) (Option.some Jvm.ClassFile.FieldType.int)) ∈ gw := in_3 (List.mem_of_getElem? (i := 105) rfl) rfl
theorem k_586 : (Cond.methodLink "RetryChains$Station" (92 : Nat) y_jm_max) ∈ gw := in_3 (List.mem_of_getElem? (i := 106) rfl) rfl
theorem k_590 : (Cond.code y_rc_report b_rc_report (6 : Nat) (Option.some Jvm.ClassFile.FieldType.int)) ∈ gw := in_3 (List.mem_of_getElem? (i := 110) rfl) rfl
theorem k_591 : (Cond.methodLink "RetryChains" (145 : Nat) y_nt_chainAt) ∈ gw := in_3 (List.mem_of_getElem? (i := 111) rfl) rfl
theorem k_592 : (Cond.instanceMethod y_nt_chainAt) ∈ gw := in_3 (List.mem_of_getElem? (i := 112) rfl) rfl
theorem k_593 : (Cond.selects "RetryChains$Network" y_nt_chainAt y_nt_chainAt) ∈ gw := in_3 (List.mem_of_getElem? (i := 113) rfl) rfl
theorem k_594 : (Cond.code y_nt_chainAt b_nt_chainAt (3 : Nat) (Option.some (Jvm.ClassFile.FieldType.object "RetryChains$Chain"))) ∈ gw := in_3 (List.mem_of_getElem? (i := 114) rfl) rfl
theorem k_595 : (Cond.methodLink "RetryChains" (149 : Nat) y_ch_allTries) ∈ gw := in_3 (List.mem_of_getElem? (i := 115) rfl) rfl
theorem k_596 : (Cond.instanceMethod y_ch_allTries) ∈ gw := in_3 (List.mem_of_getElem? (i := 116) rfl) rfl
theorem k_597 : (Cond.selects "RetryChains$Chain" y_ch_allTries y_ch_allTries) ∈ gw := in_3 (List.mem_of_getElem? (i := 117) rfl) rfl
theorem k_598 : (Cond.code y_ch_allTries b_ch_allTries (3 : Nat) (Option.some Jvm.ClassFile.FieldType.int)) ∈ gw := in_3 (List.mem_of_getElem? (i := 118) rfl) rfl
theorem k_599 : (Cond.methodLink "RetryChains" (154 : Nat) y_nt_timeOfTries) ∈ gw := in_3 (List.mem_of_getElem? (i := 119) rfl) rfl
theorem k_600 : (Cond.instanceMethod y_nt_timeOfTries) ∈ gw := in_3 (List.mem_of_getElem? (i := 120) rfl) rfl
theorem k_601 : (Cond.selects "RetryChains$Network" y_nt_timeOfTries y_nt_timeOfTries) ∈ gw := in_3 (List.mem_of_getElem? (i := 121) rfl) rfl
theorem k_602 : (Cond.code y_nt_timeOfTries b_nt_timeOfTries (8 : Nat) (Option.some Jvm.ClassFile.FieldType.int)) ∈ gw := in_3 (List.mem_of_getElem? (i := 122) rfl) rfl
theorem k_603 : (Cond.methodLink "RetryChains$Network" (195 : Nat) y_jm_min) ∈ gw := in_3 (List.mem_of_getElem? (i := 123) rfl) rfl
theorem k_604 : (Cond.methodLink "RetryChains$Network" (198 : Nat) y_tb_timeOfTry) ∈ gw := in_3 (List.mem_of_getElem? (i := 124) rfl) rfl
theorem k_605 : (Cond.constant "RetryChains" (158 : Nat) (2147483647 : Int32)) ∈ gw := in_3 (List.mem_of_getElem? (i := 125) rfl) rfl
theorem k_606 : (Cond.methodLink "RetryChains" (162 : Nat) y_nt_conclude) ∈ gw := in_3 (List.mem_of_getElem? (i := 126) rfl) rfl
theorem k_607 : (Cond.instanceMethod y_nt_conclude) ∈ gw := in_3 (List.mem_of_getElem? (i := 127) rfl) rfl
theorem k_608 : (Cond.selects "RetryChains$Network" y_nt_conclude y_nt_conclude) ∈ gw := in_3 (List.mem_of_getElem? (i := 128) rfl) rfl
theorem k_609 : (Cond.code y_nt_conclude b_nt_conclude (6 : Nat) (Option.none : Option Jvm.ClassFile.FieldType)) ∈ gw := in_3 (List.mem_of_getElem? (i := 129) rfl) rfl
theorem k_610 : (Cond.methodLink "RetryChains$Network" (201 : Nat) y_nt_countTries) ∈ gw := in_3 (List.mem_of_getElem? (i := 130) rfl) rfl
theorem k_612 : (Cond.instanceMethod y_nt_countTries) ∈ gw := in_3 (List.mem_of_getElem? (i := 132) rfl) rfl
theorem k_613 : (Cond.code y_nt_countTries b_nt_countTries (9 : Nat) (Option.none : Option Jvm.ClassFile.FieldType)) ∈ gw := in_3 (List.mem_of_getElem? (i := 133) rfl) rfl
theorem k_614 : (Cond.methodLink "RetryChains$Network" (225 : Nat) y_lk_count) ∈ gw := in_3 (List.mem_of_getElem? (i := 134) rfl) rfl
theorem k_615 : (Cond.instanceMethod y_lk_count) ∈ gw := in_3 (List.mem_of_getElem? (i := 135) rfl) rfl
theorem k_616 : (Cond.selects "RetryChains$Link" y_lk_count y_lk_count) ∈ gw := in_3 (List.mem_of_getElem? (i := 136) rfl) rfl
theorem k_617 : (Cond.code y_lk_count b_lk_count (3 : Nat) (Option.none : Option Jvm.ClassFile.FieldType)) ∈ gw := in_3 (List.mem_of_getElem? (i := 137) rfl) rfl
theorem k_618 : (Cond.methodLink "RetryChains$Network" (205 : Nat) y_nt_timeOfTries) ∈ gw := in_3 (List.mem_of_getElem? (i := 138) rfl) rfl
theorem k_619 : (Cond.constant "RetryChains$Network" (209 : Nat) (-1000000 : Int32)) ∈ gw := in_3 (List.mem_of_getElem? (i := 139) rfl) rfl
theorem k_620 : (Cond.methodLink "RetryChains$Network" (216 : Nat) y_nt_endFallback) ∈ gw := in_3 (List.mem_of_getElem? (i := 140) rfl) rfl
theorem k_622 : (Cond.instanceMethod y_nt_endFallback) ∈ gw := in_3 (List.mem_of_getElem? (i := 142) rfl) rfl
theorem k_623 : (Cond.code y_nt_endFallback b_nt_endFallback (2 : Nat) (Option.none : Option Jvm.ClassFile.FieldType)) ∈ gw := in_3 (List.mem_of_getElem? (i := 143) rfl) rfl
theorem k_624 : (Cond.methodLink "RetryChains$Network" (228 : Nat) y_lo_note) ∈ gw := in_3 (List.mem_of_getElem? (i := 144) rfl) rfl
theorem k_625 : (Cond.instanceMethod y_lo_note) ∈ gw := in_3 (List.mem_of_getElem? (i := 145) rfl) rfl
theorem k_626 : (Cond.selects "RetryChains$EventLog" y_lo_note y_lo_note) ∈ gw := in_3 (List.mem_of_getElem? (i := 146) rfl) rfl
theorem k_627 : (Cond.code y_lo_note b_lo_note (6 : Nat) (Option.none : Option Jvm.ClassFile.FieldType)) ∈ gw := in_3 (List.mem_of_getElem? (i := 147) rfl) rfl
theorem k_628 : (Cond.methodLink "RetryChains$EventLog" (26 : Nat) y_jm_floorMod) ∈ gw := in_3 (List.mem_of_getElem? (i := 148) rfl) rfl
theorem k_629 : (Cond.methodLink "RetryChains$Network" (222 : Nat) y_nt_beginFallback) ∈ gw := in_3 (List.mem_of_getElem? (i := 149) rfl) rfl
theorem k_631 : (Cond.instanceMethod y_nt_beginFallback) ∈ gw := in_3 (List.mem_of_getElem? (i := 151) rfl) rfl
theorem k_632 : (Cond.code y_nt_beginFallback b_nt_beginFallback (2 : Nat) (Option.none : Option Jvm.ClassFile.FieldType)) ∈ gw := in_3 (List.mem_of_getElem? (i := 152) rfl) rfl
theorem k_633 : (Cond.methodLink "RetryChains" (166 : Nat) y_nt_updateEnded) ∈ gw := in_3 (List.mem_of_getElem? (i := 153) rfl) rfl
theorem k_634 : (Cond.instanceMethod y_nt_updateEnded) ∈ gw := in_3 (List.mem_of_getElem? (i := 154) rfl) rfl
theorem k_635 : (Cond.selects "RetryChains$Network" y_nt_updateEnded y_nt_updateEnded) ∈ gw := in_3 (List.mem_of_getElem? (i := 155) rfl) rfl
theorem k_636 : (Cond.code y_nt_updateEnded b_nt_updateEnded (2 : Nat) (Option.none : Option Jvm.ClassFile.FieldType)) ∈ gw := in_3 (List.mem_of_getElem? (i := 156) rfl) rfl
theorem k_637 : (Cond.methodLink "RetryChains$Network" (235 : Nat) y_nt_refresh) ∈ gw := in_3 (List.mem_of_getElem? (i := 157) rfl) rfl
theorem k_638 : (Cond.instanceMethod y_nt_refresh) ∈ gw := in_3 (List.mem_of_getElem? (i := 158) rfl) rfl
theorem k_639 : (Cond.selects "RetryChains$Network" y_nt_refresh y_nt_refresh) ∈ gw := in_3 (List.mem_of_getElem? (i := 159) rfl) rfl
theorem k_640 : (Cond.code y_nt_refresh b_nt_refresh (4 : Nat) (Option.some Jvm.ClassFile.FieldType.int)) ∈ gw := in_3 (List.mem_of_getElem? (i := 160) rfl) rfl
theorem k_641 : (Cond.methodLink "RetryChains$Network" (238 : Nat) y_st_ratesTried) ∈ gw := in_3 (List.mem_of_getElem? (i := 161) rfl) rfl
theorem k_642 : (Cond.instanceMethod y_st_ratesTried) ∈ gw := in_3 (List.mem_of_getElem? (i := 162) rfl) rfl
theorem k_643 : (Cond.selects "RetryChains$Station" y_st_ratesTried y_st_ratesTried) ∈ gw := in_3 (List.mem_of_getElem? (i := 163) rfl) rfl
theorem k_644 : (Cond.code y_st_ratesTried b_st_ratesTried (4 : Nat) (Option.some Jvm.ClassFile.FieldType.int)) ∈ gw := in_3 (List.mem_of_getElem? (i := 164) rfl) rfl
theorem k_645 : (Cond.methodLink "RetryChains$Network" (242 : Nat) y_st_isCollapse) ∈ gw := in_3 (List.mem_of_getElem? (i := 165) rfl) rfl
theorem k_646 : (Cond.instanceMethod y_st_isCollapse) ∈ gw := in_3 (List.mem_of_getElem? (i := 166) rfl) rfl
theorem k_647 : (Cond.selects "RetryChains$Station" y_st_isCollapse y_st_isCollapse) ∈ gw := in_3 (List.mem_of_getElem? (i := 167) rfl) rfl
theorem k_648 : (Cond.code y_st_isCollapse b_st_isCollapse (5 : Nat) (Option.some Jvm.ClassFile.FieldType.boolean)) ∈ gw := in_3 (List.mem_of_getElem? (i := 168) rfl) rfl
theorem k_649 : (Cond.methodLink "RetryChains$Station" (137 : Nat) y_lk_isEstimated) ∈ gw := in_3 (List.mem_of_getElem? (i := 169) rfl) rfl
theorem k_650 : (Cond.instanceMethod y_lk_isEstimated) ∈ gw := in_3 (List.mem_of_getElem? (i := 170) rfl) rfl
theorem k_651 : (Cond.selects "RetryChains$Link" y_lk_isEstimated y_lk_isEstimated) ∈ gw := in_3 (List.mem_of_getElem? (i := 171) rfl) rfl
theorem k_652 : (Cond.code y_lk_isEstimated b_lk_isEstimated (1 : Nat) (Option.some Jvm.ClassFile.FieldType.boolean)) ∈ gw := in_3 (List.mem_of_getElem? (i := 172) rfl) rfl
theorem k_653 : (Cond.methodLink "RetryChains$Station" (141 : Nat) y_lk_sample) ∈ gw := in_3 (List.mem_of_getElem? (i := 173) rfl) rfl
theorem k_654 : (Cond.instanceMethod y_lk_sample) ∈ gw := in_3 (List.mem_of_getElem? (i := 174) rfl) rfl
theorem k_655 : (Cond.selects "RetryChains$Link" y_lk_sample y_lk_sample) ∈ gw := in_3 (List.mem_of_getElem? (i := 175) rfl) rfl
theorem k_656 : (Cond.code y_lk_sample b_lk_sample (1 : Nat) (Option.some Jvm.ClassFile.FieldType.int)) ∈ gw := in_3 (List.mem_of_getElem? (i := 176) rfl) rfl
theorem k_657 : (Cond.constantLong "RetryChains$Link" (38 : Nat) (65536 : Int64)) ∈ gw := in_3 (List.mem_of_getElem? (i := 177) rfl) rfl
theorem k_658 : (Cond.methodLink "RetryChains$Station" (144 : Nat) y_lk_swing) ∈ gw := in_3 (List.mem_of_getElem? (i := 178) rfl) rfl
theorem k_659 : (Cond.instanceMethod y_lk_swing) ∈ gw := in_3 (List.mem_of_getElem? (i := 179) rfl) rfl
theorem k_660 : (Cond.selects "RetryChains$Link" y_lk_swing y_lk_swing) ∈ gw := in_3 (List.mem_of_getElem? (i := 180) rfl) rfl
theorem k_661 : (Cond.code y_lk_swing b_lk_swing (2 : Nat) (Option.some Jvm.ClassFile.FieldType.int)) ∈ gw := in_3 (List.mem_of_getElem? (i := 181) rfl) rfl
theorem k_662 : (Cond.methodLink "RetryChains$Network" (245 : Nat) y_st_collapse) ∈ gw := in_3 (List.mem_of_getElem? (i := 182) rfl) rfl
theorem k_663 : (Cond.instanceMethod y_st_collapse) ∈ gw := in_3 (List.mem_of_getElem? (i := 183) rfl) rfl
theorem k_664 : (Cond.selects "RetryChains$Station" y_st_collapse y_st_collapse) ∈ gw := in_3 (List.mem_of_getElem? (i := 184) rfl) rfl
theorem k_665 : (Cond.code y_st_collapse b_st_collapse (4 : Nat) (Option.none : Option Jvm.ClassFile.FieldType)) ∈ gw := in_3 (List.mem_of_getElem? (i := 185) rfl) rfl
theorem k_666 : (Cond.methodLink "RetryChains$Station" (147 : Nat) y_lk_startFrom) ∈ gw := in_3 (List.mem_of_getElem? (i := 186) rfl) rfl
theorem k_667 : (Cond.instanceMethod y_lk_startFrom) ∈ gw := in_3 (List.mem_of_getElem? (i := 187) rfl) rfl
theorem k_668 : (Cond.selects "RetryChains$Link" y_lk_startFrom y_lk_startFrom) ∈ gw := in_3 (List.mem_of_getElem? (i := 188) rfl) rfl
theorem k_669 : (Cond.code y_lk_startFrom b_lk_startFrom (2 : Nat) (Option.none : Option Jvm.ClassFile.FieldType)) ∈ gw := in_3 (List.mem_of_getElem? (i := 189) rfl) rfl
theorem k_670 : (Cond.methodLink "RetryChains$Network" (248 : Nat) y_nt_learnAll) ∈ gw := in_3 (List.mem_of_getElem? (i := 190) rfl) rfl
theorem k_672 : (Cond.instanceMethod y_nt_learnAll) ∈ gw := in_3 (List.mem_of_getElem? (i := 192) rfl) rfl
theorem k_673 : (Cond.code y_nt_learnAll b_nt_learnAll (4 : Nat) (Option.none : Option Jvm.ClassFile.FieldType)) ∈ gw := in_3 (List.mem_of_getElem? (i := 193) rfl) rfl
theorem k_674 : (Cond.methodLink "RetryChains$Network" (262 : Nat) y_lk_learn) ∈ gw := in_3 (List.mem_of_getElem? (i := 194) rfl) rfl
theorem k_675 : (Cond.instanceMethod y_lk_learn) ∈ gw := in_3 (List.mem_of_getElem? (i := 195) rfl) rfl
theorem k_676 : (Cond.selects "RetryChains$Link" y_lk_learn y_lk_learn) ∈ gw := in_3 (List.mem_of_getElem? (i := 196) rfl) rfl
theorem k_677 : (Cond.code y_lk_learn b_lk_learn (4 : Nat) (Option.some Jvm.ClassFile.FieldType.boolean)) ∈ gw := in_3 (List.mem_of_getElem? (i := 197) rfl) rfl
theorem k_678 : (Cond.methodLink "RetryChains$Link" (40 : Nat) y_lk_sample) ∈ gw := in_3 (List.mem_of_getElem? (i := 198) rfl) rfl
theorem k_679 : (Cond.methodLink "RetryChains$Link" (44 : Nat) y_lk_isEstimated) ∈ gw := in_3 (List.mem_of_getElem? (i := 199) rfl) rfl
theorem k_680 : (Cond.methodLink "RetryChains$Link" (48 : Nat) y_lk_startFrom) ∈ gw := in_3 (List.mem_of_getElem? (i := 200) rfl) rfl
theorem k_681 : (Cond.methodLink "RetryChains$Link" (52 : Nat) y_lk_swing) ∈ gw := in_3 (List.mem_of_getElem? (i := 201) rfl) rfl
theorem k_682 : (Cond.methodLink "RetryChains$Network" (251 : Nat) y_nt_endOfNewInterval) ∈ gw := in_3 (List.mem_of_getElem? (i := 202) rfl) rfl
theorem k_683 : (Cond.methodLink "RetryChains$Network" (255 : Nat) y_st_beginInterval) ∈ gw := in_3 (List.mem_of_getElem? (i := 203) rfl) rfl
theorem k_684 : (Cond.instanceMethod y_st_beginInterval) ∈ gw := in_3 (List.mem_of_getElem? (i := 204) rfl) rfl
theorem k_685 : (Cond.selects "RetryChains$Station" y_st_beginInterval y_st_beginInterval) ∈ gw := in_3 (List.mem_of_getElem? (i := 205) rfl) rfl
theorem k_686 : (Cond.code y_st_beginInterval b_st_beginInterval (5 : Nat) (Option.none : Option Jvm.ClassFile.FieldType)) ∈ gw := in_3 (List.mem_of_getElem? (i := 206) rfl) rfl
theorem k_687 : (Cond.methodLink "RetryChains$Network" (259 : Nat) y_st_fillRoles) ∈ gw := in_3 (List.mem_of_getElem? (i := 207) rfl) rfl
theorem k_691 : (Cond.code y_rc_pass b_rc_pass (2 : Nat) (Option.some Jvm.ClassFile.FieldType.int)) ∈ gw := in_3 (List.mem_of_getElem? (i := 211) rfl) rfl
theorem k_695 : (Cond.code y_rc_update b_rc_update (3 : Nat) (Option.some Jvm.ClassFile.FieldType.int)) ∈ gw := in_3 (List.mem_of_getElem? (i := 215) rfl) rfl
theorem k_696 : (Cond.methodLink "RetryChains" (169 : Nat) y_nt_refresh) ∈ gw := in_3 (List.mem_of_getElem? (i := 216) rfl) rfl
theorem k_698 : (Cond.instanceMethod y_rc_kind) ∈ gw := in_3 (List.mem_of_getElem? (i := 218) rfl) rfl
theorem k_699 : (Cond.selects "RetryChains" y_rc_kind y_rc_kind) ∈ gw := in_3 (List.mem_of_getElem? (i := 219) rfl) rfl
theorem k_700 : (Cond.code y_rc_kind b_rc_kind (3 : Nat) (Option.some Jvm.ClassFile.FieldType.int)) ∈ gw := in_3 (List.mem_of_getElem? (i := 220) rfl) rfl
theorem k_704 : (Cond.code y_rc_stationOf b_rc_stationOf (3 : Nat) (Option.some Jvm.ClassFile.FieldType.int)) ∈ gw := in_3 (List.mem_of_getElem? (i := 224) rfl) rfl
theorem k_708 : (Cond.code y_rc_entryRate b_rc_entryRate (4 : Nat) (Option.some Jvm.ClassFile.FieldType.int)) ∈ gw := in_3 (List.mem_of_getElem? (i := 228) rfl) rfl
theorem k_709 : (Cond.methodLink "RetryChains" (179 : Nat) y_rc_isEntry) ∈ gw := in_3 (List.mem_of_getElem? (i := 229) rfl) rfl
theorem k_710 : (Cond.static y_rc_isEntry) ∈ gw := in_3 (List.mem_of_getElem? (i := 230) rfl) rfl
theorem k_711 : (Cond.code y_rc_isEntry b_rc_isEntry (1 : Nat) (Option.some Jvm.ClassFile.FieldType.boolean)) ∈ gw := in_3 (List.mem_of_getElem? (i := 231) rfl) rfl
theorem k_715 : (Cond.code y_rc_entryTries b_rc_entryTries (4 : Nat) (Option.some Jvm.ClassFile.FieldType.int)) ∈ gw := in_3 (List.mem_of_getElem? (i := 235) rfl) rfl
theorem k_719 : (Cond.code y_rc_tag b_rc_tag (4 : Nat) (Option.some Jvm.ClassFile.FieldType.int)) ∈ gw := in_3 (List.mem_of_getElem? (i := 239) rfl) rfl
theorem k_723 : (Cond.code y_rc_deliveryChance b_rc_deliveryChance (3 : Nat) (Option.some Jvm.ClassFile.FieldType.int)) ∈ gw := in_4 (List.mem_of_getElem? (i := 3) rfl) rfl
theorem k_724 : (Cond.constant "RetryChains" (194 : Nat) (65536 : Int32)) ∈ gw := in_4 (List.mem_of_getElem? (i := 4) rfl) rfl
theorem k_725 : (Cond.methodLink "RetryChains" (195 : Nat) y_nt_reachOfEnd) ∈ gw := in_4 (List.mem_of_getElem? (i := 5) rfl) rfl
theorem k_726 : (Cond.instanceMethod y_nt_reachOfEnd) ∈ gw := in_4 (List.mem_of_getElem? (i := 6) rfl) rfl
theorem k_727 : (Cond.selects "RetryChains$Network" y_nt_reachOfEnd y_nt_reachOfEnd) ∈ gw := in_4 (List.mem_of_getElem? (i := 7) rfl) rfl
theorem k_728 : (Cond.code y_nt_reachOfEnd b_nt_reachOfEnd (6 : Nat) (Option.some Jvm.ClassFile.FieldType.int)) ∈ gw := in_4 (List.mem_of_getElem? (i := 8) rfl) rfl
theorem k_729 : (Cond.constantLong "RetryChains$Network" (265 : Nat) (65536 : Int64)) ∈ gw := in_4 (List.mem_of_getElem? (i := 9) rfl) rfl
theorem k_730 : (Cond.methodLink "RetryChains$Network" (267 : Nat) y_nt_reachAfter) ∈ gw := in_4 (List.mem_of_getElem? (i := 10) rfl) rfl
theorem k_732 : (Cond.instanceMethod y_nt_reachAfter) ∈ gw := in_4 (List.mem_of_getElem? (i := 12) rfl) rfl
theorem k_733 : (Cond.code y_nt_reachAfter b_nt_reachAfter (6 : Nat) (Option.some Jvm.ClassFile.FieldType.long)) ∈ gw := in_4 (List.mem_of_getElem? (i := 13) rfl) rfl
theorem k_734 : (Cond.methodLink "RetryChains$Network" (271 : Nat) y_nt_linkAt) ∈ gw := in_4 (List.mem_of_getElem? (i := 14) rfl) rfl
theorem k_735 : (Cond.constant "RetryChains$Network" (275 : Nat) (65536 : Int32)) ∈ gw := in_4 (List.mem_of_getElem? (i := 15) rfl) rfl
theorem k_736 : (Cond.methodLink "RetryChains$Network" (276 : Nat) y_lk_estimateOrZero) ∈ gw := in_4 (List.mem_of_getElem? (i := 16) rfl) rfl
theorem k_740 : (Cond.code y_rc_expectedTime b_rc_expectedTime (3 : Nat) (Option.some Jvm.ClassFile.FieldType.int)) ∈ gw := in_4 (List.mem_of_getElem? (i := 20) rfl) rfl
theorem k_741 : (Cond.methodLink "RetryChains" (199 : Nat) y_nt_weightedTime) ∈ gw := in_4 (List.mem_of_getElem? (i := 21) rfl) rfl
theorem k_742 : (Cond.instanceMethod y_nt_weightedTime) ∈ gw := in_4 (List.mem_of_getElem? (i := 22) rfl) rfl
theorem k_743 : (Cond.selects "RetryChains$Network" y_nt_weightedTime y_nt_weightedTime) ∈ gw := in_4 (List.mem_of_getElem? (i := 23) rfl) rfl
theorem k_744 : (Cond.code y_nt_weightedTime b_nt_weightedTime (8 : Nat) (Option.some Jvm.ClassFile.FieldType.long)) ∈ gw := in_4 (List.mem_of_getElem? (i := 24) rfl) rfl
theorem k_745 : (Cond.constantLong "RetryChains" (203 : Nat) (65536 : Int64)) ∈ gw := in_4 (List.mem_of_getElem? (i := 25) rfl) rfl
theorem k_747 : (Cond.instanceMethod y_rc_estimate) ∈ gw := in_4 (List.mem_of_getElem? (i := 27) rfl) rfl
theorem k_748 : (Cond.selects "RetryChains" y_rc_estimate y_rc_estimate) ∈ gw := in_4 (List.mem_of_getElem? (i := 28) rfl) rfl
theorem k_749 : (Cond.code y_rc_estimate b_rc_estimate (4 : Nat) (Option.some Jvm.ClassFile.FieldType.int)) ∈ gw := in_4 (List.mem_of_getElem? (i := 29) rfl) rfl
theorem k_751 : (Cond.instanceMethod y_rc_triesOf) ∈ gw := in_4 (List.mem_of_getElem? (i := 31) rfl) rfl
theorem k_752 : (Cond.selects "RetryChains" y_rc_triesOf y_rc_triesOf) ∈ gw := in_4 (List.mem_of_getElem? (i := 32) rfl) rfl
theorem k_753 : (Cond.code y_rc_triesOf b_rc_triesOf (4 : Nat) (Option.some Jvm.ClassFile.FieldType.int)) ∈ gw := in_4 (List.mem_of_getElem? (i := 33) rfl) rfl
theorem k_755 : (Cond.instanceMethod y_rc_successesOf) ∈ gw := in_4 (List.mem_of_getElem? (i := 35) rfl) rfl
theorem k_756 : (Cond.selects "RetryChains" y_rc_successesOf y_rc_successesOf) ∈ gw := in_4 (List.mem_of_getElem? (i := 36) rfl) rfl
theorem k_757 : (Cond.code y_rc_successesOf b_rc_successesOf (4 : Nat) (Option.some Jvm.ClassFile.FieldType.int)) ∈ gw := in_4 (List.mem_of_getElem? (i := 37) rfl) rfl
theorem k_761 : (Cond.code y_rc_airTime b_rc_airTime (3 : Nat) (Option.some Jvm.ClassFile.FieldType.int)) ∈ gw := in_4 (List.mem_of_getElem? (i := 41) rfl) rfl
theorem k_762 : (Cond.methodLink "RetryChains" (213 : Nat) y_tb_has) ∈ gw := in_4 (List.mem_of_getElem? (i := 42) rfl) rfl
theorem k_763 : (Cond.methodLink "RetryChains" (216 : Nat) y_rc_isSize) ∈ gw := in_4 (List.mem_of_getElem? (i := 43) rfl) rfl
theorem k_764 : (Cond.static y_rc_isSize) ∈ gw := in_4 (List.mem_of_getElem? (i := 44) rfl) rfl
theorem k_765 : (Cond.code y_rc_isSize b_rc_isSize (1 : Nat) (Option.some Jvm.ClassFile.FieldType.boolean)) ∈ gw := in_4 (List.mem_of_getElem? (i := 45) rfl) rfl
theorem k_766 : (Cond.constant "RetryChains" (354 : Nat) (65535 : Int32)) ∈ gw := in_4 (List.mem_of_getElem? (i := 46) rfl) rfl
theorem k_767 : (Cond.methodLink "RetryChains" (219 : Nat) y_tb_timeInAir) ∈ gw := in_4 (List.mem_of_getElem? (i := 47) rfl) rfl
theorem k_771 : (Cond.code y_rc_throughput b_rc_throughput (8 : Nat) (Option.some Jvm.ClassFile.FieldType.int)) ∈ gw := in_4 (List.mem_of_getElem? (i := 51) rfl) rfl
theorem k_772 : (Cond.methodLink "RetryChains" (222 : Nat) y_lk_isEstimated) ∈ gw := in_4 (List.mem_of_getElem? (i := 52) rfl) rfl
theorem k_773 : (Cond.constantLong "RetryChains" (225 : Nat) (2147483647 : Int64)) ∈ gw := in_4 (List.mem_of_getElem? (i := 53) rfl) rfl
theorem k_774 : (Cond.methodLink "RetryChains" (227 : Nat) y_jm_max) ∈ gw := in_4 (List.mem_of_getElem? (i := 54) rfl) rfl
theorem k_776 : (Cond.instanceMethod y_rc_role) ∈ gw := in_4 (List.mem_of_getElem? (i := 56) rfl) rfl
theorem k_777 : (Cond.selects "RetryChains" y_rc_role y_rc_role) ∈ gw := in_4 (List.mem_of_getElem? (i := 57) rfl) rfl
theorem k_778 : (Cond.code y_rc_role b_rc_role (4 : Nat) (Option.some Jvm.ClassFile.FieldType.int)) ∈ gw := in_4 (List.mem_of_getElem? (i := 58) rfl) rfl
theorem k_782 : (Cond.code y_rc_refusal b_rc_refusal (4 : Nat) (Option.some Jvm.ClassFile.FieldType.int)) ∈ gw := in_4 (List.mem_of_getElem? (i := 62) rfl) rfl
theorem k_786 : (Cond.code y_rc_rateOfMode b_rc_rateOfMode (3 : Nat) (Option.some Jvm.ClassFile.FieldType.int)) ∈ gw := in_4 (List.mem_of_getElem? (i := 66) rfl) rfl
theorem k_787 : (Cond.methodLink "RetryChains" (238 : Nat) y_tb_inOrderOfSpeed) ∈ gw := in_4 (List.mem_of_getElem? (i := 67) rfl) rfl
theorem k_788 : (Cond.instanceMethod y_tb_inOrderOfSpeed) ∈ gw := in_4 (List.mem_of_getElem? (i := 68) rfl) rfl
theorem k_789 : (Cond.selects "RetryChains$RateTable" y_tb_inOrderOfSpeed y_tb_inOrderOfSpeed) ∈ gw := in_4 (List.mem_of_getElem? (i := 69) rfl) rfl
theorem k_790 : (Cond.code y_tb_inOrderOfSpeed b_tb_inOrderOfSpeed (4 : Nat) (Option.some Jvm.ClassFile.FieldType.int)) ∈ gw := in_4 (List.mem_of_getElem? (i := 70) rfl) rfl
theorem k_791 : (Cond.methodLink "RetryChains$RateTable" (54 : Nat) y_tb_placeInMode) ∈ gw := in_4 (List.mem_of_getElem? (i := 71) rfl) rfl
theorem k_793 : (Cond.instanceMethod y_tb_placeInMode) ∈ gw := in_4 (List.mem_of_getElem? (i := 73) rfl) rfl
theorem k_794 : (Cond.code y_tb_placeInMode b_tb_placeInMode (5 : Nat) (Option.some Jvm.ClassFile.FieldType.int)) ∈ gw := in_4 (List.mem_of_getElem? (i := 74) rfl) rfl
theorem k_798 : (Cond.code y_rc_bestOfMode b_rc_bestOfMode (4 : Nat) (Option.some Jvm.ClassFile.FieldType.int)) ∈ gw := in_4 (List.mem_of_getElem? (i := 78) rfl) rfl
theorem k_799 : (Cond.methodLink "RetryChains" (241 : Nat) y_st_mostValuableOfMode) ∈ gw := in_4 (List.mem_of_getElem? (i := 79) rfl) rfl
theorem k_800 : (Cond.instanceMethod y_st_mostValuableOfMode) ∈ gw := in_4 (List.mem_of_getElem? (i := 80) rfl) rfl
theorem k_801 : (Cond.selects "RetryChains$Station" y_st_mostValuableOfMode y_st_mostValuableOfMode) ∈ gw := in_4 (List.mem_of_getElem? (i := 81) rfl) rfl
theorem k_802 : (Cond.code y_st_mostValuableOfMode b_st_mostValuableOfMode (8 : Nat) (Option.some Jvm.ClassFile.FieldType.int)) ∈ gw := in_4 (List.mem_of_getElem? (i := 82) rfl) rfl
theorem k_803 : (Cond.methodLink "RetryChains$Station" (118 : Nat) y_tb_inOrderOfSpeed) ∈ gw := in_4 (List.mem_of_getElem? (i := 83) rfl) rfl
theorem k_804 : (Cond.methodLink "RetryChains$Station" (121 : Nat) y_tb_has) ∈ gw := in_4 (List.mem_of_getElem? (i := 84) rfl) rfl
theorem k_808 : (Cond.code y_rc_mostUsed b_rc_mostUsed (3 : Nat) (Option.some Jvm.ClassFile.FieldType.int)) ∈ gw := in_4 (List.mem_of_getElem? (i := 88) rfl) rfl
theorem k_809 : (Cond.methodLink "RetryChains" (245 : Nat) y_st_mostTried) ∈ gw := in_4 (List.mem_of_getElem? (i := 89) rfl) rfl
theorem k_810 : (Cond.instanceMethod y_st_mostTried) ∈ gw := in_4 (List.mem_of_getElem? (i := 90) rfl) rfl
theorem k_811 : (Cond.selects "RetryChains$Station" y_st_mostTried y_st_mostTried) ∈ gw := in_4 (List.mem_of_getElem? (i := 91) rfl) rfl
theorem k_812 : (Cond.code y_st_mostTried b_st_mostTried (5 : Nat) (Option.some Jvm.ClassFile.FieldType.int)) ∈ gw := in_4 (List.mem_of_getElem? (i := 92) rfl) rfl
theorem k_816 : (Cond.code y_rc_bestChain b_rc_bestChain (5 : Nat) (Option.some Jvm.ClassFile.FieldType.int)) ∈ gw := in_4 (List.mem_of_getElem? (i := 96) rfl) rfl
theorem k_817 : (Cond.methodLink "RetryChains" (249 : Nat) y_se_prepare) ∈ gw := in_4 (List.mem_of_getElem? (i := 97) rfl) rfl
theorem k_818 : (Cond.instanceMethod y_se_prepare) ∈ gw := in_4 (List.mem_of_getElem? (i := 98) rfl) rfl
theorem k_819 : (Cond.selects "RetryChains$ChainSearch" y_se_prepare y_se_prepare) ∈ gw := in_4 (List.mem_of_getElem? (i := 99) rfl) rfl
theorem k_820 : (Cond.code y_se_prepare b_se_prepare (7 : Nat) (Option.none : Option Jvm.ClassFile.FieldType)) ∈ gw := in_4 (List.mem_of_getElem? (i := 100) rfl) rfl
theorem k_821 : (Cond.constant "RetryChains$ChainSearch" (63 : Nat) (65536 : Int32)) ∈ gw := in_4 (List.mem_of_getElem? (i := 101) rfl) rfl
theorem k_822 : (Cond.methodLink "RetryChains$ChainSearch" (64 : Nat) y_lk_estimateOrZero) ∈ gw := in_4 (List.mem_of_getElem? (i := 102) rfl) rfl
theorem k_823 : (Cond.methodLink "RetryChains$ChainSearch" (71 : Nat) y_tb_triesWithin) ∈ gw := in_4 (List.mem_of_getElem? (i := 103) rfl) rfl
theorem k_824 : (Cond.methodLink "RetryChains$ChainSearch" (75 : Nat) y_tb_timeOfTry) ∈ gw := in_4 (List.mem_of_getElem? (i := 104) rfl) rfl
theorem k_825 : (Cond.methodLink "RetryChains" (254 : Nat) y_se_explore) ∈ gw := in_4 (List.mem_of_getElem? (i := 105) rfl) rfl
theorem k_826 : (Cond.instanceMethod y_se_explore) ∈ gw := in_4 (List.mem_of_getElem? (i := 106) rfl) rfl
theorem k_827 : (Cond.selects "RetryChains$ChainSearch" y_se_explore y_se_explore) ∈ gw := in_4 (List.mem_of_getElem? (i := 107) rfl) rfl
theorem k_828 : (Cond.code y_se_explore b_se_explore (5 : Nat) (Option.none : Option Jvm.ClassFile.FieldType)) ∈ gw := in_4 (List.mem_of_getElem? (i := 108) rfl) rfl
theorem k_829 : (Cond.constantLong "RetryChains$ChainSearch" (78 : Nat) (65536 : Int64)) ∈ gw := in_4 (List.mem_of_getElem? (i := 109) rfl) rfl
theorem k_830 : (Cond.constantLong "RetryChains$ChainSearch" (80 : Nat) (-1 : Int64)) ∈ gw := in_4 (List.mem_of_getElem? (i := 110) rfl) rfl
theorem k_831 : (Cond.methodLink "RetryChains$ChainSearch" (89 : Nat) y_se_place) ∈ gw := in_4 (List.mem_of_getElem? (i := 111) rfl) rfl
theorem k_833 : (Cond.instanceMethod y_se_place) ∈ gw := in_4 (List.mem_of_getElem? (i := 113) rfl) rfl
theorem k_834 : (Cond.code y_se_place b_se_place (8 : Nat) (Option.none : Option Jvm.ClassFile.FieldType)) ∈ gw := in_4 (List.mem_of_getElem? (i := 114) rfl) rfl
theorem k_835 : (Cond.methodLink "RetryChains$ChainSearch" (93 : Nat) y_se_keepIfBetter) ∈ gw := in_4 (List.mem_of_getElem? (i := 115) rfl) rfl
theorem k_837 : (Cond.instanceMethod y_se_keepIfBetter) ∈ gw := in_4 (List.mem_of_getElem? (i := 117) rfl) rfl
theorem k_838 : (Cond.code y_se_keepIfBetter b_se_keepIfBetter (5 : Nat) (Option.none : Option Jvm.ClassFile.FieldType)) ∈ gw := in_4 (List.mem_of_getElem? (i := 118) rfl) rfl
theorem k_839 : (Cond.methodLink "RetryChains$ChainSearch" (96 : Nat) ({ cls := "java/lang/System", name := "arraycopy", desc := "(Ljava/lang/Object;ILjava/lang/Object;II)V" } : Jvm.MethodName)) ∈ gw := in_4 (List.mem_of_getElem? (i := 119) rfl) rfl
theorem k_841 : (Cond.instanceMethod y_rc_chains) ∈ gw := in_4 (List.mem_of_getElem? (i := 121) rfl) rfl
theorem k_842 : (Cond.selects "RetryChains" y_rc_chains y_rc_chains) ∈ gw := in_4 (List.mem_of_getElem? (i := 122) rfl) rfl
theorem k_843 : (Cond.code y_rc_chains b_rc_chains (3 : Nat) (Option.some Jvm.ClassFile.FieldType.int)) ∈ gw := in_4 (List.mem_of_getElem? (i := 123) rfl) rfl
theorem k_845 : (Cond.instanceMethod y_rc_sampled) ∈ gw := in_4 (List.mem_of_getElem? (i := 125) rfl) rfl
theorem k_846 : (Cond.selects "RetryChains" y_rc_sampled y_rc_sampled) ∈ gw := in_4 (List.mem_of_getElem? (i := 126) rfl) rfl
theorem k_847 : (Cond.code y_rc_sampled b_rc_sampled (3 : Nat) (Option.some Jvm.ClassFile.FieldType.int)) ∈ gw := in_4 (List.mem_of_getElem? (i := 127) rfl) rfl
theorem k_849 : (Cond.instanceMethod y_rc_delivered) ∈ gw := in_4 (List.mem_of_getElem? (i := 129) rfl) rfl
theorem k_850 : (Cond.selects "RetryChains" y_rc_delivered y_rc_delivered) ∈ gw := in_4 (List.mem_of_getElem? (i := 130) rfl) rfl
theorem k_851 : (Cond.code y_rc_delivered b_rc_delivered (3 : Nat) (Option.some Jvm.ClassFile.FieldType.int)) ∈ gw := in_4 (List.mem_of_getElem? (i := 131) rfl) rfl
theorem k_853 : (Cond.instanceMethod y_rc_lost) ∈ gw := in_4 (List.mem_of_getElem? (i := 133) rfl) rfl
theorem k_854 : (Cond.selects "RetryChains" y_rc_lost y_rc_lost) ∈ gw := in_4 (List.mem_of_getElem? (i := 134) rfl) rfl
theorem k_855 : (Cond.code y_rc_lost b_rc_lost (3 : Nat) (Option.some Jvm.ClassFile.FieldType.int)) ∈ gw := in_4 (List.mem_of_getElem? (i := 135) rfl) rfl
theorem k_857 : (Cond.instanceMethod y_rc_queued) ∈ gw := in_4 (List.mem_of_getElem? (i := 137) rfl) rfl
theorem k_858 : (Cond.selects "RetryChains" y_rc_queued y_rc_queued) ∈ gw := in_4 (List.mem_of_getElem? (i := 138) rfl) rfl
theorem k_859 : (Cond.code y_rc_queued b_rc_queued (3 : Nat) (Option.some Jvm.ClassFile.FieldType.int)) ∈ gw := in_4 (List.mem_of_getElem? (i := 139) rfl) rfl
theorem k_861 : (Cond.instanceMethod y_rc_deficit) ∈ gw := in_4 (List.mem_of_getElem? (i := 141) rfl) rfl
theorem k_862 : (Cond.selects "RetryChains" y_rc_deficit y_rc_deficit) ∈ gw := in_4 (List.mem_of_getElem? (i := 142) rfl) rfl
theorem k_863 : (Cond.code y_rc_deficit b_rc_deficit (3 : Nat) (Option.some Jvm.ClassFile.FieldType.int)) ∈ gw := in_4 (List.mem_of_getElem? (i := 143) rfl) rfl
theorem k_864 : (Cond.constant "RetryChains" (272 : Nat) (-2147483648 : Int32)) ∈ gw := in_4 (List.mem_of_getElem? (i := 144) rfl) rfl
theorem k_866 : (Cond.instanceMethod y_rc_inFallback) ∈ gw := in_4 (List.mem_of_getElem? (i := 146) rfl) rfl
theorem k_867 : (Cond.selects "RetryChains" y_rc_inFallback y_rc_inFallback) ∈ gw := in_4 (List.mem_of_getElem? (i := 147) rfl) rfl
theorem k_868 : (Cond.code y_rc_inFallback b_rc_inFallback (3 : Nat) (Option.some Jvm.ClassFile.FieldType.int)) ∈ gw := in_4 (List.mem_of_getElem? (i := 148) rfl) rfl
theorem k_870 : (Cond.instanceMethod y_rc_time) ∈ gw := in_4 (List.mem_of_getElem? (i := 150) rfl) rfl
theorem k_871 : (Cond.selects "RetryChains" y_rc_time y_rc_time) ∈ gw := in_4 (List.mem_of_getElem? (i := 151) rfl) rfl
theorem k_872 : (Cond.code y_rc_time b_rc_time (1 : Nat) (Option.some Jvm.ClassFile.FieldType.int)) ∈ gw := in_4 (List.mem_of_getElem? (i := 152) rfl) rfl
theorem k_876 : (Cond.code y_rc_setQuality b_rc_setQuality (6 : Nat) (Option.some Jvm.ClassFile.FieldType.int)) ∈ gw := in_4 (List.mem_of_getElem? (i := 156) rfl) rfl
theorem k_880 : (Cond.code y_rc_simulate b_rc_simulate (6 : Nat) (Option.some Jvm.ClassFile.FieldType.int)) ∈ gw := in_4 (List.mem_of_getElem? (i := 160) rfl) rfl
theorem k_881 : (Cond.methodLink "RetryChains" (282 : Nat) y_rc_errorOfSimulation) ∈ gw := in_4 (List.mem_of_getElem? (i := 161) rfl) rfl
theorem k_883 : (Cond.instanceMethod y_rc_errorOfSimulation) ∈ gw := in_4 (List.mem_of_getElem? (i := 163) rfl) rfl
theorem k_884 : (Cond.code y_rc_errorOfSimulation b_rc_errorOfSimulation (5 : Nat) (Option.some Jvm.ClassFile.FieldType.int)) ∈ gw := in_4 (List.mem_of_getElem? (i := 164) rfl) rfl
theorem k_885 : (Cond.constant "RetryChains" (353 : Nat) (1000000000 : Int32)) ∈ gw := in_4 (List.mem_of_getElem? (i := 165) rfl) rfl
theorem k_886 : (Cond.methodLink "RetryChains" (286 : Nat) y_nt_sendFrames) ∈ gw := in_4 (List.mem_of_getElem? (i := 166) rfl) rfl
theorem k_887 : (Cond.instanceMethod y_nt_sendFrames) ∈ gw := in_4 (List.mem_of_getElem? (i := 167) rfl) rfl
theorem k_888 : (Cond.selects "RetryChains$Network" y_nt_sendFrames y_nt_sendFrames) ∈ gw := in_4 (List.mem_of_getElem? (i := 168) rfl) rfl
theorem k_889 : (Cond.code y_nt_sendFrames b_nt_sendFrames (14 : Nat) (Option.some Jvm.ClassFile.FieldType.int)) ∈ gw := in_4 (List.mem_of_getElem? (i := 169) rfl) rfl
theorem k_890 : (Cond.methodLink "RetryChains$Network" (279 : Nat) y_nt_openChain) ∈ gw := in_4 (List.mem_of_getElem? (i := 170) rfl) rfl
theorem k_891 : (Cond.methodLink "RetryChains$Network" (282 : Nat) y_nt_chainAt) ∈ gw := in_4 (List.mem_of_getElem? (i := 171) rfl) rfl
theorem k_892 : (Cond.methodLink "RetryChains$Network" (286 : Nat) y_ch_allTries) ∈ gw := in_4 (List.mem_of_getElem? (i := 172) rfl) rfl
theorem k_893 : (Cond.methodLink "RetryChains$Network" (289 : Nat) y_ch_rateOfTry) ∈ gw := in_4 (List.mem_of_getElem? (i := 173) rfl) rfl
theorem k_894 : (Cond.instanceMethod y_ch_rateOfTry) ∈ gw := in_4 (List.mem_of_getElem? (i := 174) rfl) rfl
theorem k_895 : (Cond.selects "RetryChains$Chain" y_ch_rateOfTry y_ch_rateOfTry) ∈ gw := in_4 (List.mem_of_getElem? (i := 175) rfl) rfl
theorem k_896 : (Cond.code y_ch_rateOfTry b_ch_rateOfTry (4 : Nat) (Option.some Jvm.ClassFile.FieldType.int)) ∈ gw := in_4 (List.mem_of_getElem? (i := 176) rfl) rfl
theorem k_897 : (Cond.methodLink "RetryChains$Network" (295 : Nat) y_nt_conclude) ∈ gw := in_4 (List.mem_of_getElem? (i := 177) rfl) rfl
theorem k_898 : (Cond.methodLink "RetryChains$Network" (299 : Nat) y_nt_updateEnded) ∈ gw := in_4 (List.mem_of_getElem? (i := 178) rfl) rfl
theorem k_902 : (Cond.code y_rc_forecast b_rc_forecast (6 : Nat) (Option.some Jvm.ClassFile.FieldType.int)) ∈ gw := in_4 (List.mem_of_getElem? (i := 182) rfl) rfl
theorem k_903 : (Cond.methodLink "RetryChains" (290 : Nat) y_nt_become) ∈ gw := in_4 (List.mem_of_getElem? (i := 183) rfl) rfl
theorem k_907 : (Cond.code y_rc_oracle b_rc_oracle (4 : Nat) (Option.some Jvm.ClassFile.FieldType.int)) ∈ gw := in_4 (List.mem_of_getElem? (i := 187) rfl) rfl
theorem k_908 : (Cond.methodLink "RetryChains" (293 : Nat) y_st_bestByChannel) ∈ gw := in_4 (List.mem_of_getElem? (i := 188) rfl) rfl
theorem k_909 : (Cond.instanceMethod y_st_bestByChannel) ∈ gw := in_4 (List.mem_of_getElem? (i := 189) rfl) rfl
theorem k_910 : (Cond.selects "RetryChains$Station" y_st_bestByChannel y_st_bestByChannel) ∈ gw := in_4 (List.mem_of_getElem? (i := 190) rfl) rfl
theorem k_911 : (Cond.code y_st_bestByChannel b_st_bestByChannel (13 : Nat) (Option.some Jvm.ClassFile.FieldType.int)) ∈ gw := in_4 (List.mem_of_getElem? (i := 191) rfl) rfl
theorem k_912 : (Cond.methodLink "RetryChains$Station" (128 : Nat) y_tb_timeInAir) ∈ gw := in_4 (List.mem_of_getElem? (i := 192) rfl) rfl
theorem k_914 : (Cond.instanceMethod y_rc_events) ∈ gw := in_4 (List.mem_of_getElem? (i := 194) rfl) rfl
theorem k_915 : (Cond.selects "RetryChains" y_rc_events y_rc_events) ∈ gw := in_4 (List.mem_of_getElem? (i := 195) rfl) rfl
theorem k_916 : (Cond.code y_rc_events b_rc_events (1 : Nat) (Option.some Jvm.ClassFile.FieldType.int)) ∈ gw := in_4 (List.mem_of_getElem? (i := 196) rfl) rfl
theorem k_920 : (Cond.code y_rc_eventKind b_rc_eventKind (2 : Nat) (Option.some Jvm.ClassFile.FieldType.int)) ∈ gw := in_4 (List.mem_of_getElem? (i := 200) rfl) rfl
theorem k_921 : (Cond.methodLink "RetryChains" (305 : Nat) y_lo_look) ∈ gw := in_4 (List.mem_of_getElem? (i := 201) rfl) rfl
theorem k_922 : (Cond.instanceMethod y_lo_look) ∈ gw := in_4 (List.mem_of_getElem? (i := 202) rfl) rfl
theorem k_923 : (Cond.selects "RetryChains$EventLog" y_lo_look y_lo_look) ∈ gw := in_4 (List.mem_of_getElem? (i := 203) rfl) rfl
theorem k_924 : (Cond.code y_lo_look b_lo_look (3 : Nat) (Option.some Jvm.ClassFile.FieldType.int)) ∈ gw := in_4 (List.mem_of_getElem? (i := 204) rfl) rfl
theorem k_925 : (Cond.methodLink "RetryChains$EventLog" (32 : Nat) y_jm_min) ∈ gw := in_4 (List.mem_of_getElem? (i := 205) rfl) rfl
theorem k_929 : (Cond.code y_rc_eventStation b_rc_eventStation (2 : Nat) (Option.some Jvm.ClassFile.FieldType.int)) ∈ gw := in_4 (List.mem_of_getElem? (i := 209) rfl) rfl
theorem k_933 : (Cond.code y_rc_eventRate b_rc_eventRate (2 : Nat) (Option.some Jvm.ClassFile.FieldType.int)) ∈ gw := in_4 (List.mem_of_getElem? (i := 213) rfl) rfl
theorem k_937 : (Cond.code y_rc_eventTime b_rc_eventTime (2 : Nat) (Option.some Jvm.ClassFile.FieldType.int)) ∈ gw := in_4 (List.mem_of_getElem? (i := 217) rfl) rfl
theorem k_941 : (Cond.code y_rc_save b_rc_save (2 : Nat) (Option.some Jvm.ClassFile.FieldType.int)) ∈ gw := in_4 (List.mem_of_getElem? (i := 221) rfl) rfl
theorem k_945 : (Cond.code y_rc_restore b_rc_restore (2 : Nat) (Option.some Jvm.ClassFile.FieldType.int)) ∈ gw := in_4 (List.mem_of_getElem? (i := 225) rfl) rfl
theorem k_949 : (Cond.code y_rc_undo b_rc_undo (1 : Nat) (Option.some Jvm.ClassFile.FieldType.int)) ∈ gw := in_4 (List.mem_of_getElem? (i := 229) rfl) rfl
theorem k_950 : (Cond.methodLink "RetryChains" (309 : Nat) y_hi_takeBack) ∈ gw := in_4 (List.mem_of_getElem? (i := 230) rfl) rfl
theorem k_951 : (Cond.instanceMethod y_hi_takeBack) ∈ gw := in_4 (List.mem_of_getElem? (i := 231) rfl) rfl
theorem k_952 : (Cond.selects "RetryChains$History" y_hi_takeBack y_hi_takeBack) ∈ gw := in_4 (List.mem_of_getElem? (i := 232) rfl) rfl
theorem k_953 : (Cond.code y_hi_takeBack b_hi_takeBack (2 : Nat) (Option.none : Option Jvm.ClassFile.FieldType)) ∈ gw := in_4 (List.mem_of_getElem? (i := 233) rfl) rfl
theorem k_954 : (Cond.methodLink "RetryChains$History" (35 : Nat) y_jm_max) ∈ gw := in_4 (List.mem_of_getElem? (i := 234) rfl) rfl
theorem k_958 : (Cond.code y_rc_digest b_rc_digest (4 : Nat) (Option.some Jvm.ClassFile.FieldType.long)) ∈ gw := in_4 (List.mem_of_getElem? (i := 238) rfl) rfl
theorem k_959 : (Cond.constantLong "RetryChains" (312 : Nat) (527 : Int64)) ∈ gw := in_4 (List.mem_of_getElem? (i := 239) rfl) rfl
theorem k_960 : (Cond.methodLink "RetryChains" (314 : Nat) y_rc_time) ∈ gw := in_5 (List.mem_of_getElem? (i := 0) rfl) rfl
theorem k_961 : (Cond.constantLong "RetryChains" (316 : Nat) (31 : Int64)) ∈ gw := in_5 (List.mem_of_getElem? (i := 1) rfl) rfl
theorem k_962 : (Cond.methodLink "RetryChains" (318 : Nat) y_rc_events) ∈ gw := in_5 (List.mem_of_getElem? (i := 2) rfl) rfl
theorem k_963 : (Cond.methodLink "RetryChains" (321 : Nat) y_rc_digestOfStation) ∈ gw := in_5 (List.mem_of_getElem? (i := 3) rfl) rfl
theorem k_965 : (Cond.instanceMethod y_rc_digestOfStation) ∈ gw := in_5 (List.mem_of_getElem? (i := 5) rfl) rfl
theorem k_966 : (Cond.code y_rc_digestOfStation b_rc_digestOfStation (7 : Nat) (Option.some Jvm.ClassFile.FieldType.long)) ∈ gw := in_5 (List.mem_of_getElem? (i := 6) rfl) rfl
theorem k_967 : (Cond.methodLink "RetryChains" (327 : Nat) y_rc_chains) ∈ gw := in_5 (List.mem_of_getElem? (i := 7) rfl) rfl
theorem k_968 : (Cond.methodLink "RetryChains" (329 : Nat) y_rc_sampled) ∈ gw := in_5 (List.mem_of_getElem? (i := 8) rfl) rfl
theorem k_969 : (Cond.methodLink "RetryChains" (331 : Nat) y_rc_delivered) ∈ gw := in_5 (List.mem_of_getElem? (i := 9) rfl) rfl
theorem k_970 : (Cond.methodLink "RetryChains" (333 : Nat) y_rc_lost) ∈ gw := in_5 (List.mem_of_getElem? (i := 10) rfl) rfl
theorem k_971 : (Cond.methodLink "RetryChains" (335 : Nat) y_rc_queued) ∈ gw := in_5 (List.mem_of_getElem? (i := 11) rfl) rfl
theorem k_972 : (Cond.methodLink "RetryChains" (338 : Nat) y_rc_deficit) ∈ gw := in_5 (List.mem_of_getElem? (i := 12) rfl) rfl
theorem k_973 : (Cond.methodLink "RetryChains" (340 : Nat) y_rc_inFallback) ∈ gw := in_5 (List.mem_of_getElem? (i := 13) rfl) rfl
theorem k_974 : (Cond.methodLink "RetryChains" (342 : Nat) y_rc_role) ∈ gw := in_5 (List.mem_of_getElem? (i := 14) rfl) rfl
theorem k_975 : (Cond.methodLink "RetryChains" (345 : Nat) y_rc_estimate) ∈ gw := in_5 (List.mem_of_getElem? (i := 15) rfl) rfl
theorem k_976 : (Cond.methodLink "RetryChains" (347 : Nat) y_rc_triesOf) ∈ gw := in_5 (List.mem_of_getElem? (i := 16) rfl) rfl
theorem k_977 : (Cond.methodLink "RetryChains" (350 : Nat) y_rc_successesOf) ∈ gw := in_5 (List.mem_of_getElem? (i := 17) rfl) rfl
theorem k_978 : (Cond.methodLink "RetryChains" (325 : Nat) y_rc_kind) ∈ gw := in_5 (List.mem_of_getElem? (i := 18) rfl) rfl
theorem k_985 : (Cond.constant "RetryChainsModel" (26 : Nat) (100000 : Int32)) ∈ gw := in_5 (List.mem_of_getElem? (i := 25) rfl) rfl
theorem k_986 : (Cond.fieldLink "RetryChainsModel" (7 : Nat) "RetryChainsModel" "v" "[I") ∈ gw := in_5 (List.mem_of_getElem? (i := 26) rfl) rfl
theorem k_987 : (Cond.fieldLink "RetryChainsModel" (13 : Nat) "RetryChainsModel" "saved" "[I") ∈ gw := in_5 (List.mem_of_getElem? (i := 27) rfl) rfl
theorem k_988 : (Cond.fieldLink "RetryChainsModel" (16 : Nat) "RetryChainsModel" "isSaved" "[Z") ∈ gw := in_5 (List.mem_of_getElem? (i := 28) rfl) rfl
theorem k_989 : (Cond.fieldLink "RetryChainsModel" (20 : Nat) "RetryChainsModel" "past" "[I") ∈ gw := in_5 (List.mem_of_getElem? (i := 29) rfl) rfl
theorem k_990 : (Cond.fieldLink "RetryChainsModel" (23 : Nat) "RetryChainsModel" "aside" "[I") ∈ gw := in_5 (List.mem_of_getElem? (i := 30) rfl) rfl
theorem k_991 : (Cond.fieldLink "RetryChainsModel" (27 : Nat) "RetryChainsModel" "pastMany" "I") ∈ gw := in_5 (List.mem_of_getElem? (i := 31) rfl) rfl
theorem k_992 : (Cond.fieldLink "RetryChainsModel" (238 : Nat) "RetryChainsModel" "tryReach" "J") ∈ gw := in_5 (List.mem_of_getElem? (i := 32) rfl) rfl
theorem k_993 : (Cond.fieldLink "RetryChainsModel" (242 : Nat) "RetryChainsModel" "trySum" "J") ∈ gw := in_5 (List.mem_of_getElem? (i := 33) rfl) rfl
theorem k_1014 : (Cond.code y_m_addRate b_m_addRate (5 : Nat) (Option.some Jvm.ClassFile.FieldType.int)) ∈ gw := in_5 (List.mem_of_getElem? (i := 54) rfl) rfl
theorem k_1015 : (Cond.methodLink "RetryChainsModel" (31 : Nat) y_m_in) ∈ gw := in_5 (List.mem_of_getElem? (i := 55) rfl) rfl
theorem k_1016 : (Cond.static y_m_in) ∈ gw := in_5 (List.mem_of_getElem? (i := 56) rfl) rfl
theorem k_1017 : (Cond.code y_m_in b_m_in (3 : Nat) (Option.some Jvm.ClassFile.FieldType.boolean)) ∈ gw := in_5 (List.mem_of_getElem? (i := 57) rfl) rfl
theorem k_1018 : (Cond.methodLink "RetryChainsModel" (127 : Nat) y_m_act) ∈ gw := in_5 (List.mem_of_getElem? (i := 58) rfl) rfl
theorem k_1020 : (Cond.instanceMethod y_m_act) ∈ gw := in_5 (List.mem_of_getElem? (i := 60) rfl) rfl
theorem k_1021 : (Cond.code y_m_act b_m_act (2 : Nat) (Option.none : Option Jvm.ClassFile.FieldType)) ∈ gw := in_5 (List.mem_of_getElem? (i := 61) rfl) rfl
theorem k_1022 : (Cond.methodLink "RetryChainsModel" (130 : Nat) y_m_begins) ∈ gw := in_5 (List.mem_of_getElem? (i := 62) rfl) rfl
theorem k_1024 : (Cond.instanceMethod y_m_begins) ∈ gw := in_5 (List.mem_of_getElem? (i := 64) rfl) rfl
theorem k_1025 : (Cond.code y_m_begins b_m_begins (4 : Nat) (Option.none : Option Jvm.ClassFile.FieldType)) ∈ gw := in_5 (List.mem_of_getElem? (i := 65) rfl) rfl
theorem k_1026 : (Cond.methodLink "RetryChainsModel" (57 : Nat) y_m_pair) ∈ gw := in_5 (List.mem_of_getElem? (i := 66) rfl) rfl
theorem k_1027 : (Cond.static y_m_pair) ∈ gw := in_5 (List.mem_of_getElem? (i := 67) rfl) rfl
theorem k_1028 : (Cond.code y_m_pair b_m_pair (2 : Nat) (Option.some Jvm.ClassFile.FieldType.int)) ∈ gw := in_5 (List.mem_of_getElem? (i := 68) rfl) rfl
theorem k_1029 : (Cond.methodLink "RetryChainsModel" (117 : Nat) y_m_fillRoles) ∈ gw := in_5 (List.mem_of_getElem? (i := 69) rfl) rfl
theorem k_1031 : (Cond.instanceMethod y_m_fillRoles) ∈ gw := in_5 (List.mem_of_getElem? (i := 71) rfl) rfl
theorem k_1032 : (Cond.code y_m_fillRoles b_m_fillRoles (4 : Nat) (Option.none : Option Jvm.ClassFile.FieldType)) ∈ gw := in_5 (List.mem_of_getElem? (i := 72) rfl) rfl
theorem k_1033 : (Cond.methodLink "RetryChainsModel" (81 : Nat) y_m_side) ∈ gw := in_5 (List.mem_of_getElem? (i := 73) rfl) rfl
theorem k_1034 : (Cond.static y_m_side) ∈ gw := in_5 (List.mem_of_getElem? (i := 74) rfl) rfl
theorem k_1035 : (Cond.code y_m_side b_m_side (1 : Nat) (Option.some Jvm.ClassFile.FieldType.int)) ∈ gw := in_5 (List.mem_of_getElem? (i := 75) rfl) rfl
theorem k_1036 : (Cond.methodLink "RetryChainsModel" (78 : Nat) y_m_bestBut) ∈ gw := in_5 (List.mem_of_getElem? (i := 76) rfl) rfl
theorem k_1038 : (Cond.instanceMethod y_m_bestBut) ∈ gw := in_5 (List.mem_of_getElem? (i := 78) rfl) rfl
theorem k_1039 : (Cond.code y_m_bestBut b_m_bestBut (6 : Nat) (Option.some Jvm.ClassFile.FieldType.int)) ∈ gw := in_5 (List.mem_of_getElem? (i := 79) rfl) rfl
theorem k_1040 : (Cond.methodLink "RetryChainsModel" (70 : Nat) y_m_allows) ∈ gw := in_5 (List.mem_of_getElem? (i := 80) rfl) rfl
theorem k_1042 : (Cond.instanceMethod y_m_allows) ∈ gw := in_5 (List.mem_of_getElem? (i := 82) rfl) rfl
theorem k_1043 : (Cond.code y_m_allows b_m_allows (3 : Nat) (Option.some Jvm.ClassFile.FieldType.boolean)) ∈ gw := in_5 (List.mem_of_getElem? (i := 83) rfl) rfl
theorem k_1044 : (Cond.methodLink "RetryChainsModel" (60 : Nat) y_m_known) ∈ gw := in_5 (List.mem_of_getElem? (i := 84) rfl) rfl
theorem k_1046 : (Cond.instanceMethod y_m_known) ∈ gw := in_5 (List.mem_of_getElem? (i := 86) rfl) rfl
theorem k_1047 : (Cond.code y_m_known b_m_known (4 : Nat) (Option.some Jvm.ClassFile.FieldType.int)) ∈ gw := in_5 (List.mem_of_getElem? (i := 87) rfl) rfl
theorem k_1048 : (Cond.methodLink "RetryChainsModel" (74 : Nat) y_m_betters) ∈ gw := in_5 (List.mem_of_getElem? (i := 88) rfl) rfl
theorem k_1050 : (Cond.instanceMethod y_m_betters) ∈ gw := in_5 (List.mem_of_getElem? (i := 90) rfl) rfl
theorem k_1051 : (Cond.code y_m_betters b_m_betters (4 : Nat) (Option.some Jvm.ClassFile.FieldType.boolean)) ∈ gw := in_5 (List.mem_of_getElem? (i := 91) rfl) rfl
theorem k_1052 : (Cond.methodLink "RetryChainsModel" (67 : Nat) y_m_valueOf) ∈ gw := in_5 (List.mem_of_getElem? (i := 92) rfl) rfl
theorem k_1054 : (Cond.instanceMethod y_m_valueOf) ∈ gw := in_5 (List.mem_of_getElem? (i := 94) rfl) rfl
theorem k_1055 : (Cond.code y_m_valueOf b_m_valueOf (4 : Nat) (Option.some Jvm.ClassFile.FieldType.int)) ∈ gw := in_5 (List.mem_of_getElem? (i := 95) rfl) rfl
theorem k_1056 : (Cond.constant "RetryChainsModel" (63 : Nat) (58982 : Int32)) ∈ gw := in_5 (List.mem_of_getElem? (i := 96) rfl) rfl
theorem k_1057 : (Cond.methodLink "RetryChainsModel" (64 : Nat) y_m_nominal) ∈ gw := in_5 (List.mem_of_getElem? (i := 97) rfl) rfl
theorem k_1059 : (Cond.instanceMethod y_m_nominal) ∈ gw := in_5 (List.mem_of_getElem? (i := 99) rfl) rfl
theorem k_1060 : (Cond.code y_m_nominal b_m_nominal (2 : Nat) (Option.some Jvm.ClassFile.FieldType.int)) ∈ gw := in_5 (List.mem_of_getElem? (i := 100) rfl) rfl
theorem k_1061 : (Cond.methodLink "RetryChainsModel" (46 : Nat) y_m_air) ∈ gw := in_5 (List.mem_of_getElem? (i := 101) rfl) rfl
theorem k_1063 : (Cond.instanceMethod y_m_air) ∈ gw := in_5 (List.mem_of_getElem? (i := 103) rfl) rfl
theorem k_1064 : (Cond.code y_m_air b_m_air (5 : Nat) (Option.some Jvm.ClassFile.FieldType.int)) ∈ gw := in_5 (List.mem_of_getElem? (i := 104) rfl) rfl
theorem k_1065 : (Cond.methodLink "RetryChainsModel" (42 : Nat) y_m_up) ∈ gw := in_5 (List.mem_of_getElem? (i := 105) rfl) rfl
theorem k_1066 : (Cond.static y_m_up) ∈ gw := in_5 (List.mem_of_getElem? (i := 106) rfl) rfl
theorem k_1067 : (Cond.code y_m_up b_m_up (2 : Nat) (Option.some Jvm.ClassFile.FieldType.int)) ∈ gw := in_5 (List.mem_of_getElem? (i := 107) rfl) rfl
theorem k_1068 : (Cond.methodLink "RetryChainsModel" (84 : Nat) y_m_surestOf) ∈ gw := in_5 (List.mem_of_getElem? (i := 108) rfl) rfl
theorem k_1070 : (Cond.instanceMethod y_m_surestOf) ∈ gw := in_5 (List.mem_of_getElem? (i := 110) rfl) rfl
theorem k_1071 : (Cond.code y_m_surestOf b_m_surestOf (5 : Nat) (Option.some Jvm.ClassFile.FieldType.int)) ∈ gw := in_5 (List.mem_of_getElem? (i := 111) rfl) rfl
theorem k_1072 : (Cond.constant "RetryChainsModel" (77 : Nat) (62259 : Int32)) ∈ gw := in_5 (List.mem_of_getElem? (i := 112) rfl) rfl
theorem k_1073 : (Cond.methodLink "RetryChainsModel" (87 : Nat) y_m_slowestOf) ∈ gw := in_5 (List.mem_of_getElem? (i := 113) rfl) rfl
theorem k_1075 : (Cond.instanceMethod y_m_slowestOf) ∈ gw := in_5 (List.mem_of_getElem? (i := 115) rfl) rfl
theorem k_1076 : (Cond.code y_m_slowestOf b_m_slowestOf (4 : Nat) (Option.some Jvm.ClassFile.FieldType.int)) ∈ gw := in_5 (List.mem_of_getElem? (i := 116) rfl) rfl
theorem k_1080 : (Cond.code y_m_addStation b_m_addStation (3 : Nat) (Option.some Jvm.ClassFile.FieldType.int)) ∈ gw := in_5 (List.mem_of_getElem? (i := 120) rfl) rfl
theorem k_1081 : (Cond.methodLink "RetryChainsModel" (120 : Nat) y_m_endFromNow) ∈ gw := in_5 (List.mem_of_getElem? (i := 121) rfl) rfl
theorem k_1083 : (Cond.instanceMethod y_m_endFromNow) ∈ gw := in_5 (List.mem_of_getElem? (i := 123) rfl) rfl
theorem k_1084 : (Cond.code y_m_endFromNow b_m_endFromNow (1 : Nat) (Option.some Jvm.ClassFile.FieldType.int)) ∈ gw := in_5 (List.mem_of_getElem? (i := 124) rfl) rfl
theorem k_1085 : (Cond.constant "RetryChainsModel" (90 : Nat) (2147483647 : Int32)) ∈ gw := in_5 (List.mem_of_getElem? (i := 125) rfl) rfl
theorem k_1089 : (Cond.code y_m_allow b_m_allow (5 : Nat) (Option.some Jvm.ClassFile.FieldType.int)) ∈ gw := in_5 (List.mem_of_getElem? (i := 129) rfl) rfl
theorem k_1090 : (Cond.methodLink "RetryChainsModel" (133 : Nat) y_m_areBoth) ∈ gw := in_5 (List.mem_of_getElem? (i := 130) rfl) rfl
theorem k_1092 : (Cond.instanceMethod y_m_areBoth) ∈ gw := in_5 (List.mem_of_getElem? (i := 132) rfl) rfl
theorem k_1093 : (Cond.code y_m_areBoth b_m_areBoth (3 : Nat) (Option.some Jvm.ClassFile.FieldType.boolean)) ∈ gw := in_5 (List.mem_of_getElem? (i := 133) rfl) rfl
theorem k_1094 : (Cond.methodLink "RetryChainsModel" (35 : Nat) y_m_isStation) ∈ gw := in_5 (List.mem_of_getElem? (i := 134) rfl) rfl
theorem k_1096 : (Cond.instanceMethod y_m_isStation) ∈ gw := in_5 (List.mem_of_getElem? (i := 136) rfl) rfl
theorem k_1097 : (Cond.code y_m_isStation b_m_isStation (2 : Nat) (Option.some Jvm.ClassFile.FieldType.boolean)) ∈ gw := in_5 (List.mem_of_getElem? (i := 137) rfl) rfl
theorem k_1098 : (Cond.methodLink "RetryChainsModel" (39 : Nat) y_m_isRate) ∈ gw := in_5 (List.mem_of_getElem? (i := 138) rfl) rfl
theorem k_1100 : (Cond.instanceMethod y_m_isRate) ∈ gw := in_5 (List.mem_of_getElem? (i := 140) rfl) rfl
theorem k_1101 : (Cond.code y_m_isRate b_m_isRate (2 : Nat) (Option.some Jvm.ClassFile.FieldType.boolean)) ∈ gw := in_5 (List.mem_of_getElem? (i := 141) rfl) rfl
theorem k_1105 : (Cond.code y_m_setShare b_m_setShare (2 : Nat) (Option.some Jvm.ClassFile.FieldType.int)) ∈ gw := in_5 (List.mem_of_getElem? (i := 145) rfl) rfl
theorem k_1106 : (Cond.methodLink "RetryChainsModel" (136 : Nat) y_m_sets) ∈ gw := in_5 (List.mem_of_getElem? (i := 146) rfl) rfl
theorem k_1108 : (Cond.instanceMethod y_m_sets) ∈ gw := in_5 (List.mem_of_getElem? (i := 148) rfl) rfl
theorem k_1109 : (Cond.code y_m_sets b_m_sets (6 : Nat) (Option.some Jvm.ClassFile.FieldType.int)) ∈ gw := in_5 (List.mem_of_getElem? (i := 149) rfl) rfl
theorem k_1113 : (Cond.code y_m_setWeight b_m_setWeight (2 : Nat) (Option.some Jvm.ClassFile.FieldType.int)) ∈ gw := in_5 (List.mem_of_getElem? (i := 153) rfl) rfl
theorem k_1117 : (Cond.code y_m_setInterval b_m_setInterval (2 : Nat) (Option.some Jvm.ClassFile.FieldType.int)) ∈ gw := in_5 (List.mem_of_getElem? (i := 157) rfl) rfl
theorem k_1118 : (Cond.constant "RetryChainsModel" (140 : Nat) (1000000 : Int32)) ∈ gw := in_5 (List.mem_of_getElem? (i := 158) rfl) rfl
theorem k_1122 : (Cond.code y_m_setBudget b_m_setBudget (2 : Nat) (Option.some Jvm.ClassFile.FieldType.int)) ∈ gw := in_5 (List.mem_of_getElem? (i := 162) rfl) rfl
theorem k_1126 : (Cond.code y_m_lay b_m_lay (3 : Nat) (Option.some Jvm.ClassFile.FieldType.int)) ∈ gw := in_5 (List.mem_of_getElem? (i := 166) rfl) rfl
theorem k_1127 : (Cond.methodLink "RetryChainsModel" (179 : Nat) y_m_hasAllowed) ∈ gw := in_5 (List.mem_of_getElem? (i := 167) rfl) rfl
theorem k_1129 : (Cond.instanceMethod y_m_hasAllowed) ∈ gw := in_5 (List.mem_of_getElem? (i := 169) rfl) rfl
theorem k_1130 : (Cond.code y_m_hasAllowed b_m_hasAllowed (4 : Nat) (Option.some Jvm.ClassFile.FieldType.boolean)) ∈ gw := in_5 (List.mem_of_getElem? (i := 170) rfl) rfl
theorem k_1131 : (Cond.methodLink "RetryChainsModel" (164 : Nat) y_m_freeChain) ∈ gw := in_5 (List.mem_of_getElem? (i := 171) rfl) rfl
theorem k_1133 : (Cond.instanceMethod y_m_freeChain) ∈ gw := in_5 (List.mem_of_getElem? (i := 173) rfl) rfl
theorem k_1134 : (Cond.code y_m_freeChain b_m_freeChain (3 : Nat) (Option.some Jvm.ClassFile.FieldType.int)) ∈ gw := in_5 (List.mem_of_getElem? (i := 174) rfl) rfl
theorem k_1135 : (Cond.methodLink "RetryChainsModel" (141 : Nat) y_m_open) ∈ gw := in_5 (List.mem_of_getElem? (i := 175) rfl) rfl
theorem k_1136 : (Cond.static y_m_open) ∈ gw := in_5 (List.mem_of_getElem? (i := 176) rfl) rfl
theorem k_1137 : (Cond.code y_m_open b_m_open (1 : Nat) (Option.some Jvm.ClassFile.FieldType.int)) ∈ gw := in_5 (List.mem_of_getElem? (i := 177) rfl) rfl
theorem k_1138 : (Cond.methodLink "RetryChainsModel" (182 : Nat) y_m_lays) ∈ gw := in_5 (List.mem_of_getElem? (i := 178) rfl) rfl
theorem k_1140 : (Cond.instanceMethod y_m_lays) ∈ gw := in_5 (List.mem_of_getElem? (i := 180) rfl) rfl
theorem k_1141 : (Cond.code y_m_lays b_m_lays (5 : Nat) (Option.some Jvm.ClassFile.FieldType.int)) ∈ gw := in_5 (List.mem_of_getElem? (i := 181) rfl) rfl
theorem k_1142 : (Cond.methodLink "RetryChainsModel" (167 : Nat) y_m_layFallback) ∈ gw := in_5 (List.mem_of_getElem? (i := 182) rfl) rfl
theorem k_1144 : (Cond.instanceMethod y_m_layFallback) ∈ gw := in_5 (List.mem_of_getElem? (i := 184) rfl) rfl
theorem k_1145 : (Cond.code y_m_layFallback b_m_layFallback (4 : Nat) (Option.none : Option Jvm.ClassFile.FieldType)) ∈ gw := in_5 (List.mem_of_getElem? (i := 185) rfl) rfl
theorem k_1146 : (Cond.methodLink "RetryChainsModel" (151 : Nat) y_m_roleOf) ∈ gw := in_5 (List.mem_of_getElem? (i := 186) rfl) rfl
theorem k_1148 : (Cond.instanceMethod y_m_roleOf) ∈ gw := in_5 (List.mem_of_getElem? (i := 188) rfl) rfl
theorem k_1149 : (Cond.code y_m_roleOf b_m_roleOf (3 : Nat) (Option.some Jvm.ClassFile.FieldType.int)) ∈ gw := in_5 (List.mem_of_getElem? (i := 189) rfl) rfl
theorem k_1150 : (Cond.methodLink "RetryChainsModel" (161 : Nat) y_m_fullEntry) ∈ gw := in_5 (List.mem_of_getElem? (i := 190) rfl) rfl
theorem k_1152 : (Cond.instanceMethod y_m_fullEntry) ∈ gw := in_5 (List.mem_of_getElem? (i := 192) rfl) rfl
theorem k_1153 : (Cond.code y_m_fullEntry b_m_fullEntry (4 : Nat) (Option.none : Option Jvm.ClassFile.FieldType)) ∈ gw := in_5 (List.mem_of_getElem? (i := 193) rfl) rfl
theorem k_1154 : (Cond.methodLink "RetryChainsModel" (144 : Nat) y_m_triesFor) ∈ gw := in_5 (List.mem_of_getElem? (i := 194) rfl) rfl
theorem k_1156 : (Cond.instanceMethod y_m_triesFor) ∈ gw := in_5 (List.mem_of_getElem? (i := 196) rfl) rfl
theorem k_1157 : (Cond.code y_m_triesFor b_m_triesFor (6 : Nat) (Option.some Jvm.ClassFile.FieldType.int)) ∈ gw := in_5 (List.mem_of_getElem? (i := 197) rfl) rfl
theorem k_1158 : (Cond.methodLink "RetryChainsModel" (53 : Nat) y_m_timeOf) ∈ gw := in_5 (List.mem_of_getElem? (i := 198) rfl) rfl
theorem k_1160 : (Cond.instanceMethod y_m_timeOf) ∈ gw := in_5 (List.mem_of_getElem? (i := 200) rfl) rfl
theorem k_1161 : (Cond.code y_m_timeOf b_m_timeOf (4 : Nat) (Option.some Jvm.ClassFile.FieldType.int)) ∈ gw := in_5 (List.mem_of_getElem? (i := 201) rfl) rfl
theorem k_1162 : (Cond.methodLink "RetryChainsModel" (49 : Nat) y_m_backoff) ∈ gw := in_5 (List.mem_of_getElem? (i := 202) rfl) rfl
theorem k_1163 : (Cond.static y_m_backoff) ∈ gw := in_5 (List.mem_of_getElem? (i := 203) rfl) rfl
theorem k_1164 : (Cond.code y_m_backoff b_m_backoff (3 : Nat) (Option.some Jvm.ClassFile.FieldType.int)) ∈ gw := in_5 (List.mem_of_getElem? (i := 204) rfl) rfl
theorem k_1165 : (Cond.methodLink "RetryChainsModel" (147 : Nat) y_m_entry) ∈ gw := in_5 (List.mem_of_getElem? (i := 205) rfl) rfl
theorem k_1167 : (Cond.instanceMethod y_m_entry) ∈ gw := in_5 (List.mem_of_getElem? (i := 207) rfl) rfl
theorem k_1168 : (Cond.code y_m_entry b_m_entry (5 : Nat) (Option.none : Option Jvm.ClassFile.FieldType)) ∈ gw := in_5 (List.mem_of_getElem? (i := 208) rfl) rfl
theorem k_1169 : (Cond.methodLink "RetryChainsModel" (154 : Nat) y_m_refuse) ∈ gw := in_5 (List.mem_of_getElem? (i := 209) rfl) rfl
theorem k_1171 : (Cond.instanceMethod y_m_refuse) ∈ gw := in_5 (List.mem_of_getElem? (i := 211) rfl) rfl
theorem k_1172 : (Cond.code y_m_refuse b_m_refuse (5 : Nat) (Option.none : Option Jvm.ClassFile.FieldType)) ∈ gw := in_5 (List.mem_of_getElem? (i := 212) rfl) rfl
theorem k_1173 : (Cond.methodLink "RetryChainsModel" (170 : Nat) y_m_sampledBy) ∈ gw := in_5 (List.mem_of_getElem? (i := 213) rfl) rfl
theorem k_1175 : (Cond.instanceMethod y_m_sampledBy) ∈ gw := in_5 (List.mem_of_getElem? (i := 215) rfl) rfl
theorem k_1176 : (Cond.code y_m_sampledBy b_m_sampledBy (5 : Nat) (Option.some Jvm.ClassFile.FieldType.int)) ∈ gw := in_5 (List.mem_of_getElem? (i := 216) rfl) rfl
theorem k_1177 : (Cond.constant "RetryChainsModel" (157 : Nat) (1103515245 : Int32)) ∈ gw := in_5 (List.mem_of_getElem? (i := 217) rfl) rfl
theorem k_1178 : (Cond.methodLink "RetryChainsModel" (158 : Nat) y_m_causeOf) ∈ gw := in_5 (List.mem_of_getElem? (i := 218) rfl) rfl
theorem k_1180 : (Cond.instanceMethod y_m_causeOf) ∈ gw := in_5 (List.mem_of_getElem? (i := 220) rfl) rfl
theorem k_1181 : (Cond.code y_m_causeOf b_m_causeOf (3 : Nat) (Option.some Jvm.ClassFile.FieldType.int)) ∈ gw := in_5 (List.mem_of_getElem? (i := 221) rfl) rfl
theorem k_1182 : (Cond.methodLink "RetryChainsModel" (173 : Nat) y_m_layPlain) ∈ gw := in_5 (List.mem_of_getElem? (i := 222) rfl) rfl
theorem k_1184 : (Cond.instanceMethod y_m_layPlain) ∈ gw := in_5 (List.mem_of_getElem? (i := 224) rfl) rfl
theorem k_1185 : (Cond.code y_m_layPlain b_m_layPlain (4 : Nat) (Option.none : Option Jvm.ClassFile.FieldType)) ∈ gw := in_5 (List.mem_of_getElem? (i := 225) rfl) rfl
theorem k_1186 : (Cond.methodLink "RetryChainsModel" (176 : Nat) y_m_laySampling) ∈ gw := in_5 (List.mem_of_getElem? (i := 226) rfl) rfl
theorem k_1188 : (Cond.instanceMethod y_m_laySampling) ∈ gw := in_5 (List.mem_of_getElem? (i := 228) rfl) rfl
theorem k_1189 : (Cond.code y_m_laySampling b_m_laySampling (5 : Nat) (Option.none : Option Jvm.ClassFile.FieldType)) ∈ gw := in_5 (List.mem_of_getElem? (i := 229) rfl) rfl
theorem k_1193 : (Cond.code y_m_enqueue b_m_enqueue (4 : Nat) (Option.some Jvm.ClassFile.FieldType.int)) ∈ gw := in_5 (List.mem_of_getElem? (i := 233) rfl) rfl
theorem k_1197 : (Cond.code y_m_dispatch b_m_dispatch (4 : Nat) (Option.some Jvm.ClassFile.FieldType.int)) ∈ gw := in_5 (List.mem_of_getElem? (i := 237) rfl) rfl
theorem k_1198 : (Cond.methodLink "RetryChainsModel" (188 : Nat) y_m_isAnyReady) ∈ gw := in_5 (List.mem_of_getElem? (i := 238) rfl) rfl
theorem k_1200 : (Cond.instanceMethod y_m_isAnyReady) ∈ gw := in_6 (List.mem_of_getElem? (i := 0) rfl) rfl
theorem k_1201 : (Cond.code y_m_isAnyReady b_m_isAnyReady (3 : Nat) (Option.some Jvm.ClassFile.FieldType.boolean)) ∈ gw := in_6 (List.mem_of_getElem? (i := 1) rfl) rfl
theorem k_1202 : (Cond.methodLink "RetryChainsModel" (185 : Nat) y_m_isReady) ∈ gw := in_6 (List.mem_of_getElem? (i := 2) rfl) rfl
theorem k_1204 : (Cond.instanceMethod y_m_isReady) ∈ gw := in_6 (List.mem_of_getElem? (i := 4) rfl) rfl
theorem k_1205 : (Cond.code y_m_isReady b_m_isReady (2 : Nat) (Option.some Jvm.ClassFile.FieldType.boolean)) ∈ gw := in_6 (List.mem_of_getElem? (i := 5) rfl) rfl
theorem k_1206 : (Cond.methodLink "RetryChainsModel" (192 : Nat) y_m_turns) ∈ gw := in_6 (List.mem_of_getElem? (i := 6) rfl) rfl
theorem k_1208 : (Cond.instanceMethod y_m_turns) ∈ gw := in_6 (List.mem_of_getElem? (i := 8) rfl) rfl
theorem k_1209 : (Cond.code y_m_turns b_m_turns (1 : Nat) (Option.none : Option Jvm.ClassFile.FieldType)) ∈ gw := in_6 (List.mem_of_getElem? (i := 9) rfl) rfl
theorem k_1213 : (Cond.code y_m_report b_m_report (4 : Nat) (Option.some Jvm.ClassFile.FieldType.int)) ∈ gw := in_6 (List.mem_of_getElem? (i := 13) rfl) rfl
theorem k_1214 : (Cond.methodLink "RetryChainsModel" (218 : Nat) y_m_isOpen) ∈ gw := in_6 (List.mem_of_getElem? (i := 14) rfl) rfl
theorem k_1216 : (Cond.instanceMethod y_m_isOpen) ∈ gw := in_6 (List.mem_of_getElem? (i := 16) rfl) rfl
theorem k_1217 : (Cond.code y_m_isOpen b_m_isOpen (2 : Nat) (Option.some Jvm.ClassFile.FieldType.boolean)) ∈ gw := in_6 (List.mem_of_getElem? (i := 17) rfl) rfl
theorem k_1218 : (Cond.methodLink "RetryChainsModel" (221 : Nat) y_m_triesOfAll) ∈ gw := in_6 (List.mem_of_getElem? (i := 18) rfl) rfl
theorem k_1220 : (Cond.instanceMethod y_m_triesOfAll) ∈ gw := in_6 (List.mem_of_getElem? (i := 20) rfl) rfl
theorem k_1221 : (Cond.code y_m_triesOfAll b_m_triesOfAll (4 : Nat) (Option.some Jvm.ClassFile.FieldType.int)) ∈ gw := in_6 (List.mem_of_getElem? (i := 21) rfl) rfl
theorem k_1222 : (Cond.methodLink "RetryChainsModel" (207 : Nat) y_m_timeOfTries) ∈ gw := in_6 (List.mem_of_getElem? (i := 22) rfl) rfl
theorem k_1224 : (Cond.instanceMethod y_m_timeOfTries) ∈ gw := in_6 (List.mem_of_getElem? (i := 24) rfl) rfl
theorem k_1225 : (Cond.code y_m_timeOfTries b_m_timeOfTries (5 : Nat) (Option.some Jvm.ClassFile.FieldType.int)) ∈ gw := in_6 (List.mem_of_getElem? (i := 25) rfl) rfl
theorem k_1226 : (Cond.methodLink "RetryChainsModel" (204 : Nat) y_m_timeOfTry) ∈ gw := in_6 (List.mem_of_getElem? (i := 26) rfl) rfl
theorem k_1228 : (Cond.instanceMethod y_m_timeOfTry) ∈ gw := in_6 (List.mem_of_getElem? (i := 28) rfl) rfl
theorem k_1229 : (Cond.code y_m_timeOfTry b_m_timeOfTry (3 : Nat) (Option.some Jvm.ClassFile.FieldType.int)) ∈ gw := in_6 (List.mem_of_getElem? (i := 29) rfl) rfl
theorem k_1230 : (Cond.methodLink "RetryChainsModel" (198 : Nat) y_m_rateOfTry) ∈ gw := in_6 (List.mem_of_getElem? (i := 30) rfl) rfl
theorem k_1232 : (Cond.instanceMethod y_m_rateOfTry) ∈ gw := in_6 (List.mem_of_getElem? (i := 32) rfl) rfl
theorem k_1233 : (Cond.code y_m_rateOfTry b_m_rateOfTry (3 : Nat) (Option.some Jvm.ClassFile.FieldType.int)) ∈ gw := in_6 (List.mem_of_getElem? (i := 33) rfl) rfl
theorem k_1234 : (Cond.methodLink "RetryChainsModel" (195 : Nat) y_m_entryOf) ∈ gw := in_6 (List.mem_of_getElem? (i := 34) rfl) rfl
theorem k_1236 : (Cond.instanceMethod y_m_entryOf) ∈ gw := in_6 (List.mem_of_getElem? (i := 36) rfl) rfl
theorem k_1237 : (Cond.code y_m_entryOf b_m_entryOf (5 : Nat) (Option.some Jvm.ClassFile.FieldType.int)) ∈ gw := in_6 (List.mem_of_getElem? (i := 37) rfl) rfl
theorem k_1238 : (Cond.methodLink "RetryChainsModel" (201 : Nat) y_m_tryOf) ∈ gw := in_6 (List.mem_of_getElem? (i := 38) rfl) rfl
theorem k_1240 : (Cond.instanceMethod y_m_tryOf) ∈ gw := in_6 (List.mem_of_getElem? (i := 40) rfl) rfl
theorem k_1241 : (Cond.code y_m_tryOf b_m_tryOf (5 : Nat) (Option.some Jvm.ClassFile.FieldType.int)) ∈ gw := in_6 (List.mem_of_getElem? (i := 41) rfl) rfl
theorem k_1242 : (Cond.methodLink "RetryChainsModel" (224 : Nat) y_m_reports) ∈ gw := in_6 (List.mem_of_getElem? (i := 42) rfl) rfl
theorem k_1244 : (Cond.instanceMethod y_m_reports) ∈ gw := in_6 (List.mem_of_getElem? (i := 44) rfl) rfl
theorem k_1245 : (Cond.code y_m_reports b_m_reports (9 : Nat) (Option.some Jvm.ClassFile.FieldType.int)) ∈ gw := in_6 (List.mem_of_getElem? (i := 45) rfl) rfl
theorem k_1246 : (Cond.constant "RetryChainsModel" (210 : Nat) (-1000000 : Int32)) ∈ gw := in_6 (List.mem_of_getElem? (i := 46) rfl) rfl
theorem k_1247 : (Cond.methodLink "RetryChainsModel" (211 : Nat) y_m_ends) ∈ gw := in_6 (List.mem_of_getElem? (i := 47) rfl) rfl
theorem k_1249 : (Cond.instanceMethod y_m_ends) ∈ gw := in_6 (List.mem_of_getElem? (i := 49) rfl) rfl
theorem k_1250 : (Cond.code y_m_ends b_m_ends (4 : Nat) (Option.none : Option Jvm.ClassFile.FieldType)) ∈ gw := in_6 (List.mem_of_getElem? (i := 50) rfl) rfl
theorem k_1251 : (Cond.methodLink "RetryChainsModel" (99 : Nat) y_m_log) ∈ gw := in_6 (List.mem_of_getElem? (i := 51) rfl) rfl
theorem k_1253 : (Cond.instanceMethod y_m_log) ∈ gw := in_6 (List.mem_of_getElem? (i := 53) rfl) rfl
theorem k_1254 : (Cond.code y_m_log b_m_log (5 : Nat) (Option.none : Option Jvm.ClassFile.FieldType)) ∈ gw := in_6 (List.mem_of_getElem? (i := 54) rfl) rfl
theorem k_1255 : (Cond.methodLink "RetryChainsModel" (215 : Nat) y_m_updatesDue) ∈ gw := in_6 (List.mem_of_getElem? (i := 55) rfl) rfl
theorem k_1257 : (Cond.instanceMethod y_m_updatesDue) ∈ gw := in_6 (List.mem_of_getElem? (i := 57) rfl) rfl
theorem k_1258 : (Cond.code y_m_updatesDue b_m_updatesDue (4 : Nat) (Option.none : Option Jvm.ClassFile.FieldType)) ∈ gw := in_6 (List.mem_of_getElem? (i := 58) rfl) rfl
theorem k_1259 : (Cond.methodLink "RetryChainsModel" (124 : Nat) y_m_updates) ∈ gw := in_6 (List.mem_of_getElem? (i := 59) rfl) rfl
theorem k_1261 : (Cond.instanceMethod y_m_updates) ∈ gw := in_6 (List.mem_of_getElem? (i := 61) rfl) rfl
theorem k_1262 : (Cond.code y_m_updates b_m_updates (5 : Nat) (Option.some Jvm.ClassFile.FieldType.int)) ∈ gw := in_6 (List.mem_of_getElem? (i := 62) rfl) rfl
theorem k_1263 : (Cond.methodLink "RetryChainsModel" (107 : Nat) y_m_collapses) ∈ gw := in_6 (List.mem_of_getElem? (i := 63) rfl) rfl
theorem k_1265 : (Cond.instanceMethod y_m_collapses) ∈ gw := in_6 (List.mem_of_getElem? (i := 65) rfl) rfl
theorem k_1266 : (Cond.code y_m_collapses b_m_collapses (6 : Nat) (Option.some Jvm.ClassFile.FieldType.boolean)) ∈ gw := in_6 (List.mem_of_getElem? (i := 66) rfl) rfl
theorem k_1267 : (Cond.methodLink "RetryChainsModel" (96 : Nat) y_m_change) ∈ gw := in_6 (List.mem_of_getElem? (i := 67) rfl) rfl
theorem k_1269 : (Cond.instanceMethod y_m_change) ∈ gw := in_6 (List.mem_of_getElem? (i := 69) rfl) rfl
theorem k_1270 : (Cond.code y_m_change b_m_change (3 : Nat) (Option.some Jvm.ClassFile.FieldType.int)) ∈ gw := in_6 (List.mem_of_getElem? (i := 70) rfl) rfl
theorem k_1271 : (Cond.methodLink "RetryChainsModel" (93 : Nat) y_m_sampleOf) ∈ gw := in_6 (List.mem_of_getElem? (i := 71) rfl) rfl
theorem k_1273 : (Cond.instanceMethod y_m_sampleOf) ∈ gw := in_6 (List.mem_of_getElem? (i := 73) rfl) rfl
theorem k_1274 : (Cond.code y_m_sampleOf b_m_sampleOf (2 : Nat) (Option.some Jvm.ClassFile.FieldType.int)) ∈ gw := in_6 (List.mem_of_getElem? (i := 74) rfl) rfl
theorem k_1275 : (Cond.constantLong "RetryChainsModel" (91 : Nat) (65536 : Int64)) ∈ gw := in_6 (List.mem_of_getElem? (i := 75) rfl) rfl
theorem k_1276 : (Cond.methodLink "RetryChainsModel" (110 : Nat) y_m_collapse) ∈ gw := in_6 (List.mem_of_getElem? (i := 76) rfl) rfl
theorem k_1278 : (Cond.instanceMethod y_m_collapse) ∈ gw := in_6 (List.mem_of_getElem? (i := 78) rfl) rfl
theorem k_1279 : (Cond.code y_m_collapse b_m_collapse (4 : Nat) (Option.none : Option Jvm.ClassFile.FieldType)) ∈ gw := in_6 (List.mem_of_getElem? (i := 79) rfl) rfl
theorem k_1280 : (Cond.methodLink "RetryChainsModel" (114 : Nat) y_m_follow) ∈ gw := in_6 (List.mem_of_getElem? (i := 80) rfl) rfl
theorem k_1282 : (Cond.instanceMethod y_m_follow) ∈ gw := in_6 (List.mem_of_getElem? (i := 82) rfl) rfl
theorem k_1283 : (Cond.code y_m_follow b_m_follow (3 : Nat) (Option.none : Option Jvm.ClassFile.FieldType)) ∈ gw := in_6 (List.mem_of_getElem? (i := 83) rfl) rfl
theorem k_1284 : (Cond.methodLink "RetryChainsModel" (103 : Nat) y_m_learn) ∈ gw := in_6 (List.mem_of_getElem? (i := 84) rfl) rfl
theorem k_1286 : (Cond.instanceMethod y_m_learn) ∈ gw := in_6 (List.mem_of_getElem? (i := 86) rfl) rfl
theorem k_1287 : (Cond.code y_m_learn b_m_learn (6 : Nat) (Option.none : Option Jvm.ClassFile.FieldType)) ∈ gw := in_6 (List.mem_of_getElem? (i := 87) rfl) rfl
theorem k_1291 : (Cond.code y_m_pass b_m_pass (2 : Nat) (Option.some Jvm.ClassFile.FieldType.int)) ∈ gw := in_6 (List.mem_of_getElem? (i := 91) rfl) rfl
theorem k_1295 : (Cond.code y_m_update b_m_update (2 : Nat) (Option.some Jvm.ClassFile.FieldType.int)) ∈ gw := in_6 (List.mem_of_getElem? (i := 95) rfl) rfl
theorem k_1297 : (Cond.instanceMethod y_m_kind) ∈ gw := in_6 (List.mem_of_getElem? (i := 97) rfl) rfl
theorem k_1298 : (Cond.selects "RetryChainsModel" y_m_kind y_m_kind) ∈ gw := in_6 (List.mem_of_getElem? (i := 98) rfl) rfl
theorem k_1299 : (Cond.code y_m_kind b_m_kind (2 : Nat) (Option.some Jvm.ClassFile.FieldType.int)) ∈ gw := in_6 (List.mem_of_getElem? (i := 99) rfl) rfl
theorem k_1303 : (Cond.code y_m_stationOf b_m_stationOf (2 : Nat) (Option.some Jvm.ClassFile.FieldType.int)) ∈ gw := in_6 (List.mem_of_getElem? (i := 103) rfl) rfl
theorem k_1307 : (Cond.code y_m_entryRate b_m_entryRate (3 : Nat) (Option.some Jvm.ClassFile.FieldType.int)) ∈ gw := in_6 (List.mem_of_getElem? (i := 107) rfl) rfl
theorem k_1311 : (Cond.code y_m_entryTries b_m_entryTries (3 : Nat) (Option.some Jvm.ClassFile.FieldType.int)) ∈ gw := in_6 (List.mem_of_getElem? (i := 111) rfl) rfl
theorem k_1315 : (Cond.code y_m_tag b_m_tag (4 : Nat) (Option.some Jvm.ClassFile.FieldType.int)) ∈ gw := in_6 (List.mem_of_getElem? (i := 115) rfl) rfl
theorem k_1319 : (Cond.code y_m_deliveryChance b_m_deliveryChance (6 : Nat) (Option.some Jvm.ClassFile.FieldType.int)) ∈ gw := in_6 (List.mem_of_getElem? (i := 119) rfl) rfl
theorem k_1320 : (Cond.constant "RetryChainsModel" (228 : Nat) (65536 : Int32)) ∈ gw := in_6 (List.mem_of_getElem? (i := 120) rfl) rfl
theorem k_1324 : (Cond.code y_m_expectedTime b_m_expectedTime (8 : Nat) (Option.some Jvm.ClassFile.FieldType.int)) ∈ gw := in_6 (List.mem_of_getElem? (i := 124) rfl) rfl
theorem k_1326 : (Cond.instanceMethod y_m_estimate) ∈ gw := in_6 (List.mem_of_getElem? (i := 126) rfl) rfl
theorem k_1327 : (Cond.selects "RetryChainsModel" y_m_estimate y_m_estimate) ∈ gw := in_6 (List.mem_of_getElem? (i := 127) rfl) rfl
theorem k_1328 : (Cond.code y_m_estimate b_m_estimate (4 : Nat) (Option.some Jvm.ClassFile.FieldType.int)) ∈ gw := in_6 (List.mem_of_getElem? (i := 128) rfl) rfl
theorem k_1332 : (Cond.code y_m_triesOf b_m_triesOf (3 : Nat) (Option.some Jvm.ClassFile.FieldType.int)) ∈ gw := in_6 (List.mem_of_getElem? (i := 132) rfl) rfl
theorem k_1336 : (Cond.code y_m_successesOf b_m_successesOf (3 : Nat) (Option.some Jvm.ClassFile.FieldType.int)) ∈ gw := in_6 (List.mem_of_getElem? (i := 136) rfl) rfl
theorem k_1340 : (Cond.code y_m_airTime b_m_airTime (3 : Nat) (Option.some Jvm.ClassFile.FieldType.int)) ∈ gw := in_6 (List.mem_of_getElem? (i := 140) rfl) rfl
theorem k_1341 : (Cond.constant "RetryChainsModel" (229 : Nat) (65535 : Int32)) ∈ gw := in_6 (List.mem_of_getElem? (i := 141) rfl) rfl
theorem k_1345 : (Cond.code y_m_throughput b_m_throughput (7 : Nat) (Option.some Jvm.ClassFile.FieldType.int)) ∈ gw := in_6 (List.mem_of_getElem? (i := 145) rfl) rfl
theorem k_1346 : (Cond.constantLong "RetryChainsModel" (230 : Nat) (2147483647 : Int64)) ∈ gw := in_6 (List.mem_of_getElem? (i := 146) rfl) rfl
theorem k_1350 : (Cond.code y_m_role b_m_role (3 : Nat) (Option.some Jvm.ClassFile.FieldType.int)) ∈ gw := in_6 (List.mem_of_getElem? (i := 150) rfl) rfl
theorem k_1354 : (Cond.code y_m_refusal b_m_refusal (3 : Nat) (Option.some Jvm.ClassFile.FieldType.int)) ∈ gw := in_6 (List.mem_of_getElem? (i := 154) rfl) rfl
theorem k_1358 : (Cond.code y_m_rateOfMode b_m_rateOfMode (3 : Nat) (Option.some Jvm.ClassFile.FieldType.int)) ∈ gw := in_6 (List.mem_of_getElem? (i := 158) rfl) rfl
theorem k_1359 : (Cond.methodLink "RetryChainsModel" (235 : Nat) y_m_atPlace) ∈ gw := in_6 (List.mem_of_getElem? (i := 159) rfl) rfl
theorem k_1361 : (Cond.instanceMethod y_m_atPlace) ∈ gw := in_6 (List.mem_of_getElem? (i := 161) rfl) rfl
theorem k_1362 : (Cond.code y_m_atPlace b_m_atPlace (5 : Nat) (Option.some Jvm.ClassFile.FieldType.int)) ∈ gw := in_6 (List.mem_of_getElem? (i := 162) rfl) rfl
theorem k_1363 : (Cond.methodLink "RetryChainsModel" (232 : Nat) y_m_before) ∈ gw := in_6 (List.mem_of_getElem? (i := 163) rfl) rfl
theorem k_1365 : (Cond.instanceMethod y_m_before) ∈ gw := in_6 (List.mem_of_getElem? (i := 165) rfl) rfl
theorem k_1366 : (Cond.code y_m_before b_m_before (5 : Nat) (Option.some Jvm.ClassFile.FieldType.int)) ∈ gw := in_6 (List.mem_of_getElem? (i := 166) rfl) rfl
theorem k_1370 : (Cond.code y_m_bestOfMode b_m_bestOfMode (6 : Nat) (Option.some Jvm.ClassFile.FieldType.int)) ∈ gw := in_6 (List.mem_of_getElem? (i := 170) rfl) rfl
theorem k_1374 : (Cond.code y_m_mostUsed b_m_mostUsed (5 : Nat) (Option.some Jvm.ClassFile.FieldType.int)) ∈ gw := in_6 (List.mem_of_getElem? (i := 174) rfl) rfl
theorem k_1378 : (Cond.code y_m_bestChain b_m_bestChain (10 : Nat) (Option.some Jvm.ClassFile.FieldType.int)) ∈ gw := in_6 (List.mem_of_getElem? (i := 178) rfl) rfl
theorem k_1379 : (Cond.methodLink "RetryChainsModel" (245 : Nat) y_m_isSequence) ∈ gw := in_6 (List.mem_of_getElem? (i := 179) rfl) rfl
theorem k_1381 : (Cond.instanceMethod y_m_isSequence) ∈ gw := in_6 (List.mem_of_getElem? (i := 181) rfl) rfl
theorem k_1382 : (Cond.code y_m_isSequence b_m_isSequence (6 : Nat) (Option.some Jvm.ClassFile.FieldType.boolean)) ∈ gw := in_6 (List.mem_of_getElem? (i := 182) rfl) rfl
theorem k_1383 : (Cond.methodLink "RetryChainsModel" (248 : Nat) y_m_walks) ∈ gw := in_6 (List.mem_of_getElem? (i := 183) rfl) rfl
theorem k_1385 : (Cond.instanceMethod y_m_walks) ∈ gw := in_6 (List.mem_of_getElem? (i := 185) rfl) rfl
theorem k_1386 : (Cond.code y_m_walks b_m_walks (8 : Nat) (Option.none : Option Jvm.ClassFile.FieldType)) ∈ gw := in_6 (List.mem_of_getElem? (i := 186) rfl) rfl
theorem k_1390 : (Cond.code y_m_chains b_m_chains (2 : Nat) (Option.some Jvm.ClassFile.FieldType.int)) ∈ gw := in_6 (List.mem_of_getElem? (i := 190) rfl) rfl
theorem k_1391 : (Cond.methodLink "RetryChainsModel" (251 : Nat) y_m_told) ∈ gw := in_6 (List.mem_of_getElem? (i := 191) rfl) rfl
theorem k_1393 : (Cond.instanceMethod y_m_told) ∈ gw := in_6 (List.mem_of_getElem? (i := 193) rfl) rfl
theorem k_1394 : (Cond.code y_m_told b_m_told (3 : Nat) (Option.some Jvm.ClassFile.FieldType.int)) ∈ gw := in_6 (List.mem_of_getElem? (i := 194) rfl) rfl
theorem k_1398 : (Cond.code y_m_sampled b_m_sampled (2 : Nat) (Option.some Jvm.ClassFile.FieldType.int)) ∈ gw := in_6 (List.mem_of_getElem? (i := 198) rfl) rfl
theorem k_1402 : (Cond.code y_m_delivered b_m_delivered (2 : Nat) (Option.some Jvm.ClassFile.FieldType.int)) ∈ gw := in_6 (List.mem_of_getElem? (i := 202) rfl) rfl
theorem k_1406 : (Cond.code y_m_lost b_m_lost (2 : Nat) (Option.some Jvm.ClassFile.FieldType.int)) ∈ gw := in_6 (List.mem_of_getElem? (i := 206) rfl) rfl
theorem k_1410 : (Cond.code y_m_queued b_m_queued (2 : Nat) (Option.some Jvm.ClassFile.FieldType.int)) ∈ gw := in_6 (List.mem_of_getElem? (i := 210) rfl) rfl
theorem k_1414 : (Cond.code y_m_deficit b_m_deficit (2 : Nat) (Option.some Jvm.ClassFile.FieldType.int)) ∈ gw := in_6 (List.mem_of_getElem? (i := 214) rfl) rfl
theorem k_1415 : (Cond.constant "RetryChainsModel" (254 : Nat) (-2147483648 : Int32)) ∈ gw := in_6 (List.mem_of_getElem? (i := 215) rfl) rfl
theorem k_1419 : (Cond.code y_m_inFallback b_m_inFallback (2 : Nat) (Option.some Jvm.ClassFile.FieldType.int)) ∈ gw := in_6 (List.mem_of_getElem? (i := 219) rfl) rfl
theorem k_1423 : (Cond.code y_m_time b_m_time (1 : Nat) (Option.some Jvm.ClassFile.FieldType.int)) ∈ gw := in_6 (List.mem_of_getElem? (i := 223) rfl) rfl
theorem k_1427 : (Cond.code y_m_setQuality b_m_setQuality (4 : Nat) (Option.some Jvm.ClassFile.FieldType.int)) ∈ gw := in_6 (List.mem_of_getElem? (i := 227) rfl) rfl
theorem k_1431 : (Cond.code y_m_simulate b_m_simulate (6 : Nat) (Option.some Jvm.ClassFile.FieldType.int)) ∈ gw := in_6 (List.mem_of_getElem? (i := 231) rfl) rfl
theorem k_1432 : (Cond.methodLink "RetryChainsModel" (256 : Nat) y_m_whyNot) ∈ gw := in_6 (List.mem_of_getElem? (i := 232) rfl) rfl
theorem k_1434 : (Cond.instanceMethod y_m_whyNot) ∈ gw := in_6 (List.mem_of_getElem? (i := 234) rfl) rfl
theorem k_1435 : (Cond.code y_m_whyNot b_m_whyNot (4 : Nat) (Option.some Jvm.ClassFile.FieldType.int)) ∈ gw := in_6 (List.mem_of_getElem? (i := 235) rfl) rfl
theorem k_1436 : (Cond.constant "RetryChainsModel" (255 : Nat) (1000000000 : Int32)) ∈ gw := in_6 (List.mem_of_getElem? (i := 236) rfl) rfl
theorem k_1437 : (Cond.methodLink "RetryChainsModel" (259 : Nat) y_m_simulates) ∈ gw := in_6 (List.mem_of_getElem? (i := 237) rfl) rfl
theorem k_1439 : (Cond.instanceMethod y_m_simulates) ∈ gw := in_6 (List.mem_of_getElem? (i := 239) rfl) rfl
theorem k_1440 : (Cond.code y_m_simulates b_m_simulates (13 : Nat) (Option.some Jvm.ClassFile.FieldType.int)) ∈ gw := in_7 (List.mem_of_getElem? (i := 0) rfl) rfl
theorem k_1444 : (Cond.code y_m_forecast b_m_forecast (8 : Nat) (Option.some Jvm.ClassFile.FieldType.int)) ∈ gw := in_7 (List.mem_of_getElem? (i := 4) rfl) rfl
theorem k_1448 : (Cond.code y_m_oracle b_m_oracle (6 : Nat) (Option.some Jvm.ClassFile.FieldType.int)) ∈ gw := in_7 (List.mem_of_getElem? (i := 8) rfl) rfl
theorem k_1452 : (Cond.code y_m_events b_m_events (1 : Nat) (Option.some Jvm.ClassFile.FieldType.int)) ∈ gw := in_7 (List.mem_of_getElem? (i := 12) rfl) rfl
theorem k_1456 : (Cond.code y_m_eventKind b_m_eventKind (2 : Nat) (Option.some Jvm.ClassFile.FieldType.int)) ∈ gw := in_7 (List.mem_of_getElem? (i := 16) rfl) rfl
theorem k_1457 : (Cond.methodLink "RetryChainsModel" (262 : Nat) y_m_event) ∈ gw := in_7 (List.mem_of_getElem? (i := 17) rfl) rfl
theorem k_1459 : (Cond.instanceMethod y_m_event) ∈ gw := in_7 (List.mem_of_getElem? (i := 19) rfl) rfl
theorem k_1460 : (Cond.code y_m_event b_m_event (3 : Nat) (Option.some Jvm.ClassFile.FieldType.int)) ∈ gw := in_7 (List.mem_of_getElem? (i := 20) rfl) rfl
theorem k_1464 : (Cond.code y_m_eventStation b_m_eventStation (2 : Nat) (Option.some Jvm.ClassFile.FieldType.int)) ∈ gw := in_7 (List.mem_of_getElem? (i := 24) rfl) rfl
theorem k_1468 : (Cond.code y_m_eventRate b_m_eventRate (2 : Nat) (Option.some Jvm.ClassFile.FieldType.int)) ∈ gw := in_7 (List.mem_of_getElem? (i := 28) rfl) rfl
theorem k_1472 : (Cond.code y_m_eventTime b_m_eventTime (2 : Nat) (Option.some Jvm.ClassFile.FieldType.int)) ∈ gw := in_7 (List.mem_of_getElem? (i := 32) rfl) rfl
theorem k_1476 : (Cond.code y_m_save b_m_save (3 : Nat) (Option.some Jvm.ClassFile.FieldType.int)) ∈ gw := in_7 (List.mem_of_getElem? (i := 36) rfl) rfl
theorem k_1480 : (Cond.code y_m_restore b_m_restore (3 : Nat) (Option.some Jvm.ClassFile.FieldType.int)) ∈ gw := in_7 (List.mem_of_getElem? (i := 40) rfl) rfl
theorem k_1484 : (Cond.code y_m_undo b_m_undo (2 : Nat) (Option.some Jvm.ClassFile.FieldType.int)) ∈ gw := in_7 (List.mem_of_getElem? (i := 44) rfl) rfl
theorem k_1488 : (Cond.code y_m_digest b_m_digest (4 : Nat) (Option.some Jvm.ClassFile.FieldType.long)) ∈ gw := in_7 (List.mem_of_getElem? (i := 48) rfl) rfl
theorem k_1489 : (Cond.constantLong "RetryChainsModel" (270 : Nat) (527 : Int64)) ∈ gw := in_7 (List.mem_of_getElem? (i := 49) rfl) rfl
theorem k_1490 : (Cond.constantLong "RetryChainsModel" (265 : Nat) (31 : Int64)) ∈ gw := in_7 (List.mem_of_getElem? (i := 50) rfl) rfl
theorem k_1491 : (Cond.methodLink "RetryChainsModel" (272 : Nat) y_m_stationDigest) ∈ gw := in_7 (List.mem_of_getElem? (i := 51) rfl) rfl
theorem k_1493 : (Cond.instanceMethod y_m_stationDigest) ∈ gw := in_7 (List.mem_of_getElem? (i := 53) rfl) rfl
theorem k_1494 : (Cond.code y_m_stationDigest b_m_stationDigest (7 : Nat) (Option.some Jvm.ClassFile.FieldType.long)) ∈ gw := in_7 (List.mem_of_getElem? (i := 54) rfl) rfl
theorem k_1495 : (Cond.methodLink "RetryChainsModel" (267 : Nat) y_m_estimate) ∈ gw := in_7 (List.mem_of_getElem? (i := 55) rfl) rfl
theorem k_1496 : (Cond.methodLink "RetryChainsModel" (276 : Nat) y_m_kind) ∈ gw := in_7 (List.mem_of_getElem? (i := 56) rfl) rfl
abbrev rm_ch_become : Room := { frames := 1, cells := 0, slots := 0, locals := 40 }
theorem mf_ch_become : MF y_ch_become b_ch_become 2 none 1 := ⟨k_405, k_8, by decide +kernel⟩
abbrev rm_ch_setRates : Room := { frames := 0, cells := 0, slots := 0, locals := 0 }
theorem mf_ch_setRates : MF y_ch_setRates b_ch_setRates 5 none 4 := ⟨k_544, k_8, by decide +kernel⟩
abbrev rm_ch_allTries : Room := { frames := 0, cells := 0, slots := 0, locals := 0 }
theorem mf_ch_allTries : MF y_ch_allTries b_ch_allTries 3 (some .int) 0 := ⟨k_598, k_8, by decide +kernel⟩
abbrev rm_ch_rateOfTry : Room := { frames := 0, cells := 0, slots := 0, locals := 0 }
theorem mf_ch_rateOfTry : MF y_ch_rateOfTry b_ch_rateOfTry 4 (some .int) 1 := ⟨k_896, k_8, by decide +kernel⟩
abbrev rm_lk_estimateOrZero : Room := { frames := 0, cells := 0, slots := 0, locals := 0 }
theorem mf_lk_estimateOrZero : MF y_lk_estimateOrZero b_lk_estimateOrZero 1 (some .int) 0 := ⟨k_441, k_6, by decide +kernel⟩
abbrev rm_tb_dividedUp : Room := { frames := 0, cells := 0, slots := 0, locals := 0 }
theorem mf_tb_dividedUp : MF y_tb_dividedUp b_tb_dividedUp 2 (some .int) 2 := ⟨k_429, k_3, by decide +kernel⟩
abbrev rm_tb_has : Room := { frames := 0, cells := 0, slots := 0, locals := 0 }
theorem mf_tb_has : MF y_tb_has b_tb_has 2 (some .boolean) 1 := ⟨k_423, k_3, by decide +kernel⟩
abbrev rm_tb_timeInAir : Room := { frames := 1, cells := 0, slots := 0, locals := 26 }
theorem mf_tb_timeInAir : MF y_tb_timeInAir b_tb_timeInAir 5 (some .int) 2 := ⟨k_419, k_3, by decide +kernel⟩
abbrev rm_tb_timeOfTry : Room := { frames := 2, cells := 0, slots := 0, locals := 50 }
theorem mf_tb_timeOfTry : MF y_tb_timeOfTry b_tb_timeOfTry 4 (some .int) 3 := ⟨k_552, k_3, by decide +kernel⟩
abbrev rm_tb_triesWithin : Room := { frames := 3, cells := 0, slots := 0, locals := 73 }
theorem mf_tb_triesWithin : MF y_tb_triesWithin b_tb_triesWithin 6 (some .int) 3 := ⟨k_548, k_3, by decide +kernel⟩
abbrev rm_se_prepare : Room := { frames := 4, cells := 0, slots := 0, locals := 98 }
theorem mf_se_prepare : MF y_se_prepare b_se_prepare 7 none 3 := ⟨k_820, k_10, by decide +kernel⟩
abbrev rm_se_keepIfBetter : Room := { frames := 1, cells := 0, slots := 0, locals := 40 }
theorem mf_se_keepIfBetter : MF y_se_keepIfBetter b_se_keepIfBetter 5 none 0 := ⟨k_838, k_10, by decide +kernel⟩
abbrev rm_se_place : Room := { frames := 0, cells := 0, slots := 0, locals := 0 }
theorem mf_se_place : MF y_se_place b_se_place 8 none 2 := ⟨k_834, k_10, by decide +kernel⟩
abbrev rm_se_explore : Room := { frames := 2, cells := 0, slots := 0, locals := 64 }
theorem mf_se_explore : MF y_se_explore b_se_explore 5 none 0 := ⟨k_828, k_10, by decide +kernel⟩
abbrev rm_lo_become : Room := { frames := 1, cells := 0, slots := 0, locals := 40 }
theorem mf_lo_become : MF y_lo_become b_lo_become 3 none 1 := ⟨k_410, k_4, by decide +kernel⟩
abbrev rm_lo_note : Room := { frames := 1, cells := 0, slots := 0, locals := 26 }
theorem mf_lo_note : MF y_lo_note b_lo_note 6 none 4 := ⟨k_627, k_4, by decide +kernel⟩
abbrev rm_lo_look : Room := { frames := 1, cells := 0, slots := 0, locals := 26 }
theorem mf_lo_look : MF y_lo_look b_lo_look 3 (some .int) 2 := ⟨k_924, k_4, by decide +kernel⟩
abbrev rm_lk_become : Room := { frames := 0, cells := 0, slots := 0, locals := 0 }
theorem mf_lk_become : MF y_lk_become b_lk_become 2 none 1 := ⟨k_400, k_6, by decide +kernel⟩
abbrev rm_st_become : Room := { frames := 1, cells := 0, slots := 0, locals := 40 }
theorem mf_st_become : MF y_st_become b_st_become 3 none 1 := ⟨k_396, k_5, by decide +kernel⟩
abbrev rm_tb_become : Room := { frames := 1, cells := 0, slots := 0, locals := 40 }
theorem mf_tb_become : MF y_tb_become b_tb_become 2 none 1 := ⟨k_389, k_3, by decide +kernel⟩
abbrev rm_nt_become : Room := { frames := 2, cells := 0, slots := 0, locals := 62 }
theorem mf_nt_become : MF y_nt_become b_nt_become 3 none 1 := ⟨k_385, k_2, by decide +kernel⟩
abbrev rm_hi_keep : Room := { frames := 3, cells := 0, slots := 0, locals := 84 }
theorem mf_hi_keep : MF y_hi_keep b_hi_keep 2 none 1 := ⟨k_378, k_9, by decide +kernel⟩
abbrev rm_hi_takeBack : Room := { frames := 3, cells := 0, slots := 0, locals := 84 }
theorem mf_hi_takeBack : MF y_hi_takeBack b_hi_takeBack 2 none 1 := ⟨k_953, k_9, by decide +kernel⟩
abbrev rm_lk_isEstimated : Room := { frames := 0, cells := 0, slots := 0, locals := 0 }
theorem mf_lk_isEstimated : MF y_lk_isEstimated b_lk_isEstimated 1 (some .boolean) 0 := ⟨k_652, k_6, by decide +kernel⟩
abbrev rm_lk_value : Room := { frames := 0, cells := 0, slots := 0, locals := 0 }
theorem mf_lk_value : MF y_lk_value b_lk_value 3 (some .int) 1 := ⟨k_445, k_6, by decide +kernel⟩
abbrev rm_lk_sample : Room := { frames := 0, cells := 0, slots := 0, locals := 0 }
theorem mf_lk_sample : MF y_lk_sample b_lk_sample 1 (some .int) 0 := ⟨k_656, k_6, by decide +kernel⟩
abbrev rm_lk_swing : Room := { frames := 0, cells := 0, slots := 0, locals := 0 }
theorem mf_lk_swing : MF y_lk_swing b_lk_swing 2 (some .int) 1 := ⟨k_661, k_6, by decide +kernel⟩
abbrev rm_lk_count : Room := { frames := 0, cells := 0, slots := 0, locals := 0 }
theorem mf_lk_count : MF y_lk_count b_lk_count 3 none 2 := ⟨k_617, k_6, by decide +kernel⟩
abbrev rm_lk_startFrom : Room := { frames := 0, cells := 0, slots := 0, locals := 0 }
theorem mf_lk_startFrom : MF y_lk_startFrom b_lk_startFrom 2 none 1 := ⟨k_669, k_6, by decide +kernel⟩
abbrev rm_lk_learn : Room := { frames := 1, cells := 0, slots := 0, locals := 21 }
theorem mf_lk_learn : MF y_lk_learn b_lk_learn 4 (some .boolean) 1 := ⟨k_677, k_6, by decide +kernel⟩
abbrev rm_nt_stationAt : Room := { frames := 0, cells := 0, slots := 0, locals := 0 }
theorem mf_nt_stationAt : MF y_nt_stationAt b_nt_stationAt 3 (some (.object "RetryChains$Station")) 1 := ⟨k_467, k_2, by decide +kernel⟩
abbrev rm_nt_linkAt : Room := { frames := 1, cells := 0, slots := 0, locals := 22 }
theorem mf_nt_linkAt : MF y_nt_linkAt b_nt_linkAt 4 (some (.object "RetryChains$Link")) 2 := ⟨k_471, k_2, by decide +kernel⟩
abbrev rm_nt_chainAt : Room := { frames := 0, cells := 0, slots := 0, locals := 0 }
theorem mf_nt_chainAt : MF y_nt_chainAt b_nt_chainAt 3 (some (.object "RetryChains$Chain")) 1 := ⟨k_594, k_2, by decide +kernel⟩
abbrev rm_nt_freeChain : Room := { frames := 0, cells := 0, slots := 0, locals := 0 }
theorem mf_nt_freeChain : MF y_nt_freeChain b_nt_freeChain 2 (some .int) 0 := ⟨k_506, k_2, by decide +kernel⟩
abbrev rm_nt_endOfNewInterval : Room := { frames := 0, cells := 0, slots := 0, locals := 0 }
theorem mf_nt_endOfNewInterval : MF y_nt_endOfNewInterval b_nt_endOfNewInterval 1 (some .long) 0 := ⟨k_459, k_2, by decide +kernel⟩
abbrev rm_tb_nominalOf : Room := { frames := 1, cells := 0, slots := 0, locals := 21 }
theorem mf_tb_nominalOf : MF y_tb_nominalOf b_tb_nominalOf 2 (some .int) 1 := ⟨k_536, k_3, by decide +kernel⟩
abbrev rm_nt_chooseRates : Room := { frames := 2, cells := 0, slots := 0, locals := 42 }
theorem mf_nt_chooseRates : MF y_nt_chooseRates b_nt_chooseRates 8 none 3 := ⟨k_540, k_2, by decide +kernel⟩
abbrev rm_nt_roleCause : Room := { frames := 0, cells := 0, slots := 0, locals := 0 }
theorem mf_nt_roleCause : MF y_nt_roleCause b_nt_roleCause 3 (some .int) 2 := ⟨k_531, k_2, by decide +kernel⟩
abbrev rm_nt_causeAgainst : Room := { frames := 2, cells := 0, slots := 0, locals := 42 }
theorem mf_nt_causeAgainst : MF y_nt_causeAgainst b_nt_causeAgainst 5 (some .int) 2 := ⟨k_528, k_2, by decide +kernel⟩
abbrev rm_rc_nextDraw : Room := { frames := 0, cells := 0, slots := 0, locals := 0 }
theorem mf_rc_nextDraw : MF y_rc_nextDraw b_rc_nextDraw 1 (some .int) 1 := ⟨k_522, k_1, by decide +kernel⟩
abbrev rm_st_noteRefusal : Room := { frames := 0, cells := 0, slots := 0, locals := 0 }
theorem mf_st_noteRefusal : MF y_st_noteRefusal b_st_noteRefusal 4 none 3 := ⟨k_515, k_5, by decide +kernel⟩
abbrev rm_nt_drawCandidate : Room := { frames := 3, cells := 0, slots := 0, locals := 66 }
theorem mf_nt_drawCandidate : MF y_nt_drawCandidate b_nt_drawCandidate 5 (some .int) 1 := ⟨k_519, k_2, by decide +kernel⟩
abbrev rm_nt_openChain : Room := { frames := 4, cells := 0, slots := 0, locals := 98 }
theorem mf_nt_openChain : MF y_nt_openChain b_nt_openChain 7 (some .int) 2 := ⟨k_510, k_2, by decide +kernel⟩
abbrev rm_st_hasAllowedRate : Room := { frames := 0, cells := 0, slots := 0, locals := 0 }
theorem mf_st_hasAllowedRate : MF y_st_hasAllowedRate b_st_hasAllowedRate 3 (some .boolean) 1 := ⟨k_502, k_5, by decide +kernel⟩
abbrev rm_st_isReady : Room := { frames := 1, cells := 0, slots := 0, locals := 22 }
theorem mf_st_isReady : MF y_st_isReady b_st_isReady 2 (some .boolean) 1 := ⟨k_575, k_5, by decide +kernel⟩
abbrev rm_nt_hasReadyStation : Room := { frames := 2, cells := 0, slots := 0, locals := 43 }
theorem mf_nt_hasReadyStation : MF y_nt_hasReadyStation b_nt_hasReadyStation 2 (some .boolean) 0 := ⟨k_571, k_2, by decide +kernel⟩
abbrev rm_nt_chooseByDeficit : Room := { frames := 2, cells := 0, slots := 0, locals := 43 }
theorem mf_nt_chooseByDeficit : MF y_nt_chooseByDeficit b_nt_chooseByDeficit 3 (some (.object "RetryChains$Station")) 0 := ⟨k_580, k_2, by decide +kernel⟩
abbrev rm_nt_timeOfTries : Room := { frames := 3, cells := 0, slots := 0, locals := 73 }
theorem mf_nt_timeOfTries : MF y_nt_timeOfTries b_nt_timeOfTries 8 (some .int) 2 := ⟨k_602, k_2, by decide +kernel⟩
abbrev rm_nt_beginFallback : Room := { frames := 2, cells := 0, slots := 0, locals := 51 }
theorem mf_nt_beginFallback : MF y_nt_beginFallback b_nt_beginFallback 2 none 1 := ⟨k_632, k_2, by decide +kernel⟩
abbrev rm_nt_countTries : Room := { frames := 1, cells := 0, slots := 0, locals := 26 }
theorem mf_nt_countTries : MF y_nt_countTries b_nt_countTries 9 none 4 := ⟨k_613, k_2, by decide +kernel⟩
abbrev rm_nt_endFallback : Room := { frames := 2, cells := 0, slots := 0, locals := 51 }
theorem mf_nt_endFallback : MF y_nt_endFallback b_nt_endFallback 2 none 1 := ⟨k_623, k_2, by decide +kernel⟩
abbrev rm_nt_conclude : Room := { frames := 4, cells := 0, slots := 0, locals := 100 }
theorem mf_nt_conclude : MF y_nt_conclude b_nt_conclude 6 none 3 := ⟨k_609, k_2, by decide +kernel⟩
abbrev rm_nt_learnAll : Room := { frames := 2, cells := 0, slots := 0, locals := 51 }
theorem mf_nt_learnAll : MF y_nt_learnAll b_nt_learnAll 4 none 1 := ⟨k_673, k_2, by decide +kernel⟩
abbrev rm_st_beginInterval : Room := { frames := 0, cells := 0, slots := 0, locals := 0 }
theorem mf_st_beginInterval : MF y_st_beginInterval b_st_beginInterval 5 none 2 := ⟨k_686, k_5, by decide +kernel⟩
abbrev rm_st_collapse : Room := { frames := 1, cells := 0, slots := 0, locals := 21 }
theorem mf_st_collapse : MF y_st_collapse b_st_collapse 4 none 1 := ⟨k_665, k_5, by decide +kernel⟩
abbrev rm_st_highest : Room := { frames := 1, cells := 0, slots := 0, locals := 22 }
theorem mf_st_highest : MF y_st_highest b_st_highest 15 (some .int) 4 := ⟨k_437, k_5, by decide +kernel⟩
abbrev rm_st_slowestAllowed : Room := { frames := 0, cells := 0, slots := 0, locals := 0 }
theorem mf_st_slowestAllowed : MF y_st_slowestAllowed b_st_slowestAllowed 5 (some .int) 1 := ⟨k_451, k_5, by decide +kernel⟩
abbrev rm_st_fillRoles : Room := { frames := 2, cells := 0, slots := 0, locals := 56 }
theorem mf_st_fillRoles : MF y_st_fillRoles b_st_fillRoles 4 none 1 := ⟨k_433, k_5, by decide +kernel⟩
abbrev rm_st_isCollapse : Room := { frames := 1, cells := 0, slots := 0, locals := 21 }
theorem mf_st_isCollapse : MF y_st_isCollapse b_st_isCollapse 5 (some .boolean) 1 := ⟨k_648, k_5, by decide +kernel⟩
abbrev rm_st_ratesTried : Room := { frames := 0, cells := 0, slots := 0, locals := 0 }
theorem mf_st_ratesTried : MF y_st_ratesTried b_st_ratesTried 4 (some .int) 1 := ⟨k_644, k_5, by decide +kernel⟩
abbrev rm_nt_refresh : Room := { frames := 3, cells := 0, slots := 0, locals := 79 }
theorem mf_nt_refresh : MF y_nt_refresh b_nt_refresh 4 (some .int) 1 := ⟨k_640, k_2, by decide +kernel⟩
abbrev rm_nt_updateEnded : Room := { frames := 4, cells := 0, slots := 0, locals := 102 }
theorem mf_nt_updateEnded : MF y_nt_updateEnded b_nt_updateEnded 2 none 0 := ⟨k_636, k_2, by decide +kernel⟩
abbrev rm_nt_reachAfter : Room := { frames := 2, cells := 0, slots := 0, locals := 45 }
theorem mf_nt_reachAfter : MF y_nt_reachAfter b_nt_reachAfter 6 (some .long) 3 := ⟨k_733, k_2, by decide +kernel⟩
abbrev rm_nt_reachOfEnd : Room := { frames := 3, cells := 0, slots := 0, locals := 70 }
theorem mf_nt_reachOfEnd : MF y_nt_reachOfEnd b_nt_reachOfEnd 6 (some .int) 1 := ⟨k_728, k_2, by decide +kernel⟩
abbrev rm_nt_weightedTime : Room := { frames := 3, cells := 0, slots := 0, locals := 73 }
theorem mf_nt_weightedTime : MF y_nt_weightedTime b_nt_weightedTime 8 (some .long) 1 := ⟨k_744, k_2, by decide +kernel⟩
abbrev rm_nt_sendFrames : Room := { frames := 5, cells := 0, slots := 0, locals := 125 }
theorem mf_nt_sendFrames : MF y_nt_sendFrames b_nt_sendFrames 14 (some .int) 4 := ⟨k_889, k_2, by decide +kernel⟩
abbrev rm_tb_append : Room := { frames := 2, cells := 0, slots := 0, locals := 50 }
theorem mf_tb_append : MF y_tb_append b_tb_append 4 (some .int) 2 := ⟨k_415, k_3, by decide +kernel⟩
abbrev rm_tb_placeInMode : Room := { frames := 0, cells := 0, slots := 0, locals := 0 }
theorem mf_tb_placeInMode : MF y_tb_placeInMode b_tb_placeInMode 5 (some .int) 1 := ⟨k_794, k_3, by decide +kernel⟩
abbrev rm_tb_inOrderOfSpeed : Room := { frames := 1, cells := 0, slots := 0, locals := 24 }
theorem mf_tb_inOrderOfSpeed : MF y_tb_inOrderOfSpeed b_tb_inOrderOfSpeed 4 (some .int) 2 := ⟨k_790, k_3, by decide +kernel⟩
abbrev rm_st_appendFrame : Room := { frames := 0, cells := 0, slots := 0, locals := 0 }
theorem mf_st_appendFrame : MF y_st_appendFrame b_st_appendFrame 2 (some .int) 1 := ⟨k_563, k_5, by decide +kernel⟩
abbrev rm_st_takeFrame : Room := { frames := 1, cells := 0, slots := 0, locals := 40 }
theorem mf_st_takeFrame : MF y_st_takeFrame b_st_takeFrame 2 (some .int) 0 := ⟨k_585, k_5, by decide +kernel⟩
abbrev rm_st_mostValuableOfMode : Room := { frames := 2, cells := 0, slots := 0, locals := 47 }
theorem mf_st_mostValuableOfMode : MF y_st_mostValuableOfMode b_st_mostValuableOfMode 8 (some .int) 2 := ⟨k_802, k_5, by decide +kernel⟩
abbrev rm_st_mostTried : Room := { frames := 0, cells := 0, slots := 0, locals := 0 }
theorem mf_st_mostTried : MF y_st_mostTried b_st_mostTried 5 (some .int) 1 := ⟨k_812, k_5, by decide +kernel⟩
abbrev rm_st_bestByChannel : Room := { frames := 2, cells := 0, slots := 0, locals := 50 }
theorem mf_st_bestByChannel : MF y_st_bestByChannel b_st_bestByChannel 13 (some .int) 2 := ⟨k_911, k_5, by decide +kernel⟩
abbrev rm_rc_isMode : Room := { frames := 0, cells := 0, slots := 0, locals := 0 }
theorem mf_rc_isMode : MF y_rc_isMode b_rc_isMode 1 (some .boolean) 1 := ⟨k_374, k_1, by decide +kernel⟩
abbrev rm_rc_addRate : Room := { frames := 4, cells := 0, slots := 0, locals := 105 }
theorem mf_rc_addRate : MF y_rc_addRate b_rc_addRate 5 (some .int) 2 := ⟨k_371, k_1, by decide +kernel⟩
abbrev rm_rc_addStation : Room := { frames := 4, cells := 0, slots := 0, locals := 105 }
theorem mf_rc_addStation : MF y_rc_addStation b_rc_addStation 3 (some .int) 0 := ⟨k_455, k_1, by decide +kernel⟩
abbrev rm_rc_allow : Room := { frames := 4, cells := 0, slots := 0, locals := 105 }
theorem mf_rc_allow : MF y_rc_allow b_rc_allow 7 (some .int) 3 := ⟨k_463, k_1, by decide +kernel⟩
abbrev rm_rc_setShare : Room := { frames := 4, cells := 0, slots := 0, locals := 105 }
theorem mf_rc_setShare : MF y_rc_setShare b_rc_setShare 3 (some .int) 1 := ⟨k_477, k_1, by decide +kernel⟩
abbrev rm_rc_setWeight : Room := { frames := 4, cells := 0, slots := 0, locals := 105 }
theorem mf_rc_setWeight : MF y_rc_setWeight b_rc_setWeight 3 (some .int) 1 := ⟨k_481, k_1, by decide +kernel⟩
abbrev rm_rc_setInterval : Room := { frames := 4, cells := 0, slots := 0, locals := 105 }
theorem mf_rc_setInterval : MF y_rc_setInterval b_rc_setInterval 3 (some .int) 1 := ⟨k_485, k_1, by decide +kernel⟩
abbrev rm_rc_setBudget : Room := { frames := 4, cells := 0, slots := 0, locals := 105 }
theorem mf_rc_setBudget : MF y_rc_setBudget b_rc_setBudget 3 (some .int) 1 := ⟨k_490, k_1, by decide +kernel⟩
abbrev rm_rc_isFrame : Room := { frames := 0, cells := 0, slots := 0, locals := 0 }
theorem mf_rc_isFrame : MF y_rc_isFrame b_rc_isFrame 1 (some .boolean) 1 := ⟨k_498, k_1, by decide +kernel⟩
abbrev rm_rc_lay : Room := { frames := 5, cells := 0, slots := 0, locals := 124 }
theorem mf_rc_lay : MF y_rc_lay b_rc_lay 4 (some .int) 2 := ⟨k_495, k_1, by decide +kernel⟩
abbrev rm_rc_enqueue : Room := { frames := 4, cells := 0, slots := 0, locals := 105 }
theorem mf_rc_enqueue : MF y_rc_enqueue b_rc_enqueue 4 (some .int) 2 := ⟨k_559, k_1, by decide +kernel⟩
abbrev rm_rc_dispatch : Room := { frames := 5, cells := 0, slots := 0, locals := 124 }
theorem mf_rc_dispatch : MF y_rc_dispatch b_rc_dispatch 2 (some .int) 0 := ⟨k_567, k_1, by decide +kernel⟩
abbrev rm_rc_report : Room := { frames := 5, cells := 0, slots := 0, locals := 125 }
theorem mf_rc_report : MF y_rc_report b_rc_report 6 (some .int) 3 := ⟨k_590, k_1, by decide +kernel⟩
abbrev rm_rc_pass : Room := { frames := 5, cells := 0, slots := 0, locals := 123 }
theorem mf_rc_pass : MF y_rc_pass b_rc_pass 2 (some .int) 1 := ⟨k_691, k_1, by decide +kernel⟩
abbrev rm_rc_update : Room := { frames := 4, cells := 0, slots := 0, locals := 105 }
theorem mf_rc_update : MF y_rc_update b_rc_update 3 (some .int) 1 := ⟨k_695, k_1, by decide +kernel⟩
abbrev rm_rc_kind : Room := { frames := 1, cells := 0, slots := 0, locals := 22 }
theorem mf_rc_kind : MF y_rc_kind b_rc_kind 3 (some .int) 1 := ⟨k_700, k_1, by decide +kernel⟩
abbrev rm_rc_stationOf : Room := { frames := 1, cells := 0, slots := 0, locals := 22 }
theorem mf_rc_stationOf : MF y_rc_stationOf b_rc_stationOf 3 (some .int) 1 := ⟨k_704, k_1, by decide +kernel⟩
abbrev rm_rc_isEntry : Room := { frames := 0, cells := 0, slots := 0, locals := 0 }
theorem mf_rc_isEntry : MF y_rc_isEntry b_rc_isEntry 1 (some .boolean) 1 := ⟨k_711, k_1, by decide +kernel⟩
abbrev rm_rc_entryRate : Room := { frames := 1, cells := 0, slots := 0, locals := 22 }
theorem mf_rc_entryRate : MF y_rc_entryRate b_rc_entryRate 4 (some .int) 2 := ⟨k_708, k_1, by decide +kernel⟩
abbrev rm_rc_entryTries : Room := { frames := 1, cells := 0, slots := 0, locals := 22 }
theorem mf_rc_entryTries : MF y_rc_entryTries b_rc_entryTries 4 (some .int) 2 := ⟨k_715, k_1, by decide +kernel⟩
abbrev rm_rc_tag : Room := { frames := 1, cells := 0, slots := 0, locals := 22 }
theorem mf_rc_tag : MF y_rc_tag b_rc_tag 4 (some .int) 1 := ⟨k_719, k_1, by decide +kernel⟩
abbrev rm_rc_deliveryChance : Room := { frames := 4, cells := 0, slots := 0, locals := 95 }
theorem mf_rc_deliveryChance : MF y_rc_deliveryChance b_rc_deliveryChance 3 (some .int) 1 := ⟨k_723, k_1, by decide +kernel⟩
abbrev rm_rc_expectedTime : Room := { frames := 4, cells := 0, slots := 0, locals := 100 }
theorem mf_rc_expectedTime : MF y_rc_expectedTime b_rc_expectedTime 3 (some .int) 1 := ⟨k_740, k_1, by decide +kernel⟩
abbrev rm_rc_estimate : Room := { frames := 2, cells := 0, slots := 0, locals := 45 }
theorem mf_rc_estimate : MF y_rc_estimate b_rc_estimate 4 (some .int) 2 := ⟨k_749, k_1, by decide +kernel⟩
abbrev rm_rc_triesOf : Room := { frames := 2, cells := 0, slots := 0, locals := 45 }
theorem mf_rc_triesOf : MF y_rc_triesOf b_rc_triesOf 4 (some .int) 2 := ⟨k_753, k_1, by decide +kernel⟩
abbrev rm_rc_successesOf : Room := { frames := 2, cells := 0, slots := 0, locals := 45 }
theorem mf_rc_successesOf : MF y_rc_successesOf b_rc_successesOf 4 (some .int) 2 := ⟨k_757, k_1, by decide +kernel⟩
abbrev rm_rc_isSize : Room := { frames := 0, cells := 0, slots := 0, locals := 0 }
theorem mf_rc_isSize : MF y_rc_isSize b_rc_isSize 1 (some .boolean) 1 := ⟨k_765, k_1, by decide +kernel⟩
abbrev rm_rc_airTime : Room := { frames := 2, cells := 0, slots := 0, locals := 50 }
theorem mf_rc_airTime : MF y_rc_airTime b_rc_airTime 3 (some .int) 2 := ⟨k_761, k_1, by decide +kernel⟩
abbrev rm_rc_throughput : Room := { frames := 2, cells := 0, slots := 0, locals := 50 }
theorem mf_rc_throughput : MF y_rc_throughput b_rc_throughput 8 (some .int) 3 := ⟨k_771, k_1, by decide +kernel⟩
abbrev rm_rc_role : Room := { frames := 1, cells := 0, slots := 0, locals := 22 }
theorem mf_rc_role : MF y_rc_role b_rc_role 4 (some .int) 2 := ⟨k_778, k_1, by decide +kernel⟩
abbrev rm_rc_refusal : Room := { frames := 1, cells := 0, slots := 0, locals := 22 }
theorem mf_rc_refusal : MF y_rc_refusal b_rc_refusal 4 (some .int) 2 := ⟨k_782, k_1, by decide +kernel⟩
abbrev rm_rc_rateOfMode : Room := { frames := 2, cells := 0, slots := 0, locals := 47 }
theorem mf_rc_rateOfMode : MF y_rc_rateOfMode b_rc_rateOfMode 3 (some .int) 2 := ⟨k_786, k_1, by decide +kernel⟩
abbrev rm_rc_bestOfMode : Room := { frames := 3, cells := 0, slots := 0, locals := 74 }
theorem mf_rc_bestOfMode : MF y_rc_bestOfMode b_rc_bestOfMode 4 (some .int) 2 := ⟨k_798, k_1, by decide +kernel⟩
abbrev rm_rc_mostUsed : Room := { frames := 1, cells := 0, slots := 0, locals := 24 }
theorem mf_rc_mostUsed : MF y_rc_mostUsed b_rc_mostUsed 3 (some .int) 1 := ⟨k_808, k_1, by decide +kernel⟩
abbrev rm_rc_bestChain : Room := { frames := 5, cells := 0, slots := 0, locals := 124 }
theorem mf_rc_bestChain : MF y_rc_bestChain b_rc_bestChain 5 (some .int) 3 := ⟨k_816, k_1, by decide +kernel⟩
abbrev rm_rc_chains : Room := { frames := 1, cells := 0, slots := 0, locals := 22 }
theorem mf_rc_chains : MF y_rc_chains b_rc_chains 3 (some .int) 1 := ⟨k_843, k_1, by decide +kernel⟩
abbrev rm_rc_sampled : Room := { frames := 1, cells := 0, slots := 0, locals := 22 }
theorem mf_rc_sampled : MF y_rc_sampled b_rc_sampled 3 (some .int) 1 := ⟨k_847, k_1, by decide +kernel⟩
abbrev rm_rc_delivered : Room := { frames := 1, cells := 0, slots := 0, locals := 22 }
theorem mf_rc_delivered : MF y_rc_delivered b_rc_delivered 3 (some .int) 1 := ⟨k_851, k_1, by decide +kernel⟩
abbrev rm_rc_lost : Room := { frames := 1, cells := 0, slots := 0, locals := 22 }
theorem mf_rc_lost : MF y_rc_lost b_rc_lost 3 (some .int) 1 := ⟨k_855, k_1, by decide +kernel⟩
abbrev rm_rc_queued : Room := { frames := 1, cells := 0, slots := 0, locals := 22 }
theorem mf_rc_queued : MF y_rc_queued b_rc_queued 3 (some .int) 1 := ⟨k_859, k_1, by decide +kernel⟩
abbrev rm_rc_deficit : Room := { frames := 1, cells := 0, slots := 0, locals := 22 }
theorem mf_rc_deficit : MF y_rc_deficit b_rc_deficit 3 (some .int) 1 := ⟨k_863, k_1, by decide +kernel⟩
abbrev rm_rc_inFallback : Room := { frames := 1, cells := 0, slots := 0, locals := 22 }
theorem mf_rc_inFallback : MF y_rc_inFallback b_rc_inFallback 3 (some .int) 1 := ⟨k_868, k_1, by decide +kernel⟩
abbrev rm_rc_time : Room := { frames := 0, cells := 0, slots := 0, locals := 0 }
theorem mf_rc_time : MF y_rc_time b_rc_time 1 (some .int) 0 := ⟨k_872, k_1, by decide +kernel⟩
abbrev rm_rc_setQuality : Room := { frames := 4, cells := 0, slots := 0, locals := 105 }
theorem mf_rc_setQuality : MF y_rc_setQuality b_rc_setQuality 6 (some .int) 3 := ⟨k_876, k_1, by decide +kernel⟩
abbrev rm_rc_errorOfSimulation : Room := { frames := 1, cells := 0, slots := 0, locals := 22 }
theorem mf_rc_errorOfSimulation : MF y_rc_errorOfSimulation b_rc_errorOfSimulation 5 (some .int) 3 := ⟨k_884, k_1, by decide +kernel⟩
abbrev rm_rc_simulate : Room := { frames := 6, cells := 0, slots := 0, locals := 158 }
theorem mf_rc_simulate : MF y_rc_simulate b_rc_simulate 6 (some .int) 4 := ⟨k_880, k_1, by decide +kernel⟩
abbrev rm_rc_forecast : Room := { frames := 6, cells := 0, slots := 0, locals := 158 }
theorem mf_rc_forecast : MF y_rc_forecast b_rc_forecast 6 (some .int) 4 := ⟨k_902, k_1, by decide +kernel⟩
abbrev rm_rc_oracle : Room := { frames := 3, cells := 0, slots := 0, locals := 82 }
theorem mf_rc_oracle : MF y_rc_oracle b_rc_oracle 4 (some .int) 2 := ⟨k_907, k_1, by decide +kernel⟩
abbrev rm_rc_events : Room := { frames := 0, cells := 0, slots := 0, locals := 0 }
theorem mf_rc_events : MF y_rc_events b_rc_events 1 (some .int) 0 := ⟨k_916, k_1, by decide +kernel⟩
abbrev rm_rc_eventKind : Room := { frames := 2, cells := 0, slots := 0, locals := 48 }
theorem mf_rc_eventKind : MF y_rc_eventKind b_rc_eventKind 2 (some .int) 1 := ⟨k_920, k_1, by decide +kernel⟩
abbrev rm_rc_eventStation : Room := { frames := 2, cells := 0, slots := 0, locals := 48 }
theorem mf_rc_eventStation : MF y_rc_eventStation b_rc_eventStation 2 (some .int) 1 := ⟨k_929, k_1, by decide +kernel⟩
abbrev rm_rc_eventRate : Room := { frames := 2, cells := 0, slots := 0, locals := 48 }
theorem mf_rc_eventRate : MF y_rc_eventRate b_rc_eventRate 2 (some .int) 1 := ⟨k_933, k_1, by decide +kernel⟩
abbrev rm_rc_eventTime : Room := { frames := 2, cells := 0, slots := 0, locals := 48 }
theorem mf_rc_eventTime : MF y_rc_eventTime b_rc_eventTime 2 (some .int) 1 := ⟨k_937, k_1, by decide +kernel⟩
abbrev rm_rc_save : Room := { frames := 3, cells := 0, slots := 0, locals := 84 }
theorem mf_rc_save : MF y_rc_save b_rc_save 2 (some .int) 1 := ⟨k_941, k_1, by decide +kernel⟩
abbrev rm_rc_restore : Room := { frames := 3, cells := 0, slots := 0, locals := 84 }
theorem mf_rc_restore : MF y_rc_restore b_rc_restore 2 (some .int) 1 := ⟨k_945, k_1, by decide +kernel⟩
abbrev rm_rc_undo : Room := { frames := 4, cells := 0, slots := 0, locals := 105 }
theorem mf_rc_undo : MF y_rc_undo b_rc_undo 1 (some .int) 0 := ⟨k_949, k_1, by decide +kernel⟩
abbrev rm_rc_digestOfStation : Room := { frames := 3, cells := 0, slots := 0, locals := 68 }
theorem mf_rc_digestOfStation : MF y_rc_digestOfStation b_rc_digestOfStation 7 (some .long) 2 := ⟨k_966, k_1, by decide +kernel⟩
abbrev rm_rc_digest : Room := { frames := 4, cells := 0, slots := 0, locals := 94 }
theorem mf_rc_digest : MF y_rc_digest b_rc_digest 4 (some .long) 0 := ⟨k_958, k_1, by decide +kernel⟩
abbrev rm_m_in : Room := { frames := 0, cells := 0, slots := 0, locals := 0 }
theorem mf_m_in : MF y_m_in b_m_in 3 (some .boolean) 3 := ⟨k_1017, k_11, by decide +kernel⟩
abbrev rm_m_act : Room := { frames := 0, cells := 0, slots := 0, locals := 0 }
theorem mf_m_act : MF y_m_act b_m_act 2 none 0 := ⟨k_1021, k_11, by decide +kernel⟩
abbrev rm_m_isRate : Room := { frames := 1, cells := 0, slots := 0, locals := 22 }
theorem mf_m_isRate : MF y_m_isRate b_m_isRate 2 (some .boolean) 1 := ⟨k_1101, k_11, by decide +kernel⟩
abbrev rm_m_isStation : Room := { frames := 1, cells := 0, slots := 0, locals := 22 }
theorem mf_m_isStation : MF y_m_isStation b_m_isStation 2 (some .boolean) 1 := ⟨k_1097, k_11, by decide +kernel⟩
abbrev rm_m_areBoth : Room := { frames := 2, cells := 0, slots := 0, locals := 43 }
theorem mf_m_areBoth : MF y_m_areBoth b_m_areBoth 3 (some .boolean) 2 := ⟨k_1093, k_11, by decide +kernel⟩
abbrev rm_m_pair : Room := { frames := 0, cells := 0, slots := 0, locals := 0 }
theorem mf_m_pair : MF y_m_pair b_m_pair 2 (some .int) 2 := ⟨k_1028, k_11, by decide +kernel⟩
abbrev rm_m_side : Room := { frames := 0, cells := 0, slots := 0, locals := 0 }
theorem mf_m_side : MF y_m_side b_m_side 1 (some .int) 1 := ⟨k_1035, k_11, by decide +kernel⟩
abbrev rm_m_open : Room := { frames := 0, cells := 0, slots := 0, locals := 0 }
theorem mf_m_open : MF y_m_open b_m_open 1 (some .int) 1 := ⟨k_1137, k_11, by decide +kernel⟩
abbrev rm_m_up : Room := { frames := 0, cells := 0, slots := 0, locals := 0 }
theorem mf_m_up : MF y_m_up b_m_up 2 (some .int) 2 := ⟨k_1067, k_11, by decide +kernel⟩
abbrev rm_m_air : Room := { frames := 1, cells := 0, slots := 0, locals := 21 }
theorem mf_m_air : MF y_m_air b_m_air 5 (some .int) 2 := ⟨k_1064, k_11, by decide +kernel⟩
abbrev rm_m_nominal : Room := { frames := 2, cells := 0, slots := 0, locals := 45 }
theorem mf_m_nominal : MF y_m_nominal b_m_nominal 2 (some .int) 1 := ⟨k_1060, k_11, by decide +kernel⟩
abbrev rm_m_backoff : Room := { frames := 0, cells := 0, slots := 0, locals := 0 }
theorem mf_m_backoff : MF y_m_backoff b_m_backoff 3 (some .int) 1 := ⟨k_1164, k_11, by decide +kernel⟩
abbrev rm_m_timeOf : Room := { frames := 2, cells := 0, slots := 0, locals := 45 }
theorem mf_m_timeOf : MF y_m_timeOf b_m_timeOf 4 (some .int) 3 := ⟨k_1161, k_11, by decide +kernel⟩
abbrev rm_m_triesFor : Room := { frames := 3, cells := 0, slots := 0, locals := 68 }
theorem mf_m_triesFor : MF y_m_triesFor b_m_triesFor 6 (some .int) 2 := ⟨k_1157, k_11, by decide +kernel⟩
abbrev rm_m_allows : Room := { frames := 1, cells := 0, slots := 0, locals := 21 }
theorem mf_m_allows : MF y_m_allows b_m_allows 3 (some .boolean) 2 := ⟨k_1043, k_11, by decide +kernel⟩
abbrev rm_m_known : Room := { frames := 1, cells := 0, slots := 0, locals := 21 }
theorem mf_m_known : MF y_m_known b_m_known 4 (some .int) 2 := ⟨k_1047, k_11, by decide +kernel⟩
abbrev rm_m_valueOf : Room := { frames := 3, cells := 0, slots := 0, locals := 66 }
theorem mf_m_valueOf : MF y_m_valueOf b_m_valueOf 4 (some .int) 2 := ⟨k_1055, k_11, by decide +kernel⟩
abbrev rm_m_betters : Room := { frames := 4, cells := 0, slots := 0, locals := 89 }
theorem mf_m_betters : MF y_m_betters b_m_betters 4 (some .boolean) 3 := ⟨k_1051, k_11, by decide +kernel⟩
abbrev rm_m_bestBut : Room := { frames := 5, cells := 0, slots := 0, locals := 112 }
theorem mf_m_bestBut : MF y_m_bestBut b_m_bestBut 6 (some .int) 3 := ⟨k_1039, k_11, by decide +kernel⟩
abbrev rm_m_surestOf : Room := { frames := 6, cells := 0, slots := 0, locals := 137 }
theorem mf_m_surestOf : MF y_m_surestOf b_m_surestOf 5 (some .int) 1 := ⟨k_1071, k_11, by decide +kernel⟩
abbrev rm_m_slowestOf : Room := { frames := 3, cells := 0, slots := 0, locals := 66 }
theorem mf_m_slowestOf : MF y_m_slowestOf b_m_slowestOf 4 (some .int) 1 := ⟨k_1076, k_11, by decide +kernel⟩
abbrev rm_m_fillRoles : Room := { frames := 7, cells := 0, slots := 0, locals := 161 }
theorem mf_m_fillRoles : MF y_m_fillRoles b_m_fillRoles 4 none 1 := ⟨k_1032, k_11, by decide +kernel⟩
abbrev rm_m_log : Room := { frames := 0, cells := 0, slots := 0, locals := 0 }
theorem mf_m_log : MF y_m_log b_m_log 5 none 3 := ⟨k_1254, k_11, by decide +kernel⟩
abbrev rm_m_endFromNow : Room := { frames := 0, cells := 0, slots := 0, locals := 0 }
theorem mf_m_endFromNow : MF y_m_endFromNow b_m_endFromNow 1 (some .int) 0 := ⟨k_1084, k_11, by decide +kernel⟩
abbrev rm_m_sampleOf : Room := { frames := 0, cells := 0, slots := 0, locals := 0 }
theorem mf_m_sampleOf : MF y_m_sampleOf b_m_sampleOf 2 (some .int) 1 := ⟨k_1274, k_11, by decide +kernel⟩
abbrev rm_m_change : Room := { frames := 1, cells := 0, slots := 0, locals := 21 }
theorem mf_m_change : MF y_m_change b_m_change 3 (some .int) 1 := ⟨k_1270, k_11, by decide +kernel⟩
abbrev rm_m_collapses : Room := { frames := 2, cells := 0, slots := 0, locals := 43 }
theorem mf_m_collapses : MF y_m_collapses b_m_collapses 6 (some .boolean) 1 := ⟨k_1266, k_11, by decide +kernel⟩
abbrev rm_m_collapse : Room := { frames := 1, cells := 0, slots := 0, locals := 24 }
theorem mf_m_collapse : MF y_m_collapse b_m_collapse 4 none 1 := ⟨k_1279, k_11, by decide +kernel⟩
abbrev rm_m_learn : Room := { frames := 2, cells := 0, slots := 0, locals := 43 }
theorem mf_m_learn : MF y_m_learn b_m_learn 6 none 2 := ⟨k_1287, k_11, by decide +kernel⟩
abbrev rm_m_follow : Room := { frames := 3, cells := 0, slots := 0, locals := 68 }
theorem mf_m_follow : MF y_m_follow b_m_follow 3 none 1 := ⟨k_1283, k_11, by decide +kernel⟩
abbrev rm_m_updates : Room := { frames := 8, cells := 0, slots := 0, locals := 184 }
theorem mf_m_updates : MF y_m_updates b_m_updates 5 (some .int) 1 := ⟨k_1262, k_11, by decide +kernel⟩
abbrev rm_m_updatesDue : Room := { frames := 9, cells := 0, slots := 0, locals := 208 }
theorem mf_m_updatesDue : MF y_m_updatesDue b_m_updatesDue 4 none 0 := ⟨k_1258, k_11, by decide +kernel⟩
abbrev rm_m_begins : Room := { frames := 1, cells := 0, slots := 0, locals := 21 }
theorem mf_m_begins : MF y_m_begins b_m_begins 4 none 2 := ⟨k_1025, k_11, by decide +kernel⟩
abbrev rm_m_addRate : Room := { frames := 8, cells := 0, slots := 0, locals := 184 }
theorem mf_m_addRate : MF y_m_addRate b_m_addRate 5 (some .int) 2 := ⟨k_1014, k_11, by decide +kernel⟩
abbrev rm_m_addStation : Room := { frames := 8, cells := 0, slots := 0, locals := 184 }
theorem mf_m_addStation : MF y_m_addStation b_m_addStation 3 (some .int) 0 := ⟨k_1080, k_11, by decide +kernel⟩
abbrev rm_m_allow : Room := { frames := 8, cells := 0, slots := 0, locals := 184 }
theorem mf_m_allow : MF y_m_allow b_m_allow 5 (some .int) 3 := ⟨k_1089, k_11, by decide +kernel⟩
abbrev rm_m_sets : Room := { frames := 1, cells := 0, slots := 0, locals := 22 }
theorem mf_m_sets : MF y_m_sets b_m_sets 6 (some .int) 4 := ⟨k_1109, k_11, by decide +kernel⟩
abbrev rm_m_setShare : Room := { frames := 2, cells := 0, slots := 0, locals := 47 }
theorem mf_m_setShare : MF y_m_setShare b_m_setShare 2 (some .int) 1 := ⟨k_1105, k_11, by decide +kernel⟩
abbrev rm_m_setWeight : Room := { frames := 2, cells := 0, slots := 0, locals := 47 }
theorem mf_m_setWeight : MF y_m_setWeight b_m_setWeight 2 (some .int) 1 := ⟨k_1113, k_11, by decide +kernel⟩
abbrev rm_m_setInterval : Room := { frames := 2, cells := 0, slots := 0, locals := 47 }
theorem mf_m_setInterval : MF y_m_setInterval b_m_setInterval 2 (some .int) 1 := ⟨k_1117, k_11, by decide +kernel⟩
abbrev rm_m_setBudget : Room := { frames := 2, cells := 0, slots := 0, locals := 47 }
theorem mf_m_setBudget : MF y_m_setBudget b_m_setBudget 2 (some .int) 1 := ⟨k_1122, k_11, by decide +kernel⟩
abbrev rm_m_hasAllowed : Room := { frames := 2, cells := 0, slots := 0, locals := 43 }
theorem mf_m_hasAllowed : MF y_m_hasAllowed b_m_hasAllowed 4 (some .boolean) 1 := ⟨k_1130, k_11, by decide +kernel⟩
abbrev rm_m_freeChain : Room := { frames := 1, cells := 0, slots := 0, locals := 20 }
theorem mf_m_freeChain : MF y_m_freeChain b_m_freeChain 3 (some .int) 0 := ⟨k_1134, k_11, by decide +kernel⟩
abbrev rm_m_entry : Room := { frames := 1, cells := 0, slots := 0, locals := 20 }
theorem mf_m_entry : MF y_m_entry b_m_entry 5 none 4 := ⟨k_1168, k_11, by decide +kernel⟩
abbrev rm_m_fullEntry : Room := { frames := 4, cells := 0, slots := 0, locals := 93 }
theorem mf_m_fullEntry : MF y_m_fullEntry b_m_fullEntry 4 none 3 := ⟨k_1153, k_11, by decide +kernel⟩
abbrev rm_m_roleOf : Room := { frames := 1, cells := 0, slots := 0, locals := 20 }
theorem mf_m_roleOf : MF y_m_roleOf b_m_roleOf 3 (some .int) 2 := ⟨k_1149, k_11, by decide +kernel⟩
abbrev rm_m_causeOf : Room := { frames := 3, cells := 0, slots := 0, locals := 66 }
theorem mf_m_causeOf : MF y_m_causeOf b_m_causeOf 3 (some .int) 2 := ⟨k_1181, k_11, by decide +kernel⟩
abbrev rm_m_refuse : Room := { frames := 1, cells := 0, slots := 0, locals := 20 }
theorem mf_m_refuse : MF y_m_refuse b_m_refuse 5 none 4 := ⟨k_1172, k_11, by decide +kernel⟩
abbrev rm_m_sampledBy : Room := { frames := 4, cells := 0, slots := 0, locals := 88 }
theorem mf_m_sampledBy : MF y_m_sampledBy b_m_sampledBy 5 (some .int) 1 := ⟨k_1176, k_11, by decide +kernel⟩
abbrev rm_m_layFallback : Room := { frames := 5, cells := 0, slots := 0, locals := 116 }
theorem mf_m_layFallback : MF y_m_layFallback b_m_layFallback 4 none 2 := ⟨k_1145, k_11, by decide +kernel⟩
abbrev rm_m_layPlain : Room := { frames := 5, cells := 0, slots := 0, locals := 116 }
theorem mf_m_layPlain : MF y_m_layPlain b_m_layPlain 4 none 2 := ⟨k_1185, k_11, by decide +kernel⟩
abbrev rm_m_laySampling : Room := { frames := 5, cells := 0, slots := 0, locals := 116 }
theorem mf_m_laySampling : MF y_m_laySampling b_m_laySampling 5 none 3 := ⟨k_1189, k_11, by decide +kernel⟩
abbrev rm_m_lays : Room := { frames := 6, cells := 0, slots := 0, locals := 140 }
theorem mf_m_lays : MF y_m_lays b_m_lays 5 (some .int) 2 := ⟨k_1141, k_11, by decide +kernel⟩
abbrev rm_m_lay : Room := { frames := 7, cells := 0, slots := 0, locals := 164 }
theorem mf_m_lay : MF y_m_lay b_m_lay 3 (some .int) 2 := ⟨k_1126, k_11, by decide +kernel⟩
abbrev rm_m_enqueue : Room := { frames := 2, cells := 0, slots := 0, locals := 43 }
theorem mf_m_enqueue : MF y_m_enqueue b_m_enqueue 4 (some .int) 2 := ⟨k_1193, k_11, by decide +kernel⟩
abbrev rm_m_isReady : Room := { frames := 3, cells := 0, slots := 0, locals := 66 }
theorem mf_m_isReady : MF y_m_isReady b_m_isReady 2 (some .boolean) 1 := ⟨k_1205, k_11, by decide +kernel⟩
abbrev rm_m_isAnyReady : Room := { frames := 4, cells := 0, slots := 0, locals := 87 }
theorem mf_m_isAnyReady : MF y_m_isAnyReady b_m_isAnyReady 3 (some .boolean) 0 := ⟨k_1201, k_11, by decide +kernel⟩
abbrev rm_m_turns : Room := { frames := 0, cells := 0, slots := 0, locals := 0 }
theorem mf_m_turns : MF y_m_turns b_m_turns 1 none 0 := ⟨k_1209, k_11, by decide +kernel⟩
abbrev rm_m_dispatch : Room := { frames := 7, cells := 0, slots := 0, locals := 164 }
theorem mf_m_dispatch : MF y_m_dispatch b_m_dispatch 4 (some .int) 0 := ⟨k_1197, k_11, by decide +kernel⟩
abbrev rm_m_triesOfAll : Room := { frames := 1, cells := 0, slots := 0, locals := 20 }
theorem mf_m_triesOfAll : MF y_m_triesOfAll b_m_triesOfAll 4 (some .int) 1 := ⟨k_1221, k_11, by decide +kernel⟩
abbrev rm_m_entryOf : Room := { frames := 1, cells := 0, slots := 0, locals := 20 }
theorem mf_m_entryOf : MF y_m_entryOf b_m_entryOf 5 (some .int) 2 := ⟨k_1237, k_11, by decide +kernel⟩
abbrev rm_m_tryOf : Room := { frames := 2, cells := 0, slots := 0, locals := 44 }
theorem mf_m_tryOf : MF y_m_tryOf b_m_tryOf 5 (some .int) 2 := ⟨k_1241, k_11, by decide +kernel⟩
abbrev rm_m_rateOfTry : Room := { frames := 2, cells := 0, slots := 0, locals := 44 }
theorem mf_m_rateOfTry : MF y_m_rateOfTry b_m_rateOfTry 3 (some .int) 2 := ⟨k_1233, k_11, by decide +kernel⟩
abbrev rm_m_timeOfTry : Room := { frames := 3, cells := 0, slots := 0, locals := 68 }
theorem mf_m_timeOfTry : MF y_m_timeOfTry b_m_timeOfTry 3 (some .int) 2 := ⟨k_1229, k_11, by decide +kernel⟩
abbrev rm_m_timeOfTries : Room := { frames := 4, cells := 0, slots := 0, locals := 90 }
theorem mf_m_timeOfTries : MF y_m_timeOfTries b_m_timeOfTries 5 (some .int) 2 := ⟨k_1225, k_11, by decide +kernel⟩
abbrev rm_m_ends : Room := { frames := 1, cells := 0, slots := 0, locals := 24 }
theorem mf_m_ends : MF y_m_ends b_m_ends 4 none 2 := ⟨k_1250, k_11, by decide +kernel⟩
abbrev rm_m_reports : Room := { frames := 10, cells := 0, slots := 0, locals := 231 }
theorem mf_m_reports : MF y_m_reports b_m_reports 9 (some .int) 3 := ⟨k_1245, k_11, by decide +kernel⟩
abbrev rm_m_isOpen : Room := { frames := 1, cells := 0, slots := 0, locals := 22 }
theorem mf_m_isOpen : MF y_m_isOpen b_m_isOpen 2 (some .boolean) 1 := ⟨k_1217, k_11, by decide +kernel⟩
abbrev rm_m_report : Room := { frames := 11, cells := 0, slots := 0, locals := 259 }
theorem mf_m_report : MF y_m_report b_m_report 4 (some .int) 3 := ⟨k_1213, k_11, by decide +kernel⟩
abbrev rm_m_pass : Room := { frames := 10, cells := 0, slots := 0, locals := 231 }
theorem mf_m_pass : MF y_m_pass b_m_pass 2 (some .int) 1 := ⟨k_1291, k_11, by decide +kernel⟩
abbrev rm_m_update : Room := { frames := 9, cells := 0, slots := 0, locals := 208 }
theorem mf_m_update : MF y_m_update b_m_update 2 (some .int) 1 := ⟨k_1295, k_11, by decide +kernel⟩
abbrev rm_m_kind : Room := { frames := 2, cells := 0, slots := 0, locals := 43 }
theorem mf_m_kind : MF y_m_kind b_m_kind 2 (some .int) 1 := ⟨k_1299, k_11, by decide +kernel⟩
abbrev rm_m_stationOf : Room := { frames := 2, cells := 0, slots := 0, locals := 43 }
theorem mf_m_stationOf : MF y_m_stationOf b_m_stationOf 2 (some .int) 1 := ⟨k_1303, k_11, by decide +kernel⟩
abbrev rm_m_entryRate : Room := { frames := 2, cells := 0, slots := 0, locals := 43 }
theorem mf_m_entryRate : MF y_m_entryRate b_m_entryRate 3 (some .int) 2 := ⟨k_1307, k_11, by decide +kernel⟩
abbrev rm_m_entryTries : Room := { frames := 2, cells := 0, slots := 0, locals := 43 }
theorem mf_m_entryTries : MF y_m_entryTries b_m_entryTries 3 (some .int) 2 := ⟨k_1311, k_11, by decide +kernel⟩
abbrev rm_m_tag : Room := { frames := 2, cells := 0, slots := 0, locals := 43 }
theorem mf_m_tag : MF y_m_tag b_m_tag 4 (some .int) 1 := ⟨k_1315, k_11, by decide +kernel⟩
abbrev rm_m_deliveryChance : Room := { frames := 3, cells := 0, slots := 0, locals := 66 }
theorem mf_m_deliveryChance : MF y_m_deliveryChance b_m_deliveryChance 6 (some .int) 1 := ⟨k_1319, k_11, by decide +kernel⟩
abbrev rm_m_expectedTime : Room := { frames := 4, cells := 0, slots := 0, locals := 90 }
theorem mf_m_expectedTime : MF y_m_expectedTime b_m_expectedTime 8 (some .int) 1 := ⟨k_1324, k_11, by decide +kernel⟩
abbrev rm_m_estimate : Room := { frames := 3, cells := 0, slots := 0, locals := 65 }
theorem mf_m_estimate : MF y_m_estimate b_m_estimate 4 (some .int) 2 := ⟨k_1328, k_11, by decide +kernel⟩
abbrev rm_m_triesOf : Room := { frames := 3, cells := 0, slots := 0, locals := 65 }
theorem mf_m_triesOf : MF y_m_triesOf b_m_triesOf 3 (some .int) 2 := ⟨k_1332, k_11, by decide +kernel⟩
abbrev rm_m_successesOf : Room := { frames := 3, cells := 0, slots := 0, locals := 65 }
theorem mf_m_successesOf : MF y_m_successesOf b_m_successesOf 3 (some .int) 2 := ⟨k_1336, k_11, by decide +kernel⟩
abbrev rm_m_airTime : Room := { frames := 2, cells := 0, slots := 0, locals := 45 }
theorem mf_m_airTime : MF y_m_airTime b_m_airTime 3 (some .int) 2 := ⟨k_1340, k_11, by decide +kernel⟩
abbrev rm_m_throughput : Room := { frames := 3, cells := 0, slots := 0, locals := 65 }
theorem mf_m_throughput : MF y_m_throughput b_m_throughput 7 (some .int) 3 := ⟨k_1345, k_11, by decide +kernel⟩
abbrev rm_m_role : Room := { frames := 2, cells := 0, slots := 0, locals := 43 }
theorem mf_m_role : MF y_m_role b_m_role 3 (some .int) 2 := ⟨k_1350, k_11, by decide +kernel⟩
abbrev rm_m_refusal : Room := { frames := 2, cells := 0, slots := 0, locals := 43 }
theorem mf_m_refusal : MF y_m_refusal b_m_refusal 3 (some .int) 2 := ⟨k_1354, k_11, by decide +kernel⟩
abbrev rm_m_before : Room := { frames := 0, cells := 0, slots := 0, locals := 0 }
theorem mf_m_before : MF y_m_before b_m_before 5 (some .int) 1 := ⟨k_1366, k_11, by decide +kernel⟩
abbrev rm_m_atPlace : Room := { frames := 1, cells := 0, slots := 0, locals := 24 }
theorem mf_m_atPlace : MF y_m_atPlace b_m_atPlace 5 (some .int) 2 := ⟨k_1362, k_11, by decide +kernel⟩
abbrev rm_m_rateOfMode : Room := { frames := 2, cells := 0, slots := 0, locals := 48 }
theorem mf_m_rateOfMode : MF y_m_rateOfMode b_m_rateOfMode 3 (some .int) 2 := ⟨k_1358, k_11, by decide +kernel⟩
abbrev rm_m_bestOfMode : Room := { frames := 4, cells := 0, slots := 0, locals := 89 }
theorem mf_m_bestOfMode : MF y_m_bestOfMode b_m_bestOfMode 6 (some .int) 2 := ⟨k_1370, k_11, by decide +kernel⟩
abbrev rm_m_mostUsed : Room := { frames := 2, cells := 0, slots := 0, locals := 43 }
theorem mf_m_mostUsed : MF y_m_mostUsed b_m_mostUsed 5 (some .int) 1 := ⟨k_1374, k_11, by decide +kernel⟩
abbrev rm_m_walks : Room := { frames := 4, cells := 0, slots := 0, locals := 93 }
theorem mf_m_walks : MF y_m_walks b_m_walks 8 none 3 := ⟨k_1386, k_11, by decide +kernel⟩
abbrev rm_m_isSequence : Room := { frames := 2, cells := 0, slots := 0, locals := 43 }
theorem mf_m_isSequence : MF y_m_isSequence b_m_isSequence 6 (some .boolean) 2 := ⟨k_1382, k_11, by decide +kernel⟩
abbrev rm_m_bestChain : Room := { frames := 5, cells := 0, slots := 0, locals := 120 }
theorem mf_m_bestChain : MF y_m_bestChain b_m_bestChain 10 (some .int) 3 := ⟨k_1378, k_11, by decide +kernel⟩
abbrev rm_m_told : Room := { frames := 2, cells := 0, slots := 0, locals := 43 }
theorem mf_m_told : MF y_m_told b_m_told 3 (some .int) 2 := ⟨k_1394, k_11, by decide +kernel⟩
abbrev rm_m_chains : Room := { frames := 3, cells := 0, slots := 0, locals := 65 }
theorem mf_m_chains : MF y_m_chains b_m_chains 2 (some .int) 1 := ⟨k_1390, k_11, by decide +kernel⟩
abbrev rm_m_sampled : Room := { frames := 3, cells := 0, slots := 0, locals := 65 }
theorem mf_m_sampled : MF y_m_sampled b_m_sampled 2 (some .int) 1 := ⟨k_1398, k_11, by decide +kernel⟩
abbrev rm_m_delivered : Room := { frames := 3, cells := 0, slots := 0, locals := 65 }
theorem mf_m_delivered : MF y_m_delivered b_m_delivered 2 (some .int) 1 := ⟨k_1402, k_11, by decide +kernel⟩
abbrev rm_m_lost : Room := { frames := 3, cells := 0, slots := 0, locals := 65 }
theorem mf_m_lost : MF y_m_lost b_m_lost 2 (some .int) 1 := ⟨k_1406, k_11, by decide +kernel⟩
abbrev rm_m_queued : Room := { frames := 3, cells := 0, slots := 0, locals := 65 }
theorem mf_m_queued : MF y_m_queued b_m_queued 2 (some .int) 1 := ⟨k_1410, k_11, by decide +kernel⟩
abbrev rm_m_deficit : Room := { frames := 2, cells := 0, slots := 0, locals := 43 }
theorem mf_m_deficit : MF y_m_deficit b_m_deficit 2 (some .int) 1 := ⟨k_1414, k_11, by decide +kernel⟩
abbrev rm_m_inFallback : Room := { frames := 3, cells := 0, slots := 0, locals := 65 }
theorem mf_m_inFallback : MF y_m_inFallback b_m_inFallback 2 (some .int) 1 := ⟨k_1419, k_11, by decide +kernel⟩
abbrev rm_m_time : Room := { frames := 0, cells := 0, slots := 0, locals := 0 }
theorem mf_m_time : MF y_m_time b_m_time 1 (some .int) 0 := ⟨k_1423, k_11, by decide +kernel⟩
abbrev rm_m_setQuality : Room := { frames := 3, cells := 0, slots := 0, locals := 65 }
theorem mf_m_setQuality : MF y_m_setQuality b_m_setQuality 4 (some .int) 3 := ⟨k_1427, k_11, by decide +kernel⟩
abbrev rm_m_whyNot : Room := { frames := 3, cells := 0, slots := 0, locals := 66 }
theorem mf_m_whyNot : MF y_m_whyNot b_m_whyNot 4 (some .int) 3 := ⟨k_1435, k_11, by decide +kernel⟩
abbrev rm_m_simulates : Room := { frames := 11, cells := 0, slots := 0, locals := 259 }
theorem mf_m_simulates : MF y_m_simulates b_m_simulates 13 (some .int) 4 := ⟨k_1440, k_11, by decide +kernel⟩
abbrev rm_m_simulate : Room := { frames := 12, cells := 0, slots := 0, locals := 291 }
theorem mf_m_simulate : MF y_m_simulate b_m_simulate 6 (some .int) 4 := ⟨k_1431, k_11, by decide +kernel⟩
abbrev rm_m_forecast : Room := { frames := 12, cells := 0, slots := 0, locals := 291 }
theorem mf_m_forecast : MF y_m_forecast b_m_forecast 8 (some .int) 4 := ⟨k_1444, k_11, by decide +kernel⟩
abbrev rm_m_oracle : Room := { frames := 2, cells := 0, slots := 0, locals := 45 }
theorem mf_m_oracle : MF y_m_oracle b_m_oracle 6 (some .int) 2 := ⟨k_1448, k_11, by decide +kernel⟩
abbrev rm_m_events : Room := { frames := 0, cells := 0, slots := 0, locals := 0 }
theorem mf_m_events : MF y_m_events b_m_events 1 (some .int) 0 := ⟨k_1452, k_11, by decide +kernel⟩
abbrev rm_m_event : Room := { frames := 0, cells := 0, slots := 0, locals := 0 }
theorem mf_m_event : MF y_m_event b_m_event 3 (some .int) 2 := ⟨k_1460, k_11, by decide +kernel⟩
abbrev rm_m_eventKind : Room := { frames := 1, cells := 0, slots := 0, locals := 22 }
theorem mf_m_eventKind : MF y_m_eventKind b_m_eventKind 2 (some .int) 1 := ⟨k_1456, k_11, by decide +kernel⟩
abbrev rm_m_eventStation : Room := { frames := 1, cells := 0, slots := 0, locals := 22 }
theorem mf_m_eventStation : MF y_m_eventStation b_m_eventStation 2 (some .int) 1 := ⟨k_1464, k_11, by decide +kernel⟩
abbrev rm_m_eventRate : Room := { frames := 1, cells := 0, slots := 0, locals := 22 }
theorem mf_m_eventRate : MF y_m_eventRate b_m_eventRate 2 (some .int) 1 := ⟨k_1468, k_11, by decide +kernel⟩
abbrev rm_m_eventTime : Room := { frames := 1, cells := 0, slots := 0, locals := 22 }
theorem mf_m_eventTime : MF y_m_eventTime b_m_eventTime 2 (some .int) 1 := ⟨k_1472, k_11, by decide +kernel⟩
abbrev rm_m_save : Room := { frames := 1, cells := 0, slots := 0, locals := 22 }
theorem mf_m_save : MF y_m_save b_m_save 3 (some .int) 1 := ⟨k_1476, k_11, by decide +kernel⟩
abbrev rm_m_restore : Room := { frames := 1, cells := 0, slots := 0, locals := 22 }
theorem mf_m_restore : MF y_m_restore b_m_restore 3 (some .int) 1 := ⟨k_1480, k_11, by decide +kernel⟩
abbrev rm_m_undo : Room := { frames := 0, cells := 0, slots := 0, locals := 0 }
theorem mf_m_undo : MF y_m_undo b_m_undo 2 (some .int) 0 := ⟨k_1484, k_11, by decide +kernel⟩
abbrev rm_m_stationDigest : Room := { frames := 4, cells := 0, slots := 0, locals := 88 }
theorem mf_m_stationDigest : MF y_m_stationDigest b_m_stationDigest 7 (some .long) 2 := ⟨k_1494, k_11, by decide +kernel⟩
abbrev rm_m_digest : Room := { frames := 5, cells := 0, slots := 0, locals := 114 }
theorem mf_m_digest : MF y_m_digest b_m_digest 4 (some .long) 0 := ⟨k_1488, k_11, by decide +kernel⟩
