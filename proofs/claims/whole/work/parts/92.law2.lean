theorem k_368 : (Cond.methodLink "RetryChainsLaw" (13 : Nat) y_rc_addRate) ∈ gw := in_2 (List.mem_of_getElem? (i := 128) rfl) rfl
theorem k_369 : (Cond.instanceMethod y_rc_addRate) ∈ gw := in_2 (List.mem_of_getElem? (i := 129) rfl) rfl
theorem k_370 : (Cond.selects "RetryChains" y_rc_addRate y_rc_addRate) ∈ gw := in_2 (List.mem_of_getElem? (i := 130) rfl) rfl
theorem k_452 : (Cond.methodLink "RetryChainsLaw" (18 : Nat) y_rc_addStation) ∈ gw := in_2 (List.mem_of_getElem? (i := 212) rfl) rfl
theorem k_453 : (Cond.instanceMethod y_rc_addStation) ∈ gw := in_2 (List.mem_of_getElem? (i := 213) rfl) rfl
theorem k_454 : (Cond.selects "RetryChains" y_rc_addStation y_rc_addStation) ∈ gw := in_2 (List.mem_of_getElem? (i := 214) rfl) rfl
theorem k_460 : (Cond.methodLink "RetryChainsLaw" (23 : Nat) y_rc_allow) ∈ gw := in_2 (List.mem_of_getElem? (i := 220) rfl) rfl
theorem k_461 : (Cond.instanceMethod y_rc_allow) ∈ gw := in_2 (List.mem_of_getElem? (i := 221) rfl) rfl
theorem k_462 : (Cond.selects "RetryChains" y_rc_allow y_rc_allow) ∈ gw := in_2 (List.mem_of_getElem? (i := 222) rfl) rfl
theorem k_474 : (Cond.methodLink "RetryChainsLaw" (28 : Nat) y_rc_setShare) ∈ gw := in_2 (List.mem_of_getElem? (i := 234) rfl) rfl
theorem k_475 : (Cond.instanceMethod y_rc_setShare) ∈ gw := in_2 (List.mem_of_getElem? (i := 235) rfl) rfl
theorem k_476 : (Cond.selects "RetryChains" y_rc_setShare y_rc_setShare) ∈ gw := in_2 (List.mem_of_getElem? (i := 236) rfl) rfl
theorem k_478 : (Cond.methodLink "RetryChainsLaw" (33 : Nat) y_rc_setWeight) ∈ gw := in_2 (List.mem_of_getElem? (i := 238) rfl) rfl
theorem k_479 : (Cond.instanceMethod y_rc_setWeight) ∈ gw := in_2 (List.mem_of_getElem? (i := 239) rfl) rfl
theorem k_480 : (Cond.selects "RetryChains" y_rc_setWeight y_rc_setWeight) ∈ gw := in_3 (List.mem_of_getElem? (i := 0) rfl) rfl
theorem k_482 : (Cond.methodLink "RetryChainsLaw" (37 : Nat) y_rc_setInterval) ∈ gw := in_3 (List.mem_of_getElem? (i := 2) rfl) rfl
theorem k_483 : (Cond.instanceMethod y_rc_setInterval) ∈ gw := in_3 (List.mem_of_getElem? (i := 3) rfl) rfl
theorem k_484 : (Cond.selects "RetryChains" y_rc_setInterval y_rc_setInterval) ∈ gw := in_3 (List.mem_of_getElem? (i := 4) rfl) rfl
theorem k_487 : (Cond.methodLink "RetryChainsLaw" (41 : Nat) y_rc_setBudget) ∈ gw := in_3 (List.mem_of_getElem? (i := 7) rfl) rfl
theorem k_488 : (Cond.instanceMethod y_rc_setBudget) ∈ gw := in_3 (List.mem_of_getElem? (i := 8) rfl) rfl
theorem k_489 : (Cond.selects "RetryChains" y_rc_setBudget y_rc_setBudget) ∈ gw := in_3 (List.mem_of_getElem? (i := 9) rfl) rfl
theorem k_492 : (Cond.methodLink "RetryChainsLaw" (45 : Nat) y_rc_lay) ∈ gw := in_3 (List.mem_of_getElem? (i := 12) rfl) rfl
theorem k_493 : (Cond.instanceMethod y_rc_lay) ∈ gw := in_3 (List.mem_of_getElem? (i := 13) rfl) rfl
theorem k_494 : (Cond.selects "RetryChains" y_rc_lay y_rc_lay) ∈ gw := in_3 (List.mem_of_getElem? (i := 14) rfl) rfl
theorem k_556 : (Cond.methodLink "RetryChainsLaw" (49 : Nat) y_rc_enqueue) ∈ gw := in_3 (List.mem_of_getElem? (i := 76) rfl) rfl
theorem k_557 : (Cond.instanceMethod y_rc_enqueue) ∈ gw := in_3 (List.mem_of_getElem? (i := 77) rfl) rfl
theorem k_558 : (Cond.selects "RetryChains" y_rc_enqueue y_rc_enqueue) ∈ gw := in_3 (List.mem_of_getElem? (i := 78) rfl) rfl
theorem k_564 : (Cond.methodLink "RetryChainsLaw" (53 : Nat) y_rc_dispatch) ∈ gw := in_3 (List.mem_of_getElem? (i := 84) rfl) rfl
theorem k_565 : (Cond.instanceMethod y_rc_dispatch) ∈ gw := in_3 (List.mem_of_getElem? (i := 85) rfl) rfl
theorem k_566 : (Cond.selects "RetryChains" y_rc_dispatch y_rc_dispatch) ∈ gw := in_3 (List.mem_of_getElem? (i := 86) rfl) rfl
theorem k_587 : (Cond.methodLink "RetryChainsLaw" (57 : Nat) y_rc_report) ∈ gw := in_3 (List.mem_of_getElem? (i := 107) rfl) rfl
theorem k_588 : (Cond.instanceMethod y_rc_report) ∈ gw := in_3 (List.mem_of_getElem? (i := 108) rfl) rfl
theorem k_589 : (Cond.selects "RetryChains" y_rc_report y_rc_report) ∈ gw := in_3 (List.mem_of_getElem? (i := 109) rfl) rfl
theorem k_688 : (Cond.methodLink "RetryChainsLaw" (61 : Nat) y_rc_pass) ∈ gw := in_3 (List.mem_of_getElem? (i := 208) rfl) rfl
theorem k_689 : (Cond.instanceMethod y_rc_pass) ∈ gw := in_3 (List.mem_of_getElem? (i := 209) rfl) rfl
theorem k_690 : (Cond.selects "RetryChains" y_rc_pass y_rc_pass) ∈ gw := in_3 (List.mem_of_getElem? (i := 210) rfl) rfl
theorem k_692 : (Cond.methodLink "RetryChainsLaw" (65 : Nat) y_rc_update) ∈ gw := in_3 (List.mem_of_getElem? (i := 212) rfl) rfl
theorem k_693 : (Cond.instanceMethod y_rc_update) ∈ gw := in_3 (List.mem_of_getElem? (i := 213) rfl) rfl
theorem k_694 : (Cond.selects "RetryChains" y_rc_update y_rc_update) ∈ gw := in_3 (List.mem_of_getElem? (i := 214) rfl) rfl
theorem k_697 : (Cond.methodLink "RetryChainsLaw" (69 : Nat) y_rc_kind) ∈ gw := in_3 (List.mem_of_getElem? (i := 217) rfl) rfl
theorem k_701 : (Cond.methodLink "RetryChainsLaw" (73 : Nat) y_rc_stationOf) ∈ gw := in_3 (List.mem_of_getElem? (i := 221) rfl) rfl
theorem k_702 : (Cond.instanceMethod y_rc_stationOf) ∈ gw := in_3 (List.mem_of_getElem? (i := 222) rfl) rfl
theorem k_703 : (Cond.selects "RetryChains" y_rc_stationOf y_rc_stationOf) ∈ gw := in_3 (List.mem_of_getElem? (i := 223) rfl) rfl
theorem k_705 : (Cond.methodLink "RetryChainsLaw" (77 : Nat) y_rc_entryRate) ∈ gw := in_3 (List.mem_of_getElem? (i := 225) rfl) rfl
theorem k_706 : (Cond.instanceMethod y_rc_entryRate) ∈ gw := in_3 (List.mem_of_getElem? (i := 226) rfl) rfl
theorem k_707 : (Cond.selects "RetryChains" y_rc_entryRate y_rc_entryRate) ∈ gw := in_3 (List.mem_of_getElem? (i := 227) rfl) rfl
theorem k_712 : (Cond.methodLink "RetryChainsLaw" (81 : Nat) y_rc_entryTries) ∈ gw := in_3 (List.mem_of_getElem? (i := 232) rfl) rfl
theorem k_713 : (Cond.instanceMethod y_rc_entryTries) ∈ gw := in_3 (List.mem_of_getElem? (i := 233) rfl) rfl
theorem k_714 : (Cond.selects "RetryChains" y_rc_entryTries y_rc_entryTries) ∈ gw := in_3 (List.mem_of_getElem? (i := 234) rfl) rfl
theorem k_716 : (Cond.methodLink "RetryChainsLaw" (85 : Nat) y_rc_tag) ∈ gw := in_3 (List.mem_of_getElem? (i := 236) rfl) rfl
theorem k_717 : (Cond.instanceMethod y_rc_tag) ∈ gw := in_3 (List.mem_of_getElem? (i := 237) rfl) rfl
theorem k_718 : (Cond.selects "RetryChains" y_rc_tag y_rc_tag) ∈ gw := in_3 (List.mem_of_getElem? (i := 238) rfl) rfl
theorem k_720 : (Cond.methodLink "RetryChainsLaw" (89 : Nat) y_rc_deliveryChance) ∈ gw := in_4 (List.mem_of_getElem? (i := 0) rfl) rfl
theorem k_721 : (Cond.instanceMethod y_rc_deliveryChance) ∈ gw := in_4 (List.mem_of_getElem? (i := 1) rfl) rfl
theorem k_722 : (Cond.selects "RetryChains" y_rc_deliveryChance y_rc_deliveryChance) ∈ gw := in_4 (List.mem_of_getElem? (i := 2) rfl) rfl
theorem k_737 : (Cond.methodLink "RetryChainsLaw" (93 : Nat) y_rc_expectedTime) ∈ gw := in_4 (List.mem_of_getElem? (i := 17) rfl) rfl
theorem k_738 : (Cond.instanceMethod y_rc_expectedTime) ∈ gw := in_4 (List.mem_of_getElem? (i := 18) rfl) rfl
theorem k_739 : (Cond.selects "RetryChains" y_rc_expectedTime y_rc_expectedTime) ∈ gw := in_4 (List.mem_of_getElem? (i := 19) rfl) rfl
theorem k_746 : (Cond.methodLink "RetryChainsLaw" (97 : Nat) y_rc_estimate) ∈ gw := in_4 (List.mem_of_getElem? (i := 26) rfl) rfl
theorem k_750 : (Cond.methodLink "RetryChainsLaw" (101 : Nat) y_rc_triesOf) ∈ gw := in_4 (List.mem_of_getElem? (i := 30) rfl) rfl
theorem k_754 : (Cond.methodLink "RetryChainsLaw" (105 : Nat) y_rc_successesOf) ∈ gw := in_4 (List.mem_of_getElem? (i := 34) rfl) rfl
theorem k_758 : (Cond.methodLink "RetryChainsLaw" (109 : Nat) y_rc_airTime) ∈ gw := in_4 (List.mem_of_getElem? (i := 38) rfl) rfl
theorem k_759 : (Cond.instanceMethod y_rc_airTime) ∈ gw := in_4 (List.mem_of_getElem? (i := 39) rfl) rfl
theorem k_760 : (Cond.selects "RetryChains" y_rc_airTime y_rc_airTime) ∈ gw := in_4 (List.mem_of_getElem? (i := 40) rfl) rfl
theorem k_768 : (Cond.methodLink "RetryChainsLaw" (113 : Nat) y_rc_throughput) ∈ gw := in_4 (List.mem_of_getElem? (i := 48) rfl) rfl
theorem k_769 : (Cond.instanceMethod y_rc_throughput) ∈ gw := in_4 (List.mem_of_getElem? (i := 49) rfl) rfl
theorem k_770 : (Cond.selects "RetryChains" y_rc_throughput y_rc_throughput) ∈ gw := in_4 (List.mem_of_getElem? (i := 50) rfl) rfl
theorem k_775 : (Cond.methodLink "RetryChainsLaw" (118 : Nat) y_rc_role) ∈ gw := in_4 (List.mem_of_getElem? (i := 55) rfl) rfl
theorem k_779 : (Cond.methodLink "RetryChainsLaw" (122 : Nat) y_rc_refusal) ∈ gw := in_4 (List.mem_of_getElem? (i := 59) rfl) rfl
theorem k_780 : (Cond.instanceMethod y_rc_refusal) ∈ gw := in_4 (List.mem_of_getElem? (i := 60) rfl) rfl
theorem k_781 : (Cond.selects "RetryChains" y_rc_refusal y_rc_refusal) ∈ gw := in_4 (List.mem_of_getElem? (i := 61) rfl) rfl
theorem k_783 : (Cond.methodLink "RetryChainsLaw" (126 : Nat) y_rc_rateOfMode) ∈ gw := in_4 (List.mem_of_getElem? (i := 63) rfl) rfl
theorem k_784 : (Cond.instanceMethod y_rc_rateOfMode) ∈ gw := in_4 (List.mem_of_getElem? (i := 64) rfl) rfl
theorem k_785 : (Cond.selects "RetryChains" y_rc_rateOfMode y_rc_rateOfMode) ∈ gw := in_4 (List.mem_of_getElem? (i := 65) rfl) rfl
theorem k_795 : (Cond.methodLink "RetryChainsLaw" (130 : Nat) y_rc_bestOfMode) ∈ gw := in_4 (List.mem_of_getElem? (i := 75) rfl) rfl
theorem k_796 : (Cond.instanceMethod y_rc_bestOfMode) ∈ gw := in_4 (List.mem_of_getElem? (i := 76) rfl) rfl
theorem k_797 : (Cond.selects "RetryChains" y_rc_bestOfMode y_rc_bestOfMode) ∈ gw := in_4 (List.mem_of_getElem? (i := 77) rfl) rfl
theorem k_805 : (Cond.methodLink "RetryChainsLaw" (134 : Nat) y_rc_mostUsed) ∈ gw := in_4 (List.mem_of_getElem? (i := 85) rfl) rfl
theorem k_806 : (Cond.instanceMethod y_rc_mostUsed) ∈ gw := in_4 (List.mem_of_getElem? (i := 86) rfl) rfl
theorem k_807 : (Cond.selects "RetryChains" y_rc_mostUsed y_rc_mostUsed) ∈ gw := in_4 (List.mem_of_getElem? (i := 87) rfl) rfl
theorem k_813 : (Cond.methodLink "RetryChainsLaw" (138 : Nat) y_rc_bestChain) ∈ gw := in_4 (List.mem_of_getElem? (i := 93) rfl) rfl
theorem k_814 : (Cond.instanceMethod y_rc_bestChain) ∈ gw := in_4 (List.mem_of_getElem? (i := 94) rfl) rfl
theorem k_815 : (Cond.selects "RetryChains" y_rc_bestChain y_rc_bestChain) ∈ gw := in_4 (List.mem_of_getElem? (i := 95) rfl) rfl
theorem k_840 : (Cond.methodLink "RetryChainsLaw" (142 : Nat) y_rc_chains) ∈ gw := in_4 (List.mem_of_getElem? (i := 120) rfl) rfl
theorem k_844 : (Cond.methodLink "RetryChainsLaw" (146 : Nat) y_rc_sampled) ∈ gw := in_4 (List.mem_of_getElem? (i := 124) rfl) rfl
theorem k_848 : (Cond.methodLink "RetryChainsLaw" (150 : Nat) y_rc_delivered) ∈ gw := in_4 (List.mem_of_getElem? (i := 128) rfl) rfl
theorem k_852 : (Cond.methodLink "RetryChainsLaw" (154 : Nat) y_rc_lost) ∈ gw := in_4 (List.mem_of_getElem? (i := 132) rfl) rfl
theorem k_856 : (Cond.methodLink "RetryChainsLaw" (158 : Nat) y_rc_queued) ∈ gw := in_4 (List.mem_of_getElem? (i := 136) rfl) rfl
theorem k_860 : (Cond.methodLink "RetryChainsLaw" (162 : Nat) y_rc_deficit) ∈ gw := in_4 (List.mem_of_getElem? (i := 140) rfl) rfl
theorem k_865 : (Cond.methodLink "RetryChainsLaw" (166 : Nat) y_rc_inFallback) ∈ gw := in_4 (List.mem_of_getElem? (i := 145) rfl) rfl
theorem k_869 : (Cond.methodLink "RetryChainsLaw" (170 : Nat) y_rc_time) ∈ gw := in_4 (List.mem_of_getElem? (i := 149) rfl) rfl
theorem k_873 : (Cond.methodLink "RetryChainsLaw" (174 : Nat) y_rc_setQuality) ∈ gw := in_4 (List.mem_of_getElem? (i := 153) rfl) rfl
theorem k_874 : (Cond.instanceMethod y_rc_setQuality) ∈ gw := in_4 (List.mem_of_getElem? (i := 154) rfl) rfl
theorem k_875 : (Cond.selects "RetryChains" y_rc_setQuality y_rc_setQuality) ∈ gw := in_4 (List.mem_of_getElem? (i := 155) rfl) rfl
theorem k_877 : (Cond.methodLink "RetryChainsLaw" (178 : Nat) y_rc_simulate) ∈ gw := in_4 (List.mem_of_getElem? (i := 157) rfl) rfl
theorem k_878 : (Cond.instanceMethod y_rc_simulate) ∈ gw := in_4 (List.mem_of_getElem? (i := 158) rfl) rfl
theorem k_879 : (Cond.selects "RetryChains" y_rc_simulate y_rc_simulate) ∈ gw := in_4 (List.mem_of_getElem? (i := 159) rfl) rfl
theorem k_899 : (Cond.methodLink "RetryChainsLaw" (183 : Nat) y_rc_forecast) ∈ gw := in_4 (List.mem_of_getElem? (i := 179) rfl) rfl
theorem k_900 : (Cond.instanceMethod y_rc_forecast) ∈ gw := in_4 (List.mem_of_getElem? (i := 180) rfl) rfl
theorem k_901 : (Cond.selects "RetryChains" y_rc_forecast y_rc_forecast) ∈ gw := in_4 (List.mem_of_getElem? (i := 181) rfl) rfl
theorem k_904 : (Cond.methodLink "RetryChainsLaw" (187 : Nat) y_rc_oracle) ∈ gw := in_4 (List.mem_of_getElem? (i := 184) rfl) rfl
theorem k_905 : (Cond.instanceMethod y_rc_oracle) ∈ gw := in_4 (List.mem_of_getElem? (i := 185) rfl) rfl
theorem k_906 : (Cond.selects "RetryChains" y_rc_oracle y_rc_oracle) ∈ gw := in_4 (List.mem_of_getElem? (i := 186) rfl) rfl
theorem k_913 : (Cond.methodLink "RetryChainsLaw" (191 : Nat) y_rc_events) ∈ gw := in_4 (List.mem_of_getElem? (i := 193) rfl) rfl
theorem k_917 : (Cond.methodLink "RetryChainsLaw" (195 : Nat) y_rc_eventKind) ∈ gw := in_4 (List.mem_of_getElem? (i := 197) rfl) rfl
theorem k_918 : (Cond.instanceMethod y_rc_eventKind) ∈ gw := in_4 (List.mem_of_getElem? (i := 198) rfl) rfl
theorem k_919 : (Cond.selects "RetryChains" y_rc_eventKind y_rc_eventKind) ∈ gw := in_4 (List.mem_of_getElem? (i := 199) rfl) rfl
theorem k_926 : (Cond.methodLink "RetryChainsLaw" (199 : Nat) y_rc_eventStation) ∈ gw := in_4 (List.mem_of_getElem? (i := 206) rfl) rfl
theorem k_927 : (Cond.instanceMethod y_rc_eventStation) ∈ gw := in_4 (List.mem_of_getElem? (i := 207) rfl) rfl
theorem k_928 : (Cond.selects "RetryChains" y_rc_eventStation y_rc_eventStation) ∈ gw := in_4 (List.mem_of_getElem? (i := 208) rfl) rfl
theorem k_930 : (Cond.methodLink "RetryChainsLaw" (203 : Nat) y_rc_eventRate) ∈ gw := in_4 (List.mem_of_getElem? (i := 210) rfl) rfl
theorem k_931 : (Cond.instanceMethod y_rc_eventRate) ∈ gw := in_4 (List.mem_of_getElem? (i := 211) rfl) rfl
theorem k_932 : (Cond.selects "RetryChains" y_rc_eventRate y_rc_eventRate) ∈ gw := in_4 (List.mem_of_getElem? (i := 212) rfl) rfl
theorem k_934 : (Cond.methodLink "RetryChainsLaw" (207 : Nat) y_rc_eventTime) ∈ gw := in_4 (List.mem_of_getElem? (i := 214) rfl) rfl
theorem k_935 : (Cond.instanceMethod y_rc_eventTime) ∈ gw := in_4 (List.mem_of_getElem? (i := 215) rfl) rfl
theorem k_936 : (Cond.selects "RetryChains" y_rc_eventTime y_rc_eventTime) ∈ gw := in_4 (List.mem_of_getElem? (i := 216) rfl) rfl
theorem k_938 : (Cond.methodLink "RetryChainsLaw" (211 : Nat) y_rc_save) ∈ gw := in_4 (List.mem_of_getElem? (i := 218) rfl) rfl
theorem k_939 : (Cond.instanceMethod y_rc_save) ∈ gw := in_4 (List.mem_of_getElem? (i := 219) rfl) rfl
theorem k_940 : (Cond.selects "RetryChains" y_rc_save y_rc_save) ∈ gw := in_4 (List.mem_of_getElem? (i := 220) rfl) rfl
theorem k_942 : (Cond.methodLink "RetryChainsLaw" (215 : Nat) y_rc_restore) ∈ gw := in_4 (List.mem_of_getElem? (i := 222) rfl) rfl
theorem k_943 : (Cond.instanceMethod y_rc_restore) ∈ gw := in_4 (List.mem_of_getElem? (i := 223) rfl) rfl
theorem k_944 : (Cond.selects "RetryChains" y_rc_restore y_rc_restore) ∈ gw := in_4 (List.mem_of_getElem? (i := 224) rfl) rfl
theorem k_946 : (Cond.methodLink "RetryChainsLaw" (219 : Nat) y_rc_undo) ∈ gw := in_4 (List.mem_of_getElem? (i := 226) rfl) rfl
theorem k_947 : (Cond.instanceMethod y_rc_undo) ∈ gw := in_4 (List.mem_of_getElem? (i := 227) rfl) rfl
theorem k_948 : (Cond.selects "RetryChains" y_rc_undo y_rc_undo) ∈ gw := in_4 (List.mem_of_getElem? (i := 228) rfl) rfl
theorem k_955 : (Cond.methodLink "RetryChainsLaw" (223 : Nat) y_rc_digest) ∈ gw := in_4 (List.mem_of_getElem? (i := 235) rfl) rfl
theorem k_956 : (Cond.instanceMethod y_rc_digest) ∈ gw := in_4 (List.mem_of_getElem? (i := 236) rfl) rfl
theorem k_957 : (Cond.selects "RetryChains" y_rc_digest y_rc_digest) ∈ gw := in_4 (List.mem_of_getElem? (i := 237) rfl) rfl
theorem k_1011 : (Cond.methodLink "RetryChainsLaw" (17 : Nat) y_m_addRate) ∈ gw := in_5 (List.mem_of_getElem? (i := 51) rfl) rfl
theorem k_1012 : (Cond.instanceMethod y_m_addRate) ∈ gw := in_5 (List.mem_of_getElem? (i := 52) rfl) rfl
theorem k_1013 : (Cond.selects "RetryChainsModel" y_m_addRate y_m_addRate) ∈ gw := in_5 (List.mem_of_getElem? (i := 53) rfl) rfl
theorem k_1077 : (Cond.methodLink "RetryChainsLaw" (22 : Nat) y_m_addStation) ∈ gw := in_5 (List.mem_of_getElem? (i := 117) rfl) rfl
theorem k_1078 : (Cond.instanceMethod y_m_addStation) ∈ gw := in_5 (List.mem_of_getElem? (i := 118) rfl) rfl
theorem k_1079 : (Cond.selects "RetryChainsModel" y_m_addStation y_m_addStation) ∈ gw := in_5 (List.mem_of_getElem? (i := 119) rfl) rfl
theorem k_1086 : (Cond.methodLink "RetryChainsLaw" (27 : Nat) y_m_allow) ∈ gw := in_5 (List.mem_of_getElem? (i := 126) rfl) rfl
theorem k_1087 : (Cond.instanceMethod y_m_allow) ∈ gw := in_5 (List.mem_of_getElem? (i := 127) rfl) rfl
theorem k_1088 : (Cond.selects "RetryChainsModel" y_m_allow y_m_allow) ∈ gw := in_5 (List.mem_of_getElem? (i := 128) rfl) rfl
theorem k_1102 : (Cond.methodLink "RetryChainsLaw" (32 : Nat) y_m_setShare) ∈ gw := in_5 (List.mem_of_getElem? (i := 142) rfl) rfl
theorem k_1103 : (Cond.instanceMethod y_m_setShare) ∈ gw := in_5 (List.mem_of_getElem? (i := 143) rfl) rfl
theorem k_1104 : (Cond.selects "RetryChainsModel" y_m_setShare y_m_setShare) ∈ gw := in_5 (List.mem_of_getElem? (i := 144) rfl) rfl
theorem k_1110 : (Cond.methodLink "RetryChainsLaw" (36 : Nat) y_m_setWeight) ∈ gw := in_5 (List.mem_of_getElem? (i := 150) rfl) rfl
theorem k_1111 : (Cond.instanceMethod y_m_setWeight) ∈ gw := in_5 (List.mem_of_getElem? (i := 151) rfl) rfl
theorem k_1112 : (Cond.selects "RetryChainsModel" y_m_setWeight y_m_setWeight) ∈ gw := in_5 (List.mem_of_getElem? (i := 152) rfl) rfl
theorem k_1114 : (Cond.methodLink "RetryChainsLaw" (40 : Nat) y_m_setInterval) ∈ gw := in_5 (List.mem_of_getElem? (i := 154) rfl) rfl
theorem k_1115 : (Cond.instanceMethod y_m_setInterval) ∈ gw := in_5 (List.mem_of_getElem? (i := 155) rfl) rfl
theorem k_1116 : (Cond.selects "RetryChainsModel" y_m_setInterval y_m_setInterval) ∈ gw := in_5 (List.mem_of_getElem? (i := 156) rfl) rfl
theorem k_1119 : (Cond.methodLink "RetryChainsLaw" (44 : Nat) y_m_setBudget) ∈ gw := in_5 (List.mem_of_getElem? (i := 159) rfl) rfl
theorem k_1120 : (Cond.instanceMethod y_m_setBudget) ∈ gw := in_5 (List.mem_of_getElem? (i := 160) rfl) rfl
theorem k_1121 : (Cond.selects "RetryChainsModel" y_m_setBudget y_m_setBudget) ∈ gw := in_5 (List.mem_of_getElem? (i := 161) rfl) rfl
theorem k_1123 : (Cond.methodLink "RetryChainsLaw" (48 : Nat) y_m_lay) ∈ gw := in_5 (List.mem_of_getElem? (i := 163) rfl) rfl
theorem k_1124 : (Cond.instanceMethod y_m_lay) ∈ gw := in_5 (List.mem_of_getElem? (i := 164) rfl) rfl
theorem k_1125 : (Cond.selects "RetryChainsModel" y_m_lay y_m_lay) ∈ gw := in_5 (List.mem_of_getElem? (i := 165) rfl) rfl
theorem k_1190 : (Cond.methodLink "RetryChainsLaw" (52 : Nat) y_m_enqueue) ∈ gw := in_5 (List.mem_of_getElem? (i := 230) rfl) rfl
theorem k_1191 : (Cond.instanceMethod y_m_enqueue) ∈ gw := in_5 (List.mem_of_getElem? (i := 231) rfl) rfl
theorem k_1192 : (Cond.selects "RetryChainsModel" y_m_enqueue y_m_enqueue) ∈ gw := in_5 (List.mem_of_getElem? (i := 232) rfl) rfl
theorem k_1194 : (Cond.methodLink "RetryChainsLaw" (56 : Nat) y_m_dispatch) ∈ gw := in_5 (List.mem_of_getElem? (i := 234) rfl) rfl
theorem k_1195 : (Cond.instanceMethod y_m_dispatch) ∈ gw := in_5 (List.mem_of_getElem? (i := 235) rfl) rfl
theorem k_1196 : (Cond.selects "RetryChainsModel" y_m_dispatch y_m_dispatch) ∈ gw := in_5 (List.mem_of_getElem? (i := 236) rfl) rfl
theorem k_1210 : (Cond.methodLink "RetryChainsLaw" (60 : Nat) y_m_report) ∈ gw := in_6 (List.mem_of_getElem? (i := 10) rfl) rfl
theorem k_1211 : (Cond.instanceMethod y_m_report) ∈ gw := in_6 (List.mem_of_getElem? (i := 11) rfl) rfl
theorem k_1212 : (Cond.selects "RetryChainsModel" y_m_report y_m_report) ∈ gw := in_6 (List.mem_of_getElem? (i := 12) rfl) rfl
theorem k_1288 : (Cond.methodLink "RetryChainsLaw" (64 : Nat) y_m_pass) ∈ gw := in_6 (List.mem_of_getElem? (i := 88) rfl) rfl
theorem k_1289 : (Cond.instanceMethod y_m_pass) ∈ gw := in_6 (List.mem_of_getElem? (i := 89) rfl) rfl
theorem k_1290 : (Cond.selects "RetryChainsModel" y_m_pass y_m_pass) ∈ gw := in_6 (List.mem_of_getElem? (i := 90) rfl) rfl
theorem k_1292 : (Cond.methodLink "RetryChainsLaw" (68 : Nat) y_m_update) ∈ gw := in_6 (List.mem_of_getElem? (i := 92) rfl) rfl
theorem k_1293 : (Cond.instanceMethod y_m_update) ∈ gw := in_6 (List.mem_of_getElem? (i := 93) rfl) rfl
theorem k_1294 : (Cond.selects "RetryChainsModel" y_m_update y_m_update) ∈ gw := in_6 (List.mem_of_getElem? (i := 94) rfl) rfl
theorem k_1296 : (Cond.methodLink "RetryChainsLaw" (72 : Nat) y_m_kind) ∈ gw := in_6 (List.mem_of_getElem? (i := 96) rfl) rfl
theorem k_1300 : (Cond.methodLink "RetryChainsLaw" (76 : Nat) y_m_stationOf) ∈ gw := in_6 (List.mem_of_getElem? (i := 100) rfl) rfl
theorem k_1301 : (Cond.instanceMethod y_m_stationOf) ∈ gw := in_6 (List.mem_of_getElem? (i := 101) rfl) rfl
theorem k_1302 : (Cond.selects "RetryChainsModel" y_m_stationOf y_m_stationOf) ∈ gw := in_6 (List.mem_of_getElem? (i := 102) rfl) rfl
theorem k_1304 : (Cond.methodLink "RetryChainsLaw" (80 : Nat) y_m_entryRate) ∈ gw := in_6 (List.mem_of_getElem? (i := 104) rfl) rfl
theorem k_1305 : (Cond.instanceMethod y_m_entryRate) ∈ gw := in_6 (List.mem_of_getElem? (i := 105) rfl) rfl
theorem k_1306 : (Cond.selects "RetryChainsModel" y_m_entryRate y_m_entryRate) ∈ gw := in_6 (List.mem_of_getElem? (i := 106) rfl) rfl
theorem k_1308 : (Cond.methodLink "RetryChainsLaw" (84 : Nat) y_m_entryTries) ∈ gw := in_6 (List.mem_of_getElem? (i := 108) rfl) rfl
theorem k_1309 : (Cond.instanceMethod y_m_entryTries) ∈ gw := in_6 (List.mem_of_getElem? (i := 109) rfl) rfl
theorem k_1310 : (Cond.selects "RetryChainsModel" y_m_entryTries y_m_entryTries) ∈ gw := in_6 (List.mem_of_getElem? (i := 110) rfl) rfl
theorem k_1312 : (Cond.methodLink "RetryChainsLaw" (88 : Nat) y_m_tag) ∈ gw := in_6 (List.mem_of_getElem? (i := 112) rfl) rfl
theorem k_1313 : (Cond.instanceMethod y_m_tag) ∈ gw := in_6 (List.mem_of_getElem? (i := 113) rfl) rfl
theorem k_1314 : (Cond.selects "RetryChainsModel" y_m_tag y_m_tag) ∈ gw := in_6 (List.mem_of_getElem? (i := 114) rfl) rfl
theorem k_1316 : (Cond.methodLink "RetryChainsLaw" (92 : Nat) y_m_deliveryChance) ∈ gw := in_6 (List.mem_of_getElem? (i := 116) rfl) rfl
theorem k_1317 : (Cond.instanceMethod y_m_deliveryChance) ∈ gw := in_6 (List.mem_of_getElem? (i := 117) rfl) rfl
theorem k_1318 : (Cond.selects "RetryChainsModel" y_m_deliveryChance y_m_deliveryChance) ∈ gw := in_6 (List.mem_of_getElem? (i := 118) rfl) rfl
theorem k_1321 : (Cond.methodLink "RetryChainsLaw" (96 : Nat) y_m_expectedTime) ∈ gw := in_6 (List.mem_of_getElem? (i := 121) rfl) rfl
theorem k_1322 : (Cond.instanceMethod y_m_expectedTime) ∈ gw := in_6 (List.mem_of_getElem? (i := 122) rfl) rfl
theorem k_1323 : (Cond.selects "RetryChainsModel" y_m_expectedTime y_m_expectedTime) ∈ gw := in_6 (List.mem_of_getElem? (i := 123) rfl) rfl
theorem k_1325 : (Cond.methodLink "RetryChainsLaw" (100 : Nat) y_m_estimate) ∈ gw := in_6 (List.mem_of_getElem? (i := 125) rfl) rfl
theorem k_1329 : (Cond.methodLink "RetryChainsLaw" (104 : Nat) y_m_triesOf) ∈ gw := in_6 (List.mem_of_getElem? (i := 129) rfl) rfl
theorem k_1330 : (Cond.instanceMethod y_m_triesOf) ∈ gw := in_6 (List.mem_of_getElem? (i := 130) rfl) rfl
theorem k_1331 : (Cond.selects "RetryChainsModel" y_m_triesOf y_m_triesOf) ∈ gw := in_6 (List.mem_of_getElem? (i := 131) rfl) rfl
theorem k_1333 : (Cond.methodLink "RetryChainsLaw" (108 : Nat) y_m_successesOf) ∈ gw := in_6 (List.mem_of_getElem? (i := 133) rfl) rfl
theorem k_1334 : (Cond.instanceMethod y_m_successesOf) ∈ gw := in_6 (List.mem_of_getElem? (i := 134) rfl) rfl
theorem k_1335 : (Cond.selects "RetryChainsModel" y_m_successesOf y_m_successesOf) ∈ gw := in_6 (List.mem_of_getElem? (i := 135) rfl) rfl
theorem k_1337 : (Cond.methodLink "RetryChainsLaw" (112 : Nat) y_m_airTime) ∈ gw := in_6 (List.mem_of_getElem? (i := 137) rfl) rfl
theorem k_1338 : (Cond.instanceMethod y_m_airTime) ∈ gw := in_6 (List.mem_of_getElem? (i := 138) rfl) rfl
theorem k_1339 : (Cond.selects "RetryChainsModel" y_m_airTime y_m_airTime) ∈ gw := in_6 (List.mem_of_getElem? (i := 139) rfl) rfl
theorem k_1342 : (Cond.methodLink "RetryChainsLaw" (117 : Nat) y_m_throughput) ∈ gw := in_6 (List.mem_of_getElem? (i := 142) rfl) rfl
theorem k_1343 : (Cond.instanceMethod y_m_throughput) ∈ gw := in_6 (List.mem_of_getElem? (i := 143) rfl) rfl
theorem k_1344 : (Cond.selects "RetryChainsModel" y_m_throughput y_m_throughput) ∈ gw := in_6 (List.mem_of_getElem? (i := 144) rfl) rfl
theorem k_1347 : (Cond.methodLink "RetryChainsLaw" (121 : Nat) y_m_role) ∈ gw := in_6 (List.mem_of_getElem? (i := 147) rfl) rfl
theorem k_1348 : (Cond.instanceMethod y_m_role) ∈ gw := in_6 (List.mem_of_getElem? (i := 148) rfl) rfl
theorem k_1349 : (Cond.selects "RetryChainsModel" y_m_role y_m_role) ∈ gw := in_6 (List.mem_of_getElem? (i := 149) rfl) rfl
theorem k_1351 : (Cond.methodLink "RetryChainsLaw" (125 : Nat) y_m_refusal) ∈ gw := in_6 (List.mem_of_getElem? (i := 151) rfl) rfl
theorem k_1352 : (Cond.instanceMethod y_m_refusal) ∈ gw := in_6 (List.mem_of_getElem? (i := 152) rfl) rfl
theorem k_1353 : (Cond.selects "RetryChainsModel" y_m_refusal y_m_refusal) ∈ gw := in_6 (List.mem_of_getElem? (i := 153) rfl) rfl
theorem k_1355 : (Cond.methodLink "RetryChainsLaw" (129 : Nat) y_m_rateOfMode) ∈ gw := in_6 (List.mem_of_getElem? (i := 155) rfl) rfl
theorem k_1356 : (Cond.instanceMethod y_m_rateOfMode) ∈ gw := in_6 (List.mem_of_getElem? (i := 156) rfl) rfl
theorem k_1357 : (Cond.selects "RetryChainsModel" y_m_rateOfMode y_m_rateOfMode) ∈ gw := in_6 (List.mem_of_getElem? (i := 157) rfl) rfl
theorem k_1367 : (Cond.methodLink "RetryChainsLaw" (133 : Nat) y_m_bestOfMode) ∈ gw := in_6 (List.mem_of_getElem? (i := 167) rfl) rfl
theorem k_1368 : (Cond.instanceMethod y_m_bestOfMode) ∈ gw := in_6 (List.mem_of_getElem? (i := 168) rfl) rfl
theorem k_1369 : (Cond.selects "RetryChainsModel" y_m_bestOfMode y_m_bestOfMode) ∈ gw := in_6 (List.mem_of_getElem? (i := 169) rfl) rfl
theorem k_1371 : (Cond.methodLink "RetryChainsLaw" (137 : Nat) y_m_mostUsed) ∈ gw := in_6 (List.mem_of_getElem? (i := 171) rfl) rfl
theorem k_1372 : (Cond.instanceMethod y_m_mostUsed) ∈ gw := in_6 (List.mem_of_getElem? (i := 172) rfl) rfl
theorem k_1373 : (Cond.selects "RetryChainsModel" y_m_mostUsed y_m_mostUsed) ∈ gw := in_6 (List.mem_of_getElem? (i := 173) rfl) rfl
theorem k_1375 : (Cond.methodLink "RetryChainsLaw" (141 : Nat) y_m_bestChain) ∈ gw := in_6 (List.mem_of_getElem? (i := 175) rfl) rfl
theorem k_1376 : (Cond.instanceMethod y_m_bestChain) ∈ gw := in_6 (List.mem_of_getElem? (i := 176) rfl) rfl
theorem k_1377 : (Cond.selects "RetryChainsModel" y_m_bestChain y_m_bestChain) ∈ gw := in_6 (List.mem_of_getElem? (i := 177) rfl) rfl
theorem k_1387 : (Cond.methodLink "RetryChainsLaw" (145 : Nat) y_m_chains) ∈ gw := in_6 (List.mem_of_getElem? (i := 187) rfl) rfl
theorem k_1388 : (Cond.instanceMethod y_m_chains) ∈ gw := in_6 (List.mem_of_getElem? (i := 188) rfl) rfl
theorem k_1389 : (Cond.selects "RetryChainsModel" y_m_chains y_m_chains) ∈ gw := in_6 (List.mem_of_getElem? (i := 189) rfl) rfl
theorem k_1395 : (Cond.methodLink "RetryChainsLaw" (149 : Nat) y_m_sampled) ∈ gw := in_6 (List.mem_of_getElem? (i := 195) rfl) rfl
theorem k_1396 : (Cond.instanceMethod y_m_sampled) ∈ gw := in_6 (List.mem_of_getElem? (i := 196) rfl) rfl
theorem k_1397 : (Cond.selects "RetryChainsModel" y_m_sampled y_m_sampled) ∈ gw := in_6 (List.mem_of_getElem? (i := 197) rfl) rfl
theorem k_1399 : (Cond.methodLink "RetryChainsLaw" (153 : Nat) y_m_delivered) ∈ gw := in_6 (List.mem_of_getElem? (i := 199) rfl) rfl
theorem k_1400 : (Cond.instanceMethod y_m_delivered) ∈ gw := in_6 (List.mem_of_getElem? (i := 200) rfl) rfl
theorem k_1401 : (Cond.selects "RetryChainsModel" y_m_delivered y_m_delivered) ∈ gw := in_6 (List.mem_of_getElem? (i := 201) rfl) rfl
theorem k_1403 : (Cond.methodLink "RetryChainsLaw" (157 : Nat) y_m_lost) ∈ gw := in_6 (List.mem_of_getElem? (i := 203) rfl) rfl
theorem k_1404 : (Cond.instanceMethod y_m_lost) ∈ gw := in_6 (List.mem_of_getElem? (i := 204) rfl) rfl
theorem k_1405 : (Cond.selects "RetryChainsModel" y_m_lost y_m_lost) ∈ gw := in_6 (List.mem_of_getElem? (i := 205) rfl) rfl
theorem k_1407 : (Cond.methodLink "RetryChainsLaw" (161 : Nat) y_m_queued) ∈ gw := in_6 (List.mem_of_getElem? (i := 207) rfl) rfl
theorem k_1408 : (Cond.instanceMethod y_m_queued) ∈ gw := in_6 (List.mem_of_getElem? (i := 208) rfl) rfl
theorem k_1409 : (Cond.selects "RetryChainsModel" y_m_queued y_m_queued) ∈ gw := in_6 (List.mem_of_getElem? (i := 209) rfl) rfl
theorem k_1411 : (Cond.methodLink "RetryChainsLaw" (165 : Nat) y_m_deficit) ∈ gw := in_6 (List.mem_of_getElem? (i := 211) rfl) rfl
theorem k_1412 : (Cond.instanceMethod y_m_deficit) ∈ gw := in_6 (List.mem_of_getElem? (i := 212) rfl) rfl
theorem k_1413 : (Cond.selects "RetryChainsModel" y_m_deficit y_m_deficit) ∈ gw := in_6 (List.mem_of_getElem? (i := 213) rfl) rfl
theorem k_1416 : (Cond.methodLink "RetryChainsLaw" (169 : Nat) y_m_inFallback) ∈ gw := in_6 (List.mem_of_getElem? (i := 216) rfl) rfl
theorem k_1417 : (Cond.instanceMethod y_m_inFallback) ∈ gw := in_6 (List.mem_of_getElem? (i := 217) rfl) rfl
theorem k_1418 : (Cond.selects "RetryChainsModel" y_m_inFallback y_m_inFallback) ∈ gw := in_6 (List.mem_of_getElem? (i := 218) rfl) rfl
theorem k_1420 : (Cond.methodLink "RetryChainsLaw" (173 : Nat) y_m_time) ∈ gw := in_6 (List.mem_of_getElem? (i := 220) rfl) rfl
theorem k_1421 : (Cond.instanceMethod y_m_time) ∈ gw := in_6 (List.mem_of_getElem? (i := 221) rfl) rfl
theorem k_1422 : (Cond.selects "RetryChainsModel" y_m_time y_m_time) ∈ gw := in_6 (List.mem_of_getElem? (i := 222) rfl) rfl
theorem k_1424 : (Cond.methodLink "RetryChainsLaw" (177 : Nat) y_m_setQuality) ∈ gw := in_6 (List.mem_of_getElem? (i := 224) rfl) rfl
theorem k_1425 : (Cond.instanceMethod y_m_setQuality) ∈ gw := in_6 (List.mem_of_getElem? (i := 225) rfl) rfl
theorem k_1426 : (Cond.selects "RetryChainsModel" y_m_setQuality y_m_setQuality) ∈ gw := in_6 (List.mem_of_getElem? (i := 226) rfl) rfl
theorem k_1428 : (Cond.methodLink "RetryChainsLaw" (182 : Nat) y_m_simulate) ∈ gw := in_6 (List.mem_of_getElem? (i := 228) rfl) rfl
theorem k_1429 : (Cond.instanceMethod y_m_simulate) ∈ gw := in_6 (List.mem_of_getElem? (i := 229) rfl) rfl
theorem k_1430 : (Cond.selects "RetryChainsModel" y_m_simulate y_m_simulate) ∈ gw := in_6 (List.mem_of_getElem? (i := 230) rfl) rfl
theorem k_1441 : (Cond.methodLink "RetryChainsLaw" (186 : Nat) y_m_forecast) ∈ gw := in_7 (List.mem_of_getElem? (i := 1) rfl) rfl
theorem k_1442 : (Cond.instanceMethod y_m_forecast) ∈ gw := in_7 (List.mem_of_getElem? (i := 2) rfl) rfl
theorem k_1443 : (Cond.selects "RetryChainsModel" y_m_forecast y_m_forecast) ∈ gw := in_7 (List.mem_of_getElem? (i := 3) rfl) rfl
theorem k_1445 : (Cond.methodLink "RetryChainsLaw" (190 : Nat) y_m_oracle) ∈ gw := in_7 (List.mem_of_getElem? (i := 5) rfl) rfl
theorem k_1446 : (Cond.instanceMethod y_m_oracle) ∈ gw := in_7 (List.mem_of_getElem? (i := 6) rfl) rfl
theorem k_1447 : (Cond.selects "RetryChainsModel" y_m_oracle y_m_oracle) ∈ gw := in_7 (List.mem_of_getElem? (i := 7) rfl) rfl
theorem k_1449 : (Cond.methodLink "RetryChainsLaw" (194 : Nat) y_m_events) ∈ gw := in_7 (List.mem_of_getElem? (i := 9) rfl) rfl
theorem k_1450 : (Cond.instanceMethod y_m_events) ∈ gw := in_7 (List.mem_of_getElem? (i := 10) rfl) rfl
theorem k_1451 : (Cond.selects "RetryChainsModel" y_m_events y_m_events) ∈ gw := in_7 (List.mem_of_getElem? (i := 11) rfl) rfl
theorem k_1453 : (Cond.methodLink "RetryChainsLaw" (198 : Nat) y_m_eventKind) ∈ gw := in_7 (List.mem_of_getElem? (i := 13) rfl) rfl
theorem k_1454 : (Cond.instanceMethod y_m_eventKind) ∈ gw := in_7 (List.mem_of_getElem? (i := 14) rfl) rfl
theorem k_1455 : (Cond.selects "RetryChainsModel" y_m_eventKind y_m_eventKind) ∈ gw := in_7 (List.mem_of_getElem? (i := 15) rfl) rfl
theorem k_1461 : (Cond.methodLink "RetryChainsLaw" (202 : Nat) y_m_eventStation) ∈ gw := in_7 (List.mem_of_getElem? (i := 21) rfl) rfl
theorem k_1462 : (Cond.instanceMethod y_m_eventStation) ∈ gw := in_7 (List.mem_of_getElem? (i := 22) rfl) rfl
theorem k_1463 : (Cond.selects "RetryChainsModel" y_m_eventStation y_m_eventStation) ∈ gw := in_7 (List.mem_of_getElem? (i := 23) rfl) rfl
theorem k_1465 : (Cond.methodLink "RetryChainsLaw" (206 : Nat) y_m_eventRate) ∈ gw := in_7 (List.mem_of_getElem? (i := 25) rfl) rfl
theorem k_1466 : (Cond.instanceMethod y_m_eventRate) ∈ gw := in_7 (List.mem_of_getElem? (i := 26) rfl) rfl
theorem k_1467 : (Cond.selects "RetryChainsModel" y_m_eventRate y_m_eventRate) ∈ gw := in_7 (List.mem_of_getElem? (i := 27) rfl) rfl
theorem k_1469 : (Cond.methodLink "RetryChainsLaw" (210 : Nat) y_m_eventTime) ∈ gw := in_7 (List.mem_of_getElem? (i := 29) rfl) rfl
theorem k_1470 : (Cond.instanceMethod y_m_eventTime) ∈ gw := in_7 (List.mem_of_getElem? (i := 30) rfl) rfl
theorem k_1471 : (Cond.selects "RetryChainsModel" y_m_eventTime y_m_eventTime) ∈ gw := in_7 (List.mem_of_getElem? (i := 31) rfl) rfl
theorem k_1473 : (Cond.methodLink "RetryChainsLaw" (214 : Nat) y_m_save) ∈ gw := in_7 (List.mem_of_getElem? (i := 33) rfl) rfl
theorem k_1474 : (Cond.instanceMethod y_m_save) ∈ gw := in_7 (List.mem_of_getElem? (i := 34) rfl) rfl
theorem k_1475 : (Cond.selects "RetryChainsModel" y_m_save y_m_save) ∈ gw := in_7 (List.mem_of_getElem? (i := 35) rfl) rfl
theorem k_1477 : (Cond.methodLink "RetryChainsLaw" (218 : Nat) y_m_restore) ∈ gw := in_7 (List.mem_of_getElem? (i := 37) rfl) rfl
theorem k_1478 : (Cond.instanceMethod y_m_restore) ∈ gw := in_7 (List.mem_of_getElem? (i := 38) rfl) rfl
theorem k_1479 : (Cond.selects "RetryChainsModel" y_m_restore y_m_restore) ∈ gw := in_7 (List.mem_of_getElem? (i := 39) rfl) rfl
theorem k_1481 : (Cond.methodLink "RetryChainsLaw" (222 : Nat) y_m_undo) ∈ gw := in_7 (List.mem_of_getElem? (i := 41) rfl) rfl
theorem k_1482 : (Cond.instanceMethod y_m_undo) ∈ gw := in_7 (List.mem_of_getElem? (i := 42) rfl) rfl
theorem k_1483 : (Cond.selects "RetryChainsModel" y_m_undo y_m_undo) ∈ gw := in_7 (List.mem_of_getElem? (i := 43) rfl) rfl
theorem k_1485 : (Cond.methodLink "RetryChainsLaw" (227 : Nat) y_m_digest) ∈ gw := in_7 (List.mem_of_getElem? (i := 45) rfl) rfl
theorem k_1486 : (Cond.instanceMethod y_m_digest) ∈ gw := in_7 (List.mem_of_getElem? (i := 46) rfl) rfl
theorem k_1487 : (Cond.selects "RetryChainsModel" y_m_digest y_m_digest) ∈ gw := in_7 (List.mem_of_getElem? (i := 47) rfl) rfl
section LC
variable {X : Cx (Me × Me)} {C N : Me} {w i : Nat} {G : Gt} {b L : Nat} {xs : Nat → Int32}
theorem L_0 (h : Lx X G b L xs) (hi : i + 5 ≤ L) (R : Rl C N w) (hw : w ≤ 3000000) (k : ∀ C2 N2 w2, Rl C2 N2 w2 → w2 ≤ w + 5000 → Wt X (C2, N2) 1725 (LVs G b i) []) : Wt X (C, N) 256 (LVs G b i) [] := by
  obtain ⟨o, C2, N2, e1, e2, R2⟩ := T_addRate R (xs (i + 1)) (xs (i + 2))
  refine r_aload_n rfl h.1 d_law_256 rfl 2 rfl ?_
  refine l_arg 1 rfl h hi (by decide) (by decide +kernel) d_law_257 d_law_258 d_law_259 d_law_260 d_law_261 ?_
  refine l_arg 2 rfl h hi (by decide) (by decide +kernel) d_law_262 d_law_263 d_law_264 d_law_265 d_law_266 ?_
  refine l_callC rfl h.1 h.2.1 mf_rc_addRate k_369 k_370 k_368 (C_rc_addRate e1) ⟨rfl, rfl⟩ (h.rm ⟨Nat.le_of_ble_eq_true rfl, Nat.le_of_ble_eq_true rfl⟩) rfl rfl rv_RC rfl (Nat.le_of_ble_eq_true rfl) d_law_267 ?_
  refine r_aload_n rfl h.1 d_law_270 rfl 1 rfl ?_
  refine l_arg 1 rfl h hi (by decide) (by decide +kernel) d_law_271 d_law_272 d_law_273 d_law_274 d_law_275 ?_
  refine l_arg 2 rfl h hi (by decide) (by decide +kernel) d_law_276 d_law_277 d_law_278 d_law_279 d_law_280 ?_
  refine l_callM rfl h.1 h.2.1 mf_m_addRate k_1012 k_1013 k_1011 (C_m_addRate e2) ⟨rfl, rfl⟩ (h.rm ⟨Nat.le_of_ble_eq_true rfl, Nat.le_of_ble_eq_true rfl⟩) rfl rfl rv_MOD rfl (Nat.le_of_ble_eq_true rfl) d_law_281 ?_
  refine l_ret h d_law_284 rfl ?_
  exact k C2 N2 (w + 5000) R2 (Nat.le_refl _)
theorem L_1 (h : Lx X G b L xs) (hi : i + 5 ≤ L) (R : Rl C N w) (hw : w ≤ 3000000) (k : ∀ C2 N2 w2, Rl C2 N2 w2 → w2 ≤ w + 5000 → Wt X (C2, N2) 1725 (LVs G b i) []) : Wt X (C, N) 289 (LVs G b i) [] := by
  obtain ⟨o, C2, N2, e1, e2, R2⟩ := T_addStation R
  refine r_aload_n rfl h.1 d_law_289 rfl 2 rfl ?_
  refine l_callC rfl h.1 h.2.1 mf_rc_addStation k_453 k_454 k_452 (C_rc_addStation e1) ⟨rfl, rfl⟩ (h.rm ⟨Nat.le_of_ble_eq_true rfl, Nat.le_of_ble_eq_true rfl⟩) rfl rfl rv_RC rfl (Nat.le_of_ble_eq_true rfl) d_law_290 ?_
  refine r_aload_n rfl h.1 d_law_293 rfl 1 rfl ?_
  refine l_callM rfl h.1 h.2.1 mf_m_addStation k_1078 k_1079 k_1077 (C_m_addStation e2) ⟨rfl, rfl⟩ (h.rm ⟨Nat.le_of_ble_eq_true rfl, Nat.le_of_ble_eq_true rfl⟩) rfl rfl rv_MOD rfl (Nat.le_of_ble_eq_true rfl) d_law_294 ?_
  refine l_ret h d_law_297 rfl ?_
  exact k C2 N2 (w + 5000) R2 (Nat.le_refl _)
theorem L_2 (h : Lx X G b L xs) (hi : i + 5 ≤ L) (R : Rl C N w) (hw : w ≤ 3000000) (k : ∀ C2 N2 w2, Rl C2 N2 w2 → w2 ≤ w + 5000 → Wt X (C2, N2) 1725 (LVs G b i) []) : Wt X (C, N) 302 (LVs G b i) [] := by
  by_cases hz : xs (i + 3) = 0
  · obtain ⟨o, C2, N2, e1, e2, R2⟩ := T_allow R (xs (i + 1)) (xs (i + 2)) 0 (by decide)
    refine r_aload_n rfl h.1 d_law_302 rfl 2 rfl ?_
    refine l_arg 1 rfl h hi (by decide) (by decide +kernel) d_law_303 d_law_304 d_law_305 d_law_306 d_law_307 ?_
    refine l_arg 2 rfl h hi (by decide) (by decide +kernel) d_law_308 d_law_309 d_law_310 d_law_311 d_law_312 ?_
    refine l_arg 3 rfl h hi (by decide) (by decide +kernel) d_law_313 d_law_314 d_law_315 d_law_316 d_law_317 ?_
    refine r_if_eq rfl h.1 d_law_318 rfl (fun _ => ?_) (fun hc => absurd hz hc)
    refine r_iconst (v := 0) rfl h.1 d_law_325 (by decide +kernel) ?_
    refine l_callC rfl h.1 h.2.1 mf_rc_allow k_461 k_462 k_460 (C_rc_allow e1) ⟨rfl, rfl⟩ (h.rm ⟨Nat.le_of_ble_eq_true rfl, Nat.le_of_ble_eq_true rfl⟩) rfl rfl rv_RC rfl (Nat.le_of_ble_eq_true rfl) d_law_326 ?_
    refine r_aload_n rfl h.1 d_law_329 rfl 1 rfl ?_
    refine l_arg 1 rfl h hi (by decide) (by decide +kernel) d_law_330 d_law_331 d_law_332 d_law_333 d_law_334 ?_
    refine l_arg 2 rfl h hi (by decide) (by decide +kernel) d_law_335 d_law_336 d_law_337 d_law_338 d_law_339 ?_
    refine l_arg 3 rfl h hi (by decide) (by decide +kernel) d_law_340 d_law_341 d_law_342 d_law_343 d_law_344 ?_
    refine r_if_eq rfl h.1 d_law_345 rfl (fun _ => ?_) (fun hc => absurd hz hc)
    refine r_iconst (v := 0) rfl h.1 d_law_352 (by decide +kernel) ?_
    refine l_callM rfl h.1 h.2.1 mf_m_allow k_1087 k_1088 k_1086 (C_m_allow e2) ⟨rfl, rfl⟩ (h.rm ⟨Nat.le_of_ble_eq_true rfl, Nat.le_of_ble_eq_true rfl⟩) rfl rfl rv_MOD rfl (Nat.le_of_ble_eq_true rfl) d_law_353 ?_
    refine l_ret h d_law_356 rfl ?_
    exact k C2 N2 (w + 5000) R2 (Nat.le_refl _)
  · obtain ⟨o, C2, N2, e1, e2, R2⟩ := T_allow R (xs (i + 1)) (xs (i + 2)) 1 (by decide)
    refine r_aload_n rfl h.1 d_law_302 rfl 2 rfl ?_
    refine l_arg 1 rfl h hi (by decide) (by decide +kernel) d_law_303 d_law_304 d_law_305 d_law_306 d_law_307 ?_
    refine l_arg 2 rfl h hi (by decide) (by decide +kernel) d_law_308 d_law_309 d_law_310 d_law_311 d_law_312 ?_
    refine l_arg 3 rfl h hi (by decide) (by decide +kernel) d_law_313 d_law_314 d_law_315 d_law_316 d_law_317 ?_
    refine r_if_eq rfl h.1 d_law_318 rfl (fun hc => absurd hc hz) (fun _ => ?_)
    refine r_iconst (v := 1) rfl h.1 d_law_321 (by decide +kernel) ?_
    refine r_goto h.1 d_law_322 rfl ?_
    refine l_callC rfl h.1 h.2.1 mf_rc_allow k_461 k_462 k_460 (C_rc_allow e1) ⟨rfl, rfl⟩ (h.rm ⟨Nat.le_of_ble_eq_true rfl, Nat.le_of_ble_eq_true rfl⟩) rfl rfl rv_RC rfl (Nat.le_of_ble_eq_true rfl) d_law_326 ?_
    refine r_aload_n rfl h.1 d_law_329 rfl 1 rfl ?_
    refine l_arg 1 rfl h hi (by decide) (by decide +kernel) d_law_330 d_law_331 d_law_332 d_law_333 d_law_334 ?_
    refine l_arg 2 rfl h hi (by decide) (by decide +kernel) d_law_335 d_law_336 d_law_337 d_law_338 d_law_339 ?_
    refine l_arg 3 rfl h hi (by decide) (by decide +kernel) d_law_340 d_law_341 d_law_342 d_law_343 d_law_344 ?_
    refine r_if_eq rfl h.1 d_law_345 rfl (fun hc => absurd hc hz) (fun _ => ?_)
    refine r_iconst (v := 1) rfl h.1 d_law_348 (by decide +kernel) ?_
    refine r_goto h.1 d_law_349 rfl ?_
    refine l_callM rfl h.1 h.2.1 mf_m_allow k_1087 k_1088 k_1086 (C_m_allow e2) ⟨rfl, rfl⟩ (h.rm ⟨Nat.le_of_ble_eq_true rfl, Nat.le_of_ble_eq_true rfl⟩) rfl rfl rv_MOD rfl (Nat.le_of_ble_eq_true rfl) d_law_353 ?_
    refine l_ret h d_law_356 rfl ?_
    exact k C2 N2 (w + 5000) R2 (Nat.le_refl _)
theorem L_3 (h : Lx X G b L xs) (hi : i + 5 ≤ L) (R : Rl C N w) (hw : w ≤ 3000000) (k : ∀ C2 N2 w2, Rl C2 N2 w2 → w2 ≤ w + 5000 → Wt X (C2, N2) 1725 (LVs G b i) []) : Wt X (C, N) 361 (LVs G b i) [] := by
  obtain ⟨o, C2, N2, e1, e2, R2⟩ := T_setShare R (xs (i + 1))
  refine r_aload_n rfl h.1 d_law_361 rfl 2 rfl ?_
  refine l_arg 1 rfl h hi (by decide) (by decide +kernel) d_law_362 d_law_363 d_law_364 d_law_365 d_law_366 ?_
  refine l_callC rfl h.1 h.2.1 mf_rc_setShare k_475 k_476 k_474 (C_rc_setShare e1) ⟨rfl, rfl⟩ (h.rm ⟨Nat.le_of_ble_eq_true rfl, Nat.le_of_ble_eq_true rfl⟩) rfl rfl rv_RC rfl (Nat.le_of_ble_eq_true rfl) d_law_367 ?_
  refine r_aload_n rfl h.1 d_law_370 rfl 1 rfl ?_
  refine l_arg 1 rfl h hi (by decide) (by decide +kernel) d_law_371 d_law_372 d_law_373 d_law_374 d_law_375 ?_
  refine l_callM rfl h.1 h.2.1 mf_m_setShare k_1103 k_1104 k_1102 (C_m_setShare e2) ⟨rfl, rfl⟩ (h.rm ⟨Nat.le_of_ble_eq_true rfl, Nat.le_of_ble_eq_true rfl⟩) rfl rfl rv_MOD rfl (Nat.le_of_ble_eq_true rfl) d_law_376 ?_
  refine l_ret h d_law_379 rfl ?_
  exact k C2 N2 (w + 5000) R2 (Nat.le_refl _)
theorem L_4 (h : Lx X G b L xs) (hi : i + 5 ≤ L) (R : Rl C N w) (hw : w ≤ 3000000) (k : ∀ C2 N2 w2, Rl C2 N2 w2 → w2 ≤ w + 5000 → Wt X (C2, N2) 1725 (LVs G b i) []) : Wt X (C, N) 384 (LVs G b i) [] := by
  obtain ⟨o, C2, N2, e1, e2, R2⟩ := T_setWeight R (xs (i + 1))
  refine r_aload_n rfl h.1 d_law_384 rfl 2 rfl ?_
  refine l_arg 1 rfl h hi (by decide) (by decide +kernel) d_law_385 d_law_386 d_law_387 d_law_388 d_law_389 ?_
  refine l_callC rfl h.1 h.2.1 mf_rc_setWeight k_479 k_480 k_478 (C_rc_setWeight e1) ⟨rfl, rfl⟩ (h.rm ⟨Nat.le_of_ble_eq_true rfl, Nat.le_of_ble_eq_true rfl⟩) rfl rfl rv_RC rfl (Nat.le_of_ble_eq_true rfl) d_law_390 ?_
  refine r_aload_n rfl h.1 d_law_393 rfl 1 rfl ?_
  refine l_arg 1 rfl h hi (by decide) (by decide +kernel) d_law_394 d_law_395 d_law_396 d_law_397 d_law_398 ?_
  refine l_callM rfl h.1 h.2.1 mf_m_setWeight k_1111 k_1112 k_1110 (C_m_setWeight e2) ⟨rfl, rfl⟩ (h.rm ⟨Nat.le_of_ble_eq_true rfl, Nat.le_of_ble_eq_true rfl⟩) rfl rfl rv_MOD rfl (Nat.le_of_ble_eq_true rfl) d_law_399 ?_
  refine l_ret h d_law_402 rfl ?_
  exact k C2 N2 (w + 5000) R2 (Nat.le_refl _)
theorem L_5 (h : Lx X G b L xs) (hi : i + 5 ≤ L) (R : Rl C N w) (hw : w ≤ 3000000) (k : ∀ C2 N2 w2, Rl C2 N2 w2 → w2 ≤ w + 5000 → Wt X (C2, N2) 1725 (LVs G b i) []) : Wt X (C, N) 407 (LVs G b i) [] := by
  obtain ⟨o, C2, N2, e1, e2, R2⟩ := T_setInterval R (xs (i + 1))
  refine r_aload_n rfl h.1 d_law_407 rfl 2 rfl ?_
  refine l_arg 1 rfl h hi (by decide) (by decide +kernel) d_law_408 d_law_409 d_law_410 d_law_411 d_law_412 ?_
  refine l_callC rfl h.1 h.2.1 mf_rc_setInterval k_483 k_484 k_482 (C_rc_setInterval e1) ⟨rfl, rfl⟩ (h.rm ⟨Nat.le_of_ble_eq_true rfl, Nat.le_of_ble_eq_true rfl⟩) rfl rfl rv_RC rfl (Nat.le_of_ble_eq_true rfl) d_law_413 ?_
  refine r_aload_n rfl h.1 d_law_416 rfl 1 rfl ?_
  refine l_arg 1 rfl h hi (by decide) (by decide +kernel) d_law_417 d_law_418 d_law_419 d_law_420 d_law_421 ?_
  refine l_callM rfl h.1 h.2.1 mf_m_setInterval k_1115 k_1116 k_1114 (C_m_setInterval e2) ⟨rfl, rfl⟩ (h.rm ⟨Nat.le_of_ble_eq_true rfl, Nat.le_of_ble_eq_true rfl⟩) rfl rfl rv_MOD rfl (Nat.le_of_ble_eq_true rfl) d_law_422 ?_
  refine l_ret h d_law_425 rfl ?_
  exact k C2 N2 (w + 5000) R2 (Nat.le_refl _)
theorem L_6 (h : Lx X G b L xs) (hi : i + 5 ≤ L) (R : Rl C N w) (hw : w ≤ 3000000) (k : ∀ C2 N2 w2, Rl C2 N2 w2 → w2 ≤ w + 5000 → Wt X (C2, N2) 1725 (LVs G b i) []) : Wt X (C, N) 430 (LVs G b i) [] := by
  obtain ⟨o, C2, N2, e1, e2, R2⟩ := T_setBudget R (xs (i + 1))
  refine r_aload_n rfl h.1 d_law_430 rfl 2 rfl ?_
  refine l_arg 1 rfl h hi (by decide) (by decide +kernel) d_law_431 d_law_432 d_law_433 d_law_434 d_law_435 ?_
  refine l_callC rfl h.1 h.2.1 mf_rc_setBudget k_488 k_489 k_487 (C_rc_setBudget e1) ⟨rfl, rfl⟩ (h.rm ⟨Nat.le_of_ble_eq_true rfl, Nat.le_of_ble_eq_true rfl⟩) rfl rfl rv_RC rfl (Nat.le_of_ble_eq_true rfl) d_law_436 ?_
  refine r_aload_n rfl h.1 d_law_439 rfl 1 rfl ?_
  refine l_arg 1 rfl h hi (by decide) (by decide +kernel) d_law_440 d_law_441 d_law_442 d_law_443 d_law_444 ?_
  refine l_callM rfl h.1 h.2.1 mf_m_setBudget k_1120 k_1121 k_1119 (C_m_setBudget e2) ⟨rfl, rfl⟩ (h.rm ⟨Nat.le_of_ble_eq_true rfl, Nat.le_of_ble_eq_true rfl⟩) rfl rfl rv_MOD rfl (Nat.le_of_ble_eq_true rfl) d_law_445 ?_
  refine l_ret h d_law_448 rfl ?_
  exact k C2 N2 (w + 5000) R2 (Nat.le_refl _)
theorem L_7 (h : Lx X G b L xs) (hi : i + 5 ≤ L) (R : Rl C N w) (hw : w ≤ 3000000) (k : ∀ C2 N2 w2, Rl C2 N2 w2 → w2 ≤ w + 5000 → Wt X (C2, N2) 1725 (LVs G b i) []) : Wt X (C, N) 453 (LVs G b i) [] := by
  obtain ⟨o, C2, N2, e1, e2, R2⟩ := T_lay R (xs (i + 1)) (xs (i + 2))
  refine r_aload_n rfl h.1 d_law_453 rfl 2 rfl ?_
  refine l_arg 1 rfl h hi (by decide) (by decide +kernel) d_law_454 d_law_455 d_law_456 d_law_457 d_law_458 ?_
  refine l_arg 2 rfl h hi (by decide) (by decide +kernel) d_law_459 d_law_460 d_law_461 d_law_462 d_law_463 ?_
  refine l_callC rfl h.1 h.2.1 mf_rc_lay k_493 k_494 k_492 (C_rc_lay e1) ⟨rfl, rfl⟩ (h.rm ⟨Nat.le_of_ble_eq_true rfl, Nat.le_of_ble_eq_true rfl⟩) rfl rfl rv_RC rfl (Nat.le_of_ble_eq_true rfl) d_law_464 ?_
  refine r_aload_n rfl h.1 d_law_467 rfl 1 rfl ?_
  refine l_arg 1 rfl h hi (by decide) (by decide +kernel) d_law_468 d_law_469 d_law_470 d_law_471 d_law_472 ?_
  refine l_arg 2 rfl h hi (by decide) (by decide +kernel) d_law_473 d_law_474 d_law_475 d_law_476 d_law_477 ?_
  refine l_callM rfl h.1 h.2.1 mf_m_lay k_1124 k_1125 k_1123 (C_m_lay e2) ⟨rfl, rfl⟩ (h.rm ⟨Nat.le_of_ble_eq_true rfl, Nat.le_of_ble_eq_true rfl⟩) rfl rfl rv_MOD rfl (Nat.le_of_ble_eq_true rfl) d_law_478 ?_
  refine l_ret h d_law_481 rfl ?_
  exact k C2 N2 (w + 5000) R2 (Nat.le_refl _)
theorem L_8 (h : Lx X G b L xs) (hi : i + 5 ≤ L) (R : Rl C N w) (hw : w ≤ 3000000) (k : ∀ C2 N2 w2, Rl C2 N2 w2 → w2 ≤ w + 5000 → Wt X (C2, N2) 1725 (LVs G b i) []) : Wt X (C, N) 486 (LVs G b i) [] := by
  obtain ⟨o, C2, N2, e1, e2, R2⟩ := T_enqueue R (xs (i + 1)) (xs (i + 2))
  refine r_aload_n rfl h.1 d_law_486 rfl 2 rfl ?_
  refine l_arg 1 rfl h hi (by decide) (by decide +kernel) d_law_487 d_law_488 d_law_489 d_law_490 d_law_491 ?_
  refine l_arg 2 rfl h hi (by decide) (by decide +kernel) d_law_492 d_law_493 d_law_494 d_law_495 d_law_496 ?_
  refine l_callC rfl h.1 h.2.1 mf_rc_enqueue k_557 k_558 k_556 (C_rc_enqueue e1) ⟨rfl, rfl⟩ (h.rm ⟨Nat.le_of_ble_eq_true rfl, Nat.le_of_ble_eq_true rfl⟩) rfl rfl rv_RC rfl (Nat.le_of_ble_eq_true rfl) d_law_497 ?_
  refine r_aload_n rfl h.1 d_law_500 rfl 1 rfl ?_
  refine l_arg 1 rfl h hi (by decide) (by decide +kernel) d_law_501 d_law_502 d_law_503 d_law_504 d_law_505 ?_
  refine l_arg 2 rfl h hi (by decide) (by decide +kernel) d_law_506 d_law_507 d_law_508 d_law_509 d_law_510 ?_
  refine l_callM rfl h.1 h.2.1 mf_m_enqueue k_1191 k_1192 k_1190 (C_m_enqueue e2) ⟨rfl, rfl⟩ (h.rm ⟨Nat.le_of_ble_eq_true rfl, Nat.le_of_ble_eq_true rfl⟩) rfl rfl rv_MOD rfl (Nat.le_of_ble_eq_true rfl) d_law_511 ?_
  refine l_ret h d_law_514 rfl ?_
  exact k C2 N2 (w + 5000) R2 (Nat.le_refl _)
theorem L_9 (h : Lx X G b L xs) (hi : i + 5 ≤ L) (R : Rl C N w) (hw : w ≤ 3000000) (k : ∀ C2 N2 w2, Rl C2 N2 w2 → w2 ≤ w + 5000 → Wt X (C2, N2) 1725 (LVs G b i) []) : Wt X (C, N) 519 (LVs G b i) [] := by
  obtain ⟨o, C2, N2, e1, e2, R2⟩ := T_dispatch R
  refine r_aload_n rfl h.1 d_law_519 rfl 2 rfl ?_
  refine l_callC rfl h.1 h.2.1 mf_rc_dispatch k_565 k_566 k_564 (C_rc_dispatch e1) ⟨rfl, rfl⟩ (h.rm ⟨Nat.le_of_ble_eq_true rfl, Nat.le_of_ble_eq_true rfl⟩) rfl rfl rv_RC rfl (Nat.le_of_ble_eq_true rfl) d_law_520 ?_
  refine r_aload_n rfl h.1 d_law_523 rfl 1 rfl ?_
  refine l_callM rfl h.1 h.2.1 mf_m_dispatch k_1195 k_1196 k_1194 (C_m_dispatch e2) ⟨rfl, rfl⟩ (h.rm ⟨Nat.le_of_ble_eq_true rfl, Nat.le_of_ble_eq_true rfl⟩) rfl rfl rv_MOD rfl (Nat.le_of_ble_eq_true rfl) d_law_524 ?_
  refine l_ret h d_law_527 rfl ?_
  exact k C2 N2 (w + 5000) R2 (Nat.le_refl _)
theorem L_10 (h : Lx X G b L xs) (hi : i + 5 ≤ L) (R : Rl C N w) (hw : w ≤ 3000000) (k : ∀ C2 N2 w2, Rl C2 N2 w2 → w2 ≤ w + 5000 → Wt X (C2, N2) 1725 (LVs G b i) []) : Wt X (C, N) 532 (LVs G b i) [] := by
  by_cases hz : xs (i + 3) = 0
  · obtain ⟨o, C2, N2, e1, e2, R2⟩ := T_report R (by omega) (xs (i + 1)) (xs (i + 2)) 0 (by decide)
    refine r_aload_n rfl h.1 d_law_532 rfl 2 rfl ?_
    refine l_arg 1 rfl h hi (by decide) (by decide +kernel) d_law_533 d_law_534 d_law_535 d_law_536 d_law_537 ?_
    refine l_arg 2 rfl h hi (by decide) (by decide +kernel) d_law_538 d_law_539 d_law_540 d_law_541 d_law_542 ?_
    refine l_arg 3 rfl h hi (by decide) (by decide +kernel) d_law_543 d_law_544 d_law_545 d_law_546 d_law_547 ?_
    refine r_if_eq rfl h.1 d_law_548 rfl (fun _ => ?_) (fun hc => absurd hz hc)
    refine r_iconst (v := 0) rfl h.1 d_law_555 (by decide +kernel) ?_
    refine l_callC rfl h.1 h.2.1 mf_rc_report k_588 k_589 k_587 (C_rc_report e1) ⟨rfl, rfl⟩ (h.rm ⟨Nat.le_of_ble_eq_true rfl, Nat.le_of_ble_eq_true rfl⟩) rfl rfl rv_RC rfl (Nat.le_of_ble_eq_true rfl) d_law_556 ?_
    refine r_aload_n rfl h.1 d_law_559 rfl 1 rfl ?_
    refine l_arg 1 rfl h hi (by decide) (by decide +kernel) d_law_560 d_law_561 d_law_562 d_law_563 d_law_564 ?_
    refine l_arg 2 rfl h hi (by decide) (by decide +kernel) d_law_565 d_law_566 d_law_567 d_law_568 d_law_569 ?_
    refine l_arg 3 rfl h hi (by decide) (by decide +kernel) d_law_570 d_law_571 d_law_572 d_law_573 d_law_574 ?_
    refine r_if_eq rfl h.1 d_law_575 rfl (fun _ => ?_) (fun hc => absurd hz hc)
    refine r_iconst (v := 0) rfl h.1 d_law_582 (by decide +kernel) ?_
    refine l_callM rfl h.1 h.2.1 mf_m_report k_1211 k_1212 k_1210 (C_m_report e2) ⟨rfl, rfl⟩ (h.rm ⟨Nat.le_of_ble_eq_true rfl, Nat.le_of_ble_eq_true rfl⟩) rfl rfl rv_MOD rfl (Nat.le_of_ble_eq_true rfl) d_law_583 ?_
    refine l_ret h d_law_586 rfl ?_
    exact k C2 N2 (w + 5000) R2 (Nat.le_refl _)
  · obtain ⟨o, C2, N2, e1, e2, R2⟩ := T_report R (by omega) (xs (i + 1)) (xs (i + 2)) 1 (by decide)
    refine r_aload_n rfl h.1 d_law_532 rfl 2 rfl ?_
    refine l_arg 1 rfl h hi (by decide) (by decide +kernel) d_law_533 d_law_534 d_law_535 d_law_536 d_law_537 ?_
    refine l_arg 2 rfl h hi (by decide) (by decide +kernel) d_law_538 d_law_539 d_law_540 d_law_541 d_law_542 ?_
    refine l_arg 3 rfl h hi (by decide) (by decide +kernel) d_law_543 d_law_544 d_law_545 d_law_546 d_law_547 ?_
    refine r_if_eq rfl h.1 d_law_548 rfl (fun hc => absurd hc hz) (fun _ => ?_)
    refine r_iconst (v := 1) rfl h.1 d_law_551 (by decide +kernel) ?_
    refine r_goto h.1 d_law_552 rfl ?_
    refine l_callC rfl h.1 h.2.1 mf_rc_report k_588 k_589 k_587 (C_rc_report e1) ⟨rfl, rfl⟩ (h.rm ⟨Nat.le_of_ble_eq_true rfl, Nat.le_of_ble_eq_true rfl⟩) rfl rfl rv_RC rfl (Nat.le_of_ble_eq_true rfl) d_law_556 ?_
    refine r_aload_n rfl h.1 d_law_559 rfl 1 rfl ?_
    refine l_arg 1 rfl h hi (by decide) (by decide +kernel) d_law_560 d_law_561 d_law_562 d_law_563 d_law_564 ?_
    refine l_arg 2 rfl h hi (by decide) (by decide +kernel) d_law_565 d_law_566 d_law_567 d_law_568 d_law_569 ?_
    refine l_arg 3 rfl h hi (by decide) (by decide +kernel) d_law_570 d_law_571 d_law_572 d_law_573 d_law_574 ?_
    refine r_if_eq rfl h.1 d_law_575 rfl (fun hc => absurd hc hz) (fun _ => ?_)
    refine r_iconst (v := 1) rfl h.1 d_law_578 (by decide +kernel) ?_
    refine r_goto h.1 d_law_579 rfl ?_
    refine l_callM rfl h.1 h.2.1 mf_m_report k_1211 k_1212 k_1210 (C_m_report e2) ⟨rfl, rfl⟩ (h.rm ⟨Nat.le_of_ble_eq_true rfl, Nat.le_of_ble_eq_true rfl⟩) rfl rfl rv_MOD rfl (Nat.le_of_ble_eq_true rfl) d_law_583 ?_
    refine l_ret h d_law_586 rfl ?_
    exact k C2 N2 (w + 5000) R2 (Nat.le_refl _)
theorem L_11 (h : Lx X G b L xs) (hi : i + 5 ≤ L) (R : Rl C N w) (hw : w ≤ 3000000) (k : ∀ C2 N2 w2, Rl C2 N2 w2 → w2 ≤ w + 5000 → Wt X (C2, N2) 1725 (LVs G b i) []) : Wt X (C, N) 591 (LVs G b i) [] := by
  obtain ⟨o, C2, N2, e1, e2, R2⟩ := T_pass R (by omega) (xs (i + 1))
  refine r_aload_n rfl h.1 d_law_591 rfl 2 rfl ?_
  refine l_arg 1 rfl h hi (by decide) (by decide +kernel) d_law_592 d_law_593 d_law_594 d_law_595 d_law_596 ?_
  refine l_callC rfl h.1 h.2.1 mf_rc_pass k_689 k_690 k_688 (C_rc_pass e1) ⟨rfl, rfl⟩ (h.rm ⟨Nat.le_of_ble_eq_true rfl, Nat.le_of_ble_eq_true rfl⟩) rfl rfl rv_RC rfl (Nat.le_of_ble_eq_true rfl) d_law_597 ?_
  refine r_aload_n rfl h.1 d_law_600 rfl 1 rfl ?_
  refine l_arg 1 rfl h hi (by decide) (by decide +kernel) d_law_601 d_law_602 d_law_603 d_law_604 d_law_605 ?_
  refine l_callM rfl h.1 h.2.1 mf_m_pass k_1289 k_1290 k_1288 (C_m_pass e2) ⟨rfl, rfl⟩ (h.rm ⟨Nat.le_of_ble_eq_true rfl, Nat.le_of_ble_eq_true rfl⟩) rfl rfl rv_MOD rfl (Nat.le_of_ble_eq_true rfl) d_law_606 ?_
  refine l_ret h d_law_609 rfl ?_
  exact k C2 N2 (w + 5000) R2 (Nat.le_refl _)
theorem L_12 (h : Lx X G b L xs) (hi : i + 5 ≤ L) (R : Rl C N w) (hw : w ≤ 3000000) (k : ∀ C2 N2 w2, Rl C2 N2 w2 → w2 ≤ w + 5000 → Wt X (C2, N2) 1725 (LVs G b i) []) : Wt X (C, N) 614 (LVs G b i) [] := by
  obtain ⟨o, C2, N2, e1, e2, R2⟩ := T_update R (by omega) (xs (i + 1))
  refine r_aload_n rfl h.1 d_law_614 rfl 2 rfl ?_
  refine l_arg 1 rfl h hi (by decide) (by decide +kernel) d_law_615 d_law_616 d_law_617 d_law_618 d_law_619 ?_
  refine l_callC rfl h.1 h.2.1 mf_rc_update k_693 k_694 k_692 (C_rc_update e1) ⟨rfl, rfl⟩ (h.rm ⟨Nat.le_of_ble_eq_true rfl, Nat.le_of_ble_eq_true rfl⟩) rfl rfl rv_RC rfl (Nat.le_of_ble_eq_true rfl) d_law_620 ?_
  refine r_aload_n rfl h.1 d_law_623 rfl 1 rfl ?_
  refine l_arg 1 rfl h hi (by decide) (by decide +kernel) d_law_624 d_law_625 d_law_626 d_law_627 d_law_628 ?_
  refine l_callM rfl h.1 h.2.1 mf_m_update k_1293 k_1294 k_1292 (C_m_update e2) ⟨rfl, rfl⟩ (h.rm ⟨Nat.le_of_ble_eq_true rfl, Nat.le_of_ble_eq_true rfl⟩) rfl rfl rv_MOD rfl (Nat.le_of_ble_eq_true rfl) d_law_629 ?_
  refine l_ret h d_law_632 rfl ?_
  exact k C2 N2 (w + 5000) R2 (Nat.le_refl _)
theorem L_13 (h : Lx X G b L xs) (hi : i + 5 ≤ L) (R : Rl C N w) (hw : w ≤ 3000000) (k : ∀ C2 N2 w2, Rl C2 N2 w2 → w2 ≤ w + 5000 → Wt X (C2, N2) 1725 (LVs G b i) []) : Wt X (C, N) 637 (LVs G b i) [] := by
  obtain ⟨o, e1, e2⟩ := Q_kind R (xs (i + 1))
  refine r_aload_n rfl h.1 d_law_637 rfl 2 rfl ?_
  refine l_arg 1 rfl h hi (by decide) (by decide +kernel) d_law_638 d_law_639 d_law_640 d_law_641 d_law_642 ?_
  refine l_callC rfl h.1 h.2.1 mf_rc_kind k_698 k_699 k_697 (C_rc_kind e1) ⟨rfl, rfl⟩ (h.rm ⟨Nat.le_of_ble_eq_true rfl, Nat.le_of_ble_eq_true rfl⟩) rfl rfl rv_RC rfl (Nat.le_of_ble_eq_true rfl) d_law_643 ?_
  refine r_aload_n rfl h.1 d_law_646 rfl 1 rfl ?_
  refine l_arg 1 rfl h hi (by decide) (by decide +kernel) d_law_647 d_law_648 d_law_649 d_law_650 d_law_651 ?_
  refine l_callM rfl h.1 h.2.1 mf_m_kind k_1297 k_1298 k_1296 (C_m_kind e2) ⟨rfl, rfl⟩ (h.rm ⟨Nat.le_of_ble_eq_true rfl, Nat.le_of_ble_eq_true rfl⟩) rfl rfl rv_MOD rfl (Nat.le_of_ble_eq_true rfl) d_law_652 ?_
  refine l_ret h d_law_655 rfl ?_
  exact k C N w R (Nat.le_add_right _ _)
theorem L_14 (h : Lx X G b L xs) (hi : i + 5 ≤ L) (R : Rl C N w) (hw : w ≤ 3000000) (k : ∀ C2 N2 w2, Rl C2 N2 w2 → w2 ≤ w + 5000 → Wt X (C2, N2) 1725 (LVs G b i) []) : Wt X (C, N) 660 (LVs G b i) [] := by
  obtain ⟨o, e1, e2⟩ := Q_stationOf R (xs (i + 1))
  refine r_aload_n rfl h.1 d_law_660 rfl 2 rfl ?_
  refine l_arg 1 rfl h hi (by decide) (by decide +kernel) d_law_661 d_law_662 d_law_663 d_law_664 d_law_665 ?_
  refine l_callC rfl h.1 h.2.1 mf_rc_stationOf k_702 k_703 k_701 (C_rc_stationOf e1) ⟨rfl, rfl⟩ (h.rm ⟨Nat.le_of_ble_eq_true rfl, Nat.le_of_ble_eq_true rfl⟩) rfl rfl rv_RC rfl (Nat.le_of_ble_eq_true rfl) d_law_666 ?_
  refine r_aload_n rfl h.1 d_law_669 rfl 1 rfl ?_
  refine l_arg 1 rfl h hi (by decide) (by decide +kernel) d_law_670 d_law_671 d_law_672 d_law_673 d_law_674 ?_
  refine l_callM rfl h.1 h.2.1 mf_m_stationOf k_1301 k_1302 k_1300 (C_m_stationOf e2) ⟨rfl, rfl⟩ (h.rm ⟨Nat.le_of_ble_eq_true rfl, Nat.le_of_ble_eq_true rfl⟩) rfl rfl rv_MOD rfl (Nat.le_of_ble_eq_true rfl) d_law_675 ?_
  refine l_ret h d_law_678 rfl ?_
  exact k C N w R (Nat.le_add_right _ _)
theorem L_15 (h : Lx X G b L xs) (hi : i + 5 ≤ L) (R : Rl C N w) (hw : w ≤ 3000000) (k : ∀ C2 N2 w2, Rl C2 N2 w2 → w2 ≤ w + 5000 → Wt X (C2, N2) 1725 (LVs G b i) []) : Wt X (C, N) 683 (LVs G b i) [] := by
  obtain ⟨o, e1, e2⟩ := Q_entryRate R (xs (i + 1)) (xs (i + 2))
  refine r_aload_n rfl h.1 d_law_683 rfl 2 rfl ?_
  refine l_arg 1 rfl h hi (by decide) (by decide +kernel) d_law_684 d_law_685 d_law_686 d_law_687 d_law_688 ?_
  refine l_arg 2 rfl h hi (by decide) (by decide +kernel) d_law_689 d_law_690 d_law_691 d_law_692 d_law_693 ?_
  refine l_callC rfl h.1 h.2.1 mf_rc_entryRate k_706 k_707 k_705 (C_rc_entryRate e1) ⟨rfl, rfl⟩ (h.rm ⟨Nat.le_of_ble_eq_true rfl, Nat.le_of_ble_eq_true rfl⟩) rfl rfl rv_RC rfl (Nat.le_of_ble_eq_true rfl) d_law_694 ?_
  refine r_aload_n rfl h.1 d_law_697 rfl 1 rfl ?_
  refine l_arg 1 rfl h hi (by decide) (by decide +kernel) d_law_698 d_law_699 d_law_700 d_law_701 d_law_702 ?_
  refine l_arg 2 rfl h hi (by decide) (by decide +kernel) d_law_703 d_law_704 d_law_705 d_law_706 d_law_707 ?_
  refine l_callM rfl h.1 h.2.1 mf_m_entryRate k_1305 k_1306 k_1304 (C_m_entryRate e2) ⟨rfl, rfl⟩ (h.rm ⟨Nat.le_of_ble_eq_true rfl, Nat.le_of_ble_eq_true rfl⟩) rfl rfl rv_MOD rfl (Nat.le_of_ble_eq_true rfl) d_law_708 ?_
  refine l_ret h d_law_711 rfl ?_
  exact k C N w R (Nat.le_add_right _ _)
theorem L_16 (h : Lx X G b L xs) (hi : i + 5 ≤ L) (R : Rl C N w) (hw : w ≤ 3000000) (k : ∀ C2 N2 w2, Rl C2 N2 w2 → w2 ≤ w + 5000 → Wt X (C2, N2) 1725 (LVs G b i) []) : Wt X (C, N) 716 (LVs G b i) [] := by
  obtain ⟨o, e1, e2⟩ := Q_entryTries R (xs (i + 1)) (xs (i + 2))
  refine r_aload_n rfl h.1 d_law_716 rfl 2 rfl ?_
  refine l_arg 1 rfl h hi (by decide) (by decide +kernel) d_law_717 d_law_718 d_law_719 d_law_720 d_law_721 ?_
  refine l_arg 2 rfl h hi (by decide) (by decide +kernel) d_law_722 d_law_723 d_law_724 d_law_725 d_law_726 ?_
  refine l_callC rfl h.1 h.2.1 mf_rc_entryTries k_713 k_714 k_712 (C_rc_entryTries e1) ⟨rfl, rfl⟩ (h.rm ⟨Nat.le_of_ble_eq_true rfl, Nat.le_of_ble_eq_true rfl⟩) rfl rfl rv_RC rfl (Nat.le_of_ble_eq_true rfl) d_law_727 ?_
  refine r_aload_n rfl h.1 d_law_730 rfl 1 rfl ?_
  refine l_arg 1 rfl h hi (by decide) (by decide +kernel) d_law_731 d_law_732 d_law_733 d_law_734 d_law_735 ?_
  refine l_arg 2 rfl h hi (by decide) (by decide +kernel) d_law_736 d_law_737 d_law_738 d_law_739 d_law_740 ?_
  refine l_callM rfl h.1 h.2.1 mf_m_entryTries k_1309 k_1310 k_1308 (C_m_entryTries e2) ⟨rfl, rfl⟩ (h.rm ⟨Nat.le_of_ble_eq_true rfl, Nat.le_of_ble_eq_true rfl⟩) rfl rfl rv_MOD rfl (Nat.le_of_ble_eq_true rfl) d_law_741 ?_
  refine l_ret h d_law_744 rfl ?_
  exact k C N w R (Nat.le_add_right _ _)
theorem L_17 (h : Lx X G b L xs) (hi : i + 5 ≤ L) (R : Rl C N w) (hw : w ≤ 3000000) (k : ∀ C2 N2 w2, Rl C2 N2 w2 → w2 ≤ w + 5000 → Wt X (C2, N2) 1725 (LVs G b i) []) : Wt X (C, N) 749 (LVs G b i) [] := by
  obtain ⟨o, e1, e2⟩ := Q_tag R (xs (i + 1))
  refine r_aload_n rfl h.1 d_law_749 rfl 2 rfl ?_
  refine l_arg 1 rfl h hi (by decide) (by decide +kernel) d_law_750 d_law_751 d_law_752 d_law_753 d_law_754 ?_
  refine l_callC rfl h.1 h.2.1 mf_rc_tag k_717 k_718 k_716 (C_rc_tag e1) ⟨rfl, rfl⟩ (h.rm ⟨Nat.le_of_ble_eq_true rfl, Nat.le_of_ble_eq_true rfl⟩) rfl rfl rv_RC rfl (Nat.le_of_ble_eq_true rfl) d_law_755 ?_
  refine r_aload_n rfl h.1 d_law_758 rfl 1 rfl ?_
  refine l_arg 1 rfl h hi (by decide) (by decide +kernel) d_law_759 d_law_760 d_law_761 d_law_762 d_law_763 ?_
  refine l_callM rfl h.1 h.2.1 mf_m_tag k_1313 k_1314 k_1312 (C_m_tag e2) ⟨rfl, rfl⟩ (h.rm ⟨Nat.le_of_ble_eq_true rfl, Nat.le_of_ble_eq_true rfl⟩) rfl rfl rv_MOD rfl (Nat.le_of_ble_eq_true rfl) d_law_764 ?_
  refine l_ret h d_law_767 rfl ?_
  exact k C N w R (Nat.le_add_right _ _)
theorem L_18 (h : Lx X G b L xs) (hi : i + 5 ≤ L) (R : Rl C N w) (hw : w ≤ 3000000) (k : ∀ C2 N2 w2, Rl C2 N2 w2 → w2 ≤ w + 5000 → Wt X (C2, N2) 1725 (LVs G b i) []) : Wt X (C, N) 772 (LVs G b i) [] := by
  obtain ⟨o, e1, e2⟩ := Q_deliveryChance R (xs (i + 1))
  refine r_aload_n rfl h.1 d_law_772 rfl 2 rfl ?_
  refine l_arg 1 rfl h hi (by decide) (by decide +kernel) d_law_773 d_law_774 d_law_775 d_law_776 d_law_777 ?_
  refine l_callC rfl h.1 h.2.1 mf_rc_deliveryChance k_721 k_722 k_720 (C_rc_deliveryChance e1) ⟨rfl, rfl⟩ (h.rm ⟨Nat.le_of_ble_eq_true rfl, Nat.le_of_ble_eq_true rfl⟩) rfl rfl rv_RC rfl (Nat.le_of_ble_eq_true rfl) d_law_778 ?_
  refine r_aload_n rfl h.1 d_law_781 rfl 1 rfl ?_
  refine l_arg 1 rfl h hi (by decide) (by decide +kernel) d_law_782 d_law_783 d_law_784 d_law_785 d_law_786 ?_
  refine l_callM rfl h.1 h.2.1 mf_m_deliveryChance k_1317 k_1318 k_1316 (C_m_deliveryChance e2) ⟨rfl, rfl⟩ (h.rm ⟨Nat.le_of_ble_eq_true rfl, Nat.le_of_ble_eq_true rfl⟩) rfl rfl rv_MOD rfl (Nat.le_of_ble_eq_true rfl) d_law_787 ?_
  refine l_ret h d_law_790 rfl ?_
  exact k C N w R (Nat.le_add_right _ _)
theorem L_19 (h : Lx X G b L xs) (hi : i + 5 ≤ L) (R : Rl C N w) (hw : w ≤ 3000000) (k : ∀ C2 N2 w2, Rl C2 N2 w2 → w2 ≤ w + 5000 → Wt X (C2, N2) 1725 (LVs G b i) []) : Wt X (C, N) 795 (LVs G b i) [] := by
  obtain ⟨o, e1, e2⟩ := Q_expectedTime R (xs (i + 1))
  refine r_aload_n rfl h.1 d_law_795 rfl 2 rfl ?_
  refine l_arg 1 rfl h hi (by decide) (by decide +kernel) d_law_796 d_law_797 d_law_798 d_law_799 d_law_800 ?_
  refine l_callC rfl h.1 h.2.1 mf_rc_expectedTime k_738 k_739 k_737 (C_rc_expectedTime e1) ⟨rfl, rfl⟩ (h.rm ⟨Nat.le_of_ble_eq_true rfl, Nat.le_of_ble_eq_true rfl⟩) rfl rfl rv_RC rfl (Nat.le_of_ble_eq_true rfl) d_law_801 ?_
  refine r_aload_n rfl h.1 d_law_804 rfl 1 rfl ?_
  refine l_arg 1 rfl h hi (by decide) (by decide +kernel) d_law_805 d_law_806 d_law_807 d_law_808 d_law_809 ?_
  refine l_callM rfl h.1 h.2.1 mf_m_expectedTime k_1322 k_1323 k_1321 (C_m_expectedTime e2) ⟨rfl, rfl⟩ (h.rm ⟨Nat.le_of_ble_eq_true rfl, Nat.le_of_ble_eq_true rfl⟩) rfl rfl rv_MOD rfl (Nat.le_of_ble_eq_true rfl) d_law_810 ?_
  refine l_ret h d_law_813 rfl ?_
  exact k C N w R (Nat.le_add_right _ _)
theorem L_20 (h : Lx X G b L xs) (hi : i + 5 ≤ L) (R : Rl C N w) (hw : w ≤ 3000000) (k : ∀ C2 N2 w2, Rl C2 N2 w2 → w2 ≤ w + 5000 → Wt X (C2, N2) 1725 (LVs G b i) []) : Wt X (C, N) 818 (LVs G b i) [] := by
  obtain ⟨o, e1, e2⟩ := Q_estimate R (xs (i + 1)) (xs (i + 2))
  refine r_aload_n rfl h.1 d_law_818 rfl 2 rfl ?_
  refine l_arg 1 rfl h hi (by decide) (by decide +kernel) d_law_819 d_law_820 d_law_821 d_law_822 d_law_823 ?_
  refine l_arg 2 rfl h hi (by decide) (by decide +kernel) d_law_824 d_law_825 d_law_826 d_law_827 d_law_828 ?_
  refine l_callC rfl h.1 h.2.1 mf_rc_estimate k_747 k_748 k_746 (C_rc_estimate e1) ⟨rfl, rfl⟩ (h.rm ⟨Nat.le_of_ble_eq_true rfl, Nat.le_of_ble_eq_true rfl⟩) rfl rfl rv_RC rfl (Nat.le_of_ble_eq_true rfl) d_law_829 ?_
  refine r_aload_n rfl h.1 d_law_832 rfl 1 rfl ?_
  refine l_arg 1 rfl h hi (by decide) (by decide +kernel) d_law_833 d_law_834 d_law_835 d_law_836 d_law_837 ?_
  refine l_arg 2 rfl h hi (by decide) (by decide +kernel) d_law_838 d_law_839 d_law_840 d_law_841 d_law_842 ?_
  refine l_callM rfl h.1 h.2.1 mf_m_estimate k_1326 k_1327 k_1325 (C_m_estimate e2) ⟨rfl, rfl⟩ (h.rm ⟨Nat.le_of_ble_eq_true rfl, Nat.le_of_ble_eq_true rfl⟩) rfl rfl rv_MOD rfl (Nat.le_of_ble_eq_true rfl) d_law_843 ?_
  refine l_ret h d_law_846 rfl ?_
  exact k C N w R (Nat.le_add_right _ _)
theorem L_21 (h : Lx X G b L xs) (hi : i + 5 ≤ L) (R : Rl C N w) (hw : w ≤ 3000000) (k : ∀ C2 N2 w2, Rl C2 N2 w2 → w2 ≤ w + 5000 → Wt X (C2, N2) 1725 (LVs G b i) []) : Wt X (C, N) 851 (LVs G b i) [] := by
  obtain ⟨o, e1, e2⟩ := Q_triesOf R (xs (i + 1)) (xs (i + 2))
  refine r_aload_n rfl h.1 d_law_851 rfl 2 rfl ?_
  refine l_arg 1 rfl h hi (by decide) (by decide +kernel) d_law_852 d_law_853 d_law_854 d_law_855 d_law_856 ?_
  refine l_arg 2 rfl h hi (by decide) (by decide +kernel) d_law_857 d_law_858 d_law_859 d_law_860 d_law_861 ?_
  refine l_callC rfl h.1 h.2.1 mf_rc_triesOf k_751 k_752 k_750 (C_rc_triesOf e1) ⟨rfl, rfl⟩ (h.rm ⟨Nat.le_of_ble_eq_true rfl, Nat.le_of_ble_eq_true rfl⟩) rfl rfl rv_RC rfl (Nat.le_of_ble_eq_true rfl) d_law_862 ?_
  refine r_aload_n rfl h.1 d_law_865 rfl 1 rfl ?_
  refine l_arg 1 rfl h hi (by decide) (by decide +kernel) d_law_866 d_law_867 d_law_868 d_law_869 d_law_870 ?_
  refine l_arg 2 rfl h hi (by decide) (by decide +kernel) d_law_871 d_law_872 d_law_873 d_law_874 d_law_875 ?_
  refine l_callM rfl h.1 h.2.1 mf_m_triesOf k_1330 k_1331 k_1329 (C_m_triesOf e2) ⟨rfl, rfl⟩ (h.rm ⟨Nat.le_of_ble_eq_true rfl, Nat.le_of_ble_eq_true rfl⟩) rfl rfl rv_MOD rfl (Nat.le_of_ble_eq_true rfl) d_law_876 ?_
  refine l_ret h d_law_879 rfl ?_
  exact k C N w R (Nat.le_add_right _ _)
theorem L_22 (h : Lx X G b L xs) (hi : i + 5 ≤ L) (R : Rl C N w) (hw : w ≤ 3000000) (k : ∀ C2 N2 w2, Rl C2 N2 w2 → w2 ≤ w + 5000 → Wt X (C2, N2) 1725 (LVs G b i) []) : Wt X (C, N) 884 (LVs G b i) [] := by
  obtain ⟨o, e1, e2⟩ := Q_successesOf R (xs (i + 1)) (xs (i + 2))
  refine r_aload_n rfl h.1 d_law_884 rfl 2 rfl ?_
  refine l_arg 1 rfl h hi (by decide) (by decide +kernel) d_law_885 d_law_886 d_law_887 d_law_888 d_law_889 ?_
  refine l_arg 2 rfl h hi (by decide) (by decide +kernel) d_law_890 d_law_891 d_law_892 d_law_893 d_law_894 ?_
  refine l_callC rfl h.1 h.2.1 mf_rc_successesOf k_755 k_756 k_754 (C_rc_successesOf e1) ⟨rfl, rfl⟩ (h.rm ⟨Nat.le_of_ble_eq_true rfl, Nat.le_of_ble_eq_true rfl⟩) rfl rfl rv_RC rfl (Nat.le_of_ble_eq_true rfl) d_law_895 ?_
  refine r_aload_n rfl h.1 d_law_898 rfl 1 rfl ?_
  refine l_arg 1 rfl h hi (by decide) (by decide +kernel) d_law_899 d_law_900 d_law_901 d_law_902 d_law_903 ?_
  refine l_arg 2 rfl h hi (by decide) (by decide +kernel) d_law_904 d_law_905 d_law_906 d_law_907 d_law_908 ?_
  refine l_callM rfl h.1 h.2.1 mf_m_successesOf k_1334 k_1335 k_1333 (C_m_successesOf e2) ⟨rfl, rfl⟩ (h.rm ⟨Nat.le_of_ble_eq_true rfl, Nat.le_of_ble_eq_true rfl⟩) rfl rfl rv_MOD rfl (Nat.le_of_ble_eq_true rfl) d_law_909 ?_
  refine l_ret h d_law_912 rfl ?_
  exact k C N w R (Nat.le_add_right _ _)
theorem L_23 (h : Lx X G b L xs) (hi : i + 5 ≤ L) (R : Rl C N w) (hw : w ≤ 3000000) (k : ∀ C2 N2 w2, Rl C2 N2 w2 → w2 ≤ w + 5000 → Wt X (C2, N2) 1725 (LVs G b i) []) : Wt X (C, N) 917 (LVs G b i) [] := by
  obtain ⟨o, e1, e2⟩ := Q_airTime R (xs (i + 1)) (xs (i + 2))
  refine r_aload_n rfl h.1 d_law_917 rfl 2 rfl ?_
  refine l_arg 1 rfl h hi (by decide) (by decide +kernel) d_law_918 d_law_919 d_law_920 d_law_921 d_law_922 ?_
  refine l_arg 2 rfl h hi (by decide) (by decide +kernel) d_law_923 d_law_924 d_law_925 d_law_926 d_law_927 ?_
  refine l_callC rfl h.1 h.2.1 mf_rc_airTime k_759 k_760 k_758 (C_rc_airTime e1) ⟨rfl, rfl⟩ (h.rm ⟨Nat.le_of_ble_eq_true rfl, Nat.le_of_ble_eq_true rfl⟩) rfl rfl rv_RC rfl (Nat.le_of_ble_eq_true rfl) d_law_928 ?_
  refine r_aload_n rfl h.1 d_law_931 rfl 1 rfl ?_
  refine l_arg 1 rfl h hi (by decide) (by decide +kernel) d_law_932 d_law_933 d_law_934 d_law_935 d_law_936 ?_
  refine l_arg 2 rfl h hi (by decide) (by decide +kernel) d_law_937 d_law_938 d_law_939 d_law_940 d_law_941 ?_
  refine l_callM rfl h.1 h.2.1 mf_m_airTime k_1338 k_1339 k_1337 (C_m_airTime e2) ⟨rfl, rfl⟩ (h.rm ⟨Nat.le_of_ble_eq_true rfl, Nat.le_of_ble_eq_true rfl⟩) rfl rfl rv_MOD rfl (Nat.le_of_ble_eq_true rfl) d_law_942 ?_
  refine l_ret h d_law_945 rfl ?_
  exact k C N w R (Nat.le_add_right _ _)
theorem L_24 (h : Lx X G b L xs) (hi : i + 5 ≤ L) (R : Rl C N w) (hw : w ≤ 3000000) (k : ∀ C2 N2 w2, Rl C2 N2 w2 → w2 ≤ w + 5000 → Wt X (C2, N2) 1725 (LVs G b i) []) : Wt X (C, N) 950 (LVs G b i) [] := by
  obtain ⟨o, e1, e2⟩ := Q_throughput R (xs (i + 1)) (xs (i + 2)) (xs (i + 3))
  refine r_aload_n rfl h.1 d_law_950 rfl 2 rfl ?_
  refine l_arg 1 rfl h hi (by decide) (by decide +kernel) d_law_951 d_law_952 d_law_953 d_law_954 d_law_955 ?_
  refine l_arg 2 rfl h hi (by decide) (by decide +kernel) d_law_956 d_law_957 d_law_958 d_law_959 d_law_960 ?_
  refine l_arg 3 rfl h hi (by decide) (by decide +kernel) d_law_961 d_law_962 d_law_963 d_law_964 d_law_965 ?_
  refine l_callC rfl h.1 h.2.1 mf_rc_throughput k_769 k_770 k_768 (C_rc_throughput e1) ⟨rfl, rfl⟩ (h.rm ⟨Nat.le_of_ble_eq_true rfl, Nat.le_of_ble_eq_true rfl⟩) rfl rfl rv_RC rfl (Nat.le_of_ble_eq_true rfl) d_law_966 ?_
  refine r_aload_n rfl h.1 d_law_969 rfl 1 rfl ?_
  refine l_arg 1 rfl h hi (by decide) (by decide +kernel) d_law_970 d_law_971 d_law_972 d_law_973 d_law_974 ?_
  refine l_arg 2 rfl h hi (by decide) (by decide +kernel) d_law_975 d_law_976 d_law_977 d_law_978 d_law_979 ?_
  refine l_arg 3 rfl h hi (by decide) (by decide +kernel) d_law_980 d_law_981 d_law_982 d_law_983 d_law_984 ?_
  refine l_callM rfl h.1 h.2.1 mf_m_throughput k_1343 k_1344 k_1342 (C_m_throughput e2) ⟨rfl, rfl⟩ (h.rm ⟨Nat.le_of_ble_eq_true rfl, Nat.le_of_ble_eq_true rfl⟩) rfl rfl rv_MOD rfl (Nat.le_of_ble_eq_true rfl) d_law_985 ?_
  refine l_ret h d_law_988 rfl ?_
  exact k C N w R (Nat.le_add_right _ _)
theorem L_25 (h : Lx X G b L xs) (hi : i + 5 ≤ L) (R : Rl C N w) (hw : w ≤ 3000000) (k : ∀ C2 N2 w2, Rl C2 N2 w2 → w2 ≤ w + 5000 → Wt X (C2, N2) 1725 (LVs G b i) []) : Wt X (C, N) 993 (LVs G b i) [] := by
  obtain ⟨o, e1, e2⟩ := Q_role R (xs (i + 1)) (xs (i + 2))
  refine r_aload_n rfl h.1 d_law_993 rfl 2 rfl ?_
  refine l_arg 1 rfl h hi (by decide) (by decide +kernel) d_law_994 d_law_995 d_law_996 d_law_997 d_law_998 ?_
  refine l_arg 2 rfl h hi (by decide) (by decide +kernel) d_law_999 d_law_1000 d_law_1001 d_law_1002 d_law_1003 ?_
  refine l_callC rfl h.1 h.2.1 mf_rc_role k_776 k_777 k_775 (C_rc_role e1) ⟨rfl, rfl⟩ (h.rm ⟨Nat.le_of_ble_eq_true rfl, Nat.le_of_ble_eq_true rfl⟩) rfl rfl rv_RC rfl (Nat.le_of_ble_eq_true rfl) d_law_1004 ?_
  refine r_aload_n rfl h.1 d_law_1007 rfl 1 rfl ?_
  refine l_arg 1 rfl h hi (by decide) (by decide +kernel) d_law_1008 d_law_1009 d_law_1010 d_law_1011 d_law_1012 ?_
  refine l_arg 2 rfl h hi (by decide) (by decide +kernel) d_law_1013 d_law_1014 d_law_1015 d_law_1016 d_law_1017 ?_
  refine l_callM rfl h.1 h.2.1 mf_m_role k_1348 k_1349 k_1347 (C_m_role e2) ⟨rfl, rfl⟩ (h.rm ⟨Nat.le_of_ble_eq_true rfl, Nat.le_of_ble_eq_true rfl⟩) rfl rfl rv_MOD rfl (Nat.le_of_ble_eq_true rfl) d_law_1018 ?_
  refine l_ret h d_law_1021 rfl ?_
  exact k C N w R (Nat.le_add_right _ _)
end LC
