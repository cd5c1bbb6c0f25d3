/-! ===== the law's 26 actions ===== -/
theorem cvL_13 : zCv "MeshRouterLaw" "MeshRouter" 13 yX10_addBackend cX10_addBackend 4 3 9 (some .int) := ⟨⟨List.mem_of_getElem? (i := 463) (by decide +kernel), rfl⟩, ⟨List.mem_of_getElem? (i := 61) (by decide +kernel), rfl⟩, ⟨List.mem_of_getElem? (i := 460) (by decide +kernel), rfl⟩, ⟨List.mem_of_getElem? (i := 461) (by decide +kernel), rfl⟩, ⟨List.mem_of_getElem? (i := 462) (by decide +kernel), rfl⟩, by decide +kernel, _, _, rfl⟩
theorem cvL_17 : zCv "MeshRouterLaw" "MeshRouterModel" 17 yX11_addBackend cX11_addBackend 6 3 10 (some .int) := ⟨⟨List.mem_of_getElem? (i := 955) (by decide +kernel), rfl⟩, ⟨List.mem_of_getElem? (i := 72) (by decide +kernel), rfl⟩, ⟨List.mem_of_getElem? (i := 952) (by decide +kernel), rfl⟩, ⟨List.mem_of_getElem? (i := 953) (by decide +kernel), rfl⟩, ⟨List.mem_of_getElem? (i := 954) (by decide +kernel), rfl⟩, by decide +kernel, _, _, rfl⟩
theorem cvL_18 : zCv "MeshRouterLaw" "MeshRouter" 18 yX10_setWeight cX10_setWeight 4 2 9 (some .int) := ⟨⟨List.mem_of_getElem? (i := 488) (by decide +kernel), rfl⟩, ⟨List.mem_of_getElem? (i := 61) (by decide +kernel), rfl⟩, ⟨List.mem_of_getElem? (i := 485) (by decide +kernel), rfl⟩, ⟨List.mem_of_getElem? (i := 486) (by decide +kernel), rfl⟩, ⟨List.mem_of_getElem? (i := 487) (by decide +kernel), rfl⟩, by decide +kernel, _, _, rfl⟩
theorem cvL_22 : zCv "MeshRouterLaw" "MeshRouterModel" 22 yX11_setWeight cX11_setWeight 3 2 10 (some .int) := ⟨⟨List.mem_of_getElem? (i := 970) (by decide +kernel), rfl⟩, ⟨List.mem_of_getElem? (i := 72) (by decide +kernel), rfl⟩, ⟨List.mem_of_getElem? (i := 967) (by decide +kernel), rfl⟩, ⟨List.mem_of_getElem? (i := 968) (by decide +kernel), rfl⟩, ⟨List.mem_of_getElem? (i := 969) (by decide +kernel), rfl⟩, by decide +kernel, _, _, rfl⟩
theorem cvL_23 : zCv "MeshRouterLaw" "MeshRouter" 23 yX10_setPattern cX10_setPattern 4 2 9 (some .int) := ⟨⟨List.mem_of_getElem? (i := 497) (by decide +kernel), rfl⟩, ⟨List.mem_of_getElem? (i := 61) (by decide +kernel), rfl⟩, ⟨List.mem_of_getElem? (i := 494) (by decide +kernel), rfl⟩, ⟨List.mem_of_getElem? (i := 495) (by decide +kernel), rfl⟩, ⟨List.mem_of_getElem? (i := 496) (by decide +kernel), rfl⟩, by decide +kernel, _, _, rfl⟩
theorem cvL_26 : zCv "MeshRouterLaw" "MeshRouterModel" 26 yX11_setPattern cX11_setPattern 3 2 10 (some .int) := ⟨⟨List.mem_of_getElem? (i := 986) (by decide +kernel), rfl⟩, ⟨List.mem_of_getElem? (i := 72) (by decide +kernel), rfl⟩, ⟨List.mem_of_getElem? (i := 983) (by decide +kernel), rfl⟩, ⟨List.mem_of_getElem? (i := 984) (by decide +kernel), rfl⟩, ⟨List.mem_of_getElem? (i := 985) (by decide +kernel), rfl⟩, by decide +kernel, _, _, rfl⟩
theorem cvL_27 : zCv "MeshRouterLaw" "MeshRouter" 27 yX10_configure cX10_configure 10 6 9 (some .int) := ⟨⟨List.mem_of_getElem? (i := 501) (by decide +kernel), rfl⟩, ⟨List.mem_of_getElem? (i := 61) (by decide +kernel), rfl⟩, ⟨List.mem_of_getElem? (i := 498) (by decide +kernel), rfl⟩, ⟨List.mem_of_getElem? (i := 499) (by decide +kernel), rfl⟩, ⟨List.mem_of_getElem? (i := 500) (by decide +kernel), rfl⟩, by decide +kernel, _, _, rfl⟩
theorem cvL_31 : zCv "MeshRouterLaw" "MeshRouterModel" 31 yX11_configure cX11_configure 9 6 10 (some .int) := ⟨⟨List.mem_of_getElem? (i := 990) (by decide +kernel), rfl⟩, ⟨List.mem_of_getElem? (i := 72) (by decide +kernel), rfl⟩, ⟨List.mem_of_getElem? (i := 987) (by decide +kernel), rfl⟩, ⟨List.mem_of_getElem? (i := 988) (by decide +kernel), rfl⟩, ⟨List.mem_of_getElem? (i := 989) (by decide +kernel), rfl⟩, by decide +kernel, _, _, rfl⟩
theorem cvL_32 : zCv "MeshRouterLaw" "MeshRouter" 32 yX10_setZoneLimit cX10_setZoneLimit 3 1 9 (some .int) := ⟨⟨List.mem_of_getElem? (i := 505) (by decide +kernel), rfl⟩, ⟨List.mem_of_getElem? (i := 61) (by decide +kernel), rfl⟩, ⟨List.mem_of_getElem? (i := 502) (by decide +kernel), rfl⟩, ⟨List.mem_of_getElem? (i := 503) (by decide +kernel), rfl⟩, ⟨List.mem_of_getElem? (i := 504) (by decide +kernel), rfl⟩, by decide +kernel, _, _, rfl⟩
theorem cvL_36 : zCv "MeshRouterLaw" "MeshRouterModel" 36 yX11_setZoneLimit cX11_setZoneLimit 3 1 10 (some .int) := ⟨⟨List.mem_of_getElem? (i := 994) (by decide +kernel), rfl⟩, ⟨List.mem_of_getElem? (i := 72) (by decide +kernel), rfl⟩, ⟨List.mem_of_getElem? (i := 991) (by decide +kernel), rfl⟩, ⟨List.mem_of_getElem? (i := 992) (by decide +kernel), rfl⟩, ⟨List.mem_of_getElem? (i := 993) (by decide +kernel), rfl⟩, by decide +kernel, _, _, rfl⟩
theorem cvL_37 : zCv "MeshRouterLaw" "MeshRouter" 37 yX10_append cX10_append 4 2 9 (some .int) := ⟨⟨List.mem_of_getElem? (i := 509) (by decide +kernel), rfl⟩, ⟨List.mem_of_getElem? (i := 61) (by decide +kernel), rfl⟩, ⟨List.mem_of_getElem? (i := 506) (by decide +kernel), rfl⟩, ⟨List.mem_of_getElem? (i := 507) (by decide +kernel), rfl⟩, ⟨List.mem_of_getElem? (i := 508) (by decide +kernel), rfl⟩, by decide +kernel, _, _, rfl⟩
theorem cvL_40 : zCv "MeshRouterLaw" "MeshRouterModel" 40 yX11_append cX11_append 4 2 10 (some .int) := ⟨⟨List.mem_of_getElem? (i := 998) (by decide +kernel), rfl⟩, ⟨List.mem_of_getElem? (i := 72) (by decide +kernel), rfl⟩, ⟨List.mem_of_getElem? (i := 995) (by decide +kernel), rfl⟩, ⟨List.mem_of_getElem? (i := 996) (by decide +kernel), rfl⟩, ⟨List.mem_of_getElem? (i := 997) (by decide +kernel), rfl⟩, by decide +kernel, _, _, rfl⟩
theorem cvL_41 : zCv "MeshRouterLaw" "MeshRouter" 41 yX10_addRule cX10_addRule 2 0 9 (some .int) := ⟨⟨List.mem_of_getElem? (i := 517) (by decide +kernel), rfl⟩, ⟨List.mem_of_getElem? (i := 61) (by decide +kernel), rfl⟩, ⟨List.mem_of_getElem? (i := 514) (by decide +kernel), rfl⟩, ⟨List.mem_of_getElem? (i := 515) (by decide +kernel), rfl⟩, ⟨List.mem_of_getElem? (i := 516) (by decide +kernel), rfl⟩, by decide +kernel, _, _, rfl⟩
theorem cvL_45 : zCv "MeshRouterLaw" "MeshRouterModel" 45 yX11_addRule cX11_addRule 2 0 10 (some .int) := ⟨⟨List.mem_of_getElem? (i := 1002) (by decide +kernel), rfl⟩, ⟨List.mem_of_getElem? (i := 72) (by decide +kernel), rfl⟩, ⟨List.mem_of_getElem? (i := 999) (by decide +kernel), rfl⟩, ⟨List.mem_of_getElem? (i := 1000) (by decide +kernel), rfl⟩, ⟨List.mem_of_getElem? (i := 1001) (by decide +kernel), rfl⟩, by decide +kernel, _, _, rfl⟩
theorem cvL_46 : zCv "MeshRouterLaw" "MeshRouter" 46 yX10_removeRule cX10_removeRule 2 1 9 (some .int) := ⟨⟨List.mem_of_getElem? (i := 598) (by decide +kernel), rfl⟩, ⟨List.mem_of_getElem? (i := 61) (by decide +kernel), rfl⟩, ⟨List.mem_of_getElem? (i := 595) (by decide +kernel), rfl⟩, ⟨List.mem_of_getElem? (i := 596) (by decide +kernel), rfl⟩, ⟨List.mem_of_getElem? (i := 597) (by decide +kernel), rfl⟩, by decide +kernel, _, _, rfl⟩
theorem cvL_49 : zCv "MeshRouterLaw" "MeshRouterModel" 49 yX11_removeRule cX11_removeRule 3 1 10 (some .int) := ⟨⟨List.mem_of_getElem? (i := 1029) (by decide +kernel), rfl⟩, ⟨List.mem_of_getElem? (i := 72) (by decide +kernel), rfl⟩, ⟨List.mem_of_getElem? (i := 1026) (by decide +kernel), rfl⟩, ⟨List.mem_of_getElem? (i := 1027) (by decide +kernel), rfl⟩, ⟨List.mem_of_getElem? (i := 1028) (by decide +kernel), rfl⟩, by decide +kernel, _, _, rfl⟩
theorem cvL_50 : zCv "MeshRouterLaw" "MeshRouter" 50 yX10_moveRule cX10_moveRule 3 2 9 (some .int) := ⟨⟨List.mem_of_getElem? (i := 610) (by decide +kernel), rfl⟩, ⟨List.mem_of_getElem? (i := 61) (by decide +kernel), rfl⟩, ⟨List.mem_of_getElem? (i := 607) (by decide +kernel), rfl⟩, ⟨List.mem_of_getElem? (i := 608) (by decide +kernel), rfl⟩, ⟨List.mem_of_getElem? (i := 609) (by decide +kernel), rfl⟩, by decide +kernel, _, _, rfl⟩
theorem cvL_53 : zCv "MeshRouterLaw" "MeshRouterModel" 53 yX11_moveRule cX11_moveRule 4 2 10 (some .int) := ⟨⟨List.mem_of_getElem? (i := 1037) (by decide +kernel), rfl⟩, ⟨List.mem_of_getElem? (i := 72) (by decide +kernel), rfl⟩, ⟨List.mem_of_getElem? (i := 1034) (by decide +kernel), rfl⟩, ⟨List.mem_of_getElem? (i := 1035) (by decide +kernel), rfl⟩, ⟨List.mem_of_getElem? (i := 1036) (by decide +kernel), rfl⟩, by decide +kernel, _, _, rfl⟩
theorem cvL_54 : zCv "MeshRouterLaw" "MeshRouter" 54 yX10_match cX10_match 3 1 9 (some .int) := ⟨⟨List.mem_of_getElem? (i := 617) (by decide +kernel), rfl⟩, ⟨List.mem_of_getElem? (i := 61) (by decide +kernel), rfl⟩, ⟨List.mem_of_getElem? (i := 614) (by decide +kernel), rfl⟩, ⟨List.mem_of_getElem? (i := 615) (by decide +kernel), rfl⟩, ⟨List.mem_of_getElem? (i := 616) (by decide +kernel), rfl⟩, by decide +kernel, _, _, rfl⟩
theorem cvL_57 : zCv "MeshRouterLaw" "MeshRouterModel" 57 yX11_match cX11_match 2 1 10 (some .int) := ⟨⟨List.mem_of_getElem? (i := 1045) (by decide +kernel), rfl⟩, ⟨List.mem_of_getElem? (i := 72) (by decide +kernel), rfl⟩, ⟨List.mem_of_getElem? (i := 1042) (by decide +kernel), rfl⟩, ⟨List.mem_of_getElem? (i := 1043) (by decide +kernel), rfl⟩, ⟨List.mem_of_getElem? (i := 1044) (by decide +kernel), rfl⟩, by decide +kernel, _, _, rfl⟩
theorem cvL_58 : zCv "MeshRouterLaw" "MeshRouter" 58 yX10_request cX10_request 6 2 9 (some .int) := ⟨⟨List.mem_of_getElem? (i := 647) (by decide +kernel), rfl⟩, ⟨List.mem_of_getElem? (i := 61) (by decide +kernel), rfl⟩, ⟨List.mem_of_getElem? (i := 644) (by decide +kernel), rfl⟩, ⟨List.mem_of_getElem? (i := 645) (by decide +kernel), rfl⟩, ⟨List.mem_of_getElem? (i := 646) (by decide +kernel), rfl⟩, by decide +kernel, _, _, rfl⟩
theorem cvL_61 : zCv "MeshRouterLaw" "MeshRouterModel" 61 yX11_request cX11_request 7 2 10 (some .int) := ⟨⟨List.mem_of_getElem? (i := 1061) (by decide +kernel), rfl⟩, ⟨List.mem_of_getElem? (i := 72) (by decide +kernel), rfl⟩, ⟨List.mem_of_getElem? (i := 1058) (by decide +kernel), rfl⟩, ⟨List.mem_of_getElem? (i := 1059) (by decide +kernel), rfl⟩, ⟨List.mem_of_getElem? (i := 1060) (by decide +kernel), rfl⟩, by decide +kernel, _, _, rfl⟩
theorem cvL_62 : zCv "MeshRouterLaw" "MeshRouter" 62 yX10_foresee cX10_foresee 4 2 9 (some .int) := ⟨⟨List.mem_of_getElem? (i := 763) (by decide +kernel), rfl⟩, ⟨List.mem_of_getElem? (i := 61) (by decide +kernel), rfl⟩, ⟨List.mem_of_getElem? (i := 760) (by decide +kernel), rfl⟩, ⟨List.mem_of_getElem? (i := 761) (by decide +kernel), rfl⟩, ⟨List.mem_of_getElem? (i := 762) (by decide +kernel), rfl⟩, by decide +kernel, _, _, rfl⟩
theorem cvL_65 : zCv "MeshRouterLaw" "MeshRouterModel" 65 yX11_foresee cX11_foresee 5 2 10 (some .int) := ⟨⟨List.mem_of_getElem? (i := 1125) (by decide +kernel), rfl⟩, ⟨List.mem_of_getElem? (i := 72) (by decide +kernel), rfl⟩, ⟨List.mem_of_getElem? (i := 1122) (by decide +kernel), rfl⟩, ⟨List.mem_of_getElem? (i := 1123) (by decide +kernel), rfl⟩, ⟨List.mem_of_getElem? (i := 1124) (by decide +kernel), rfl⟩, by decide +kernel, _, _, rfl⟩
theorem cvL_66 : zCv "MeshRouterLaw" "MeshRouter" 66 yX10_tick cX10_tick 3 1 9 (some .int) := ⟨⟨List.mem_of_getElem? (i := 779) (by decide +kernel), rfl⟩, ⟨List.mem_of_getElem? (i := 61) (by decide +kernel), rfl⟩, ⟨List.mem_of_getElem? (i := 776) (by decide +kernel), rfl⟩, ⟨List.mem_of_getElem? (i := 777) (by decide +kernel), rfl⟩, ⟨List.mem_of_getElem? (i := 778) (by decide +kernel), rfl⟩, by decide +kernel, _, _, rfl⟩
theorem cvL_69 : zCv "MeshRouterLaw" "MeshRouterModel" 69 yX11_tick cX11_tick 3 1 10 (some .int) := ⟨⟨List.mem_of_getElem? (i := 1132) (by decide +kernel), rfl⟩, ⟨List.mem_of_getElem? (i := 72) (by decide +kernel), rfl⟩, ⟨List.mem_of_getElem? (i := 1129) (by decide +kernel), rfl⟩, ⟨List.mem_of_getElem? (i := 1130) (by decide +kernel), rfl⟩, ⟨List.mem_of_getElem? (i := 1131) (by decide +kernel), rfl⟩, by decide +kernel, _, _, rfl⟩
theorem cvL_70 : zCv "MeshRouterLaw" "MeshRouter" 70 yX10_backend cX10_backend 3 2 9 (some .int) := ⟨⟨List.mem_of_getElem? (i := 791) (by decide +kernel), rfl⟩, ⟨List.mem_of_getElem? (i := 61) (by decide +kernel), rfl⟩, ⟨List.mem_of_getElem? (i := 788) (by decide +kernel), rfl⟩, ⟨List.mem_of_getElem? (i := 789) (by decide +kernel), rfl⟩, ⟨List.mem_of_getElem? (i := 790) (by decide +kernel), rfl⟩, by decide +kernel, _, _, rfl⟩
theorem cvL_73 : zCv "MeshRouterLaw" "MeshRouterModel" 73 yX11_backend cX11_backend 3 2 10 (some .int) := ⟨⟨List.mem_of_getElem? (i := 1140) (by decide +kernel), rfl⟩, ⟨List.mem_of_getElem? (i := 72) (by decide +kernel), rfl⟩, ⟨List.mem_of_getElem? (i := 1137) (by decide +kernel), rfl⟩, ⟨List.mem_of_getElem? (i := 1138) (by decide +kernel), rfl⟩, ⟨List.mem_of_getElem? (i := 1139) (by decide +kernel), rfl⟩, by decide +kernel, _, _, rfl⟩
theorem cvL_74 : zCv "MeshRouterLaw" "MeshRouter" 74 yX10_service cX10_service 3 2 9 (some .int) := ⟨⟨List.mem_of_getElem? (i := 799) (by decide +kernel), rfl⟩, ⟨List.mem_of_getElem? (i := 61) (by decide +kernel), rfl⟩, ⟨List.mem_of_getElem? (i := 796) (by decide +kernel), rfl⟩, ⟨List.mem_of_getElem? (i := 797) (by decide +kernel), rfl⟩, ⟨List.mem_of_getElem? (i := 798) (by decide +kernel), rfl⟩, by decide +kernel, _, _, rfl⟩
theorem cvL_77 : zCv "MeshRouterLaw" "MeshRouterModel" 77 yX11_service cX11_service 4 2 10 (some .int) := ⟨⟨List.mem_of_getElem? (i := 1144) (by decide +kernel), rfl⟩, ⟨List.mem_of_getElem? (i := 72) (by decide +kernel), rfl⟩, ⟨List.mem_of_getElem? (i := 1141) (by decide +kernel), rfl⟩, ⟨List.mem_of_getElem? (i := 1142) (by decide +kernel), rfl⟩, ⟨List.mem_of_getElem? (i := 1143) (by decide +kernel), rfl⟩, by decide +kernel, _, _, rfl⟩
theorem cvL_78 : zCv "MeshRouterLaw" "MeshRouter" 78 yX10_remembered cX10_remembered 3 2 9 (some .int) := ⟨⟨List.mem_of_getElem? (i := 807) (by decide +kernel), rfl⟩, ⟨List.mem_of_getElem? (i := 61) (by decide +kernel), rfl⟩, ⟨List.mem_of_getElem? (i := 804) (by decide +kernel), rfl⟩, ⟨List.mem_of_getElem? (i := 805) (by decide +kernel), rfl⟩, ⟨List.mem_of_getElem? (i := 806) (by decide +kernel), rfl⟩, by decide +kernel, _, _, rfl⟩
theorem cvL_81 : zCv "MeshRouterLaw" "MeshRouterModel" 81 yX11_remembered cX11_remembered 3 2 10 (some .int) := ⟨⟨List.mem_of_getElem? (i := 1152) (by decide +kernel), rfl⟩, ⟨List.mem_of_getElem? (i := 72) (by decide +kernel), rfl⟩, ⟨List.mem_of_getElem? (i := 1149) (by decide +kernel), rfl⟩, ⟨List.mem_of_getElem? (i := 1150) (by decide +kernel), rfl⟩, ⟨List.mem_of_getElem? (i := 1151) (by decide +kernel), rfl⟩, by decide +kernel, _, _, rfl⟩
theorem cvL_82 : zCv "MeshRouterLaw" "MeshRouter" 82 yX10_target cX10_target 4 3 9 (some .int) := ⟨⟨List.mem_of_getElem? (i := 811) (by decide +kernel), rfl⟩, ⟨List.mem_of_getElem? (i := 61) (by decide +kernel), rfl⟩, ⟨List.mem_of_getElem? (i := 808) (by decide +kernel), rfl⟩, ⟨List.mem_of_getElem? (i := 809) (by decide +kernel), rfl⟩, ⟨List.mem_of_getElem? (i := 810) (by decide +kernel), rfl⟩, by decide +kernel, _, _, rfl⟩
theorem cvL_85 : zCv "MeshRouterLaw" "MeshRouterModel" 85 yX11_target_ cX11_target_ 4 3 10 (some .int) := ⟨⟨List.mem_of_getElem? (i := 1156) (by decide +kernel), rfl⟩, ⟨List.mem_of_getElem? (i := 72) (by decide +kernel), rfl⟩, ⟨List.mem_of_getElem? (i := 1153) (by decide +kernel), rfl⟩, ⟨List.mem_of_getElem? (i := 1154) (by decide +kernel), rfl⟩, ⟨List.mem_of_getElem? (i := 1155) (by decide +kernel), rfl⟩, by decide +kernel, _, _, rfl⟩
theorem cvL_86 : zCv "MeshRouterLaw" "MeshRouter" 86 yX10_trace cX10_trace 3 2 9 (some .int) := ⟨⟨List.mem_of_getElem? (i := 819) (by decide +kernel), rfl⟩, ⟨List.mem_of_getElem? (i := 61) (by decide +kernel), rfl⟩, ⟨List.mem_of_getElem? (i := 816) (by decide +kernel), rfl⟩, ⟨List.mem_of_getElem? (i := 817) (by decide +kernel), rfl⟩, ⟨List.mem_of_getElem? (i := 818) (by decide +kernel), rfl⟩, by decide +kernel, _, _, rfl⟩
theorem cvL_89 : zCv "MeshRouterLaw" "MeshRouterModel" 89 yX11_trace cX11_trace 3 2 10 (some .int) := ⟨⟨List.mem_of_getElem? (i := 1160) (by decide +kernel), rfl⟩, ⟨List.mem_of_getElem? (i := 72) (by decide +kernel), rfl⟩, ⟨List.mem_of_getElem? (i := 1157) (by decide +kernel), rfl⟩, ⟨List.mem_of_getElem? (i := 1158) (by decide +kernel), rfl⟩, ⟨List.mem_of_getElem? (i := 1159) (by decide +kernel), rfl⟩, by decide +kernel, _, _, rfl⟩
theorem cvL_90 : zCv "MeshRouterLaw" "MeshRouter" 90 yX10_count cX10_count 2 1 9 (some .int) := ⟨⟨List.mem_of_getElem? (i := 823) (by decide +kernel), rfl⟩, ⟨List.mem_of_getElem? (i := 61) (by decide +kernel), rfl⟩, ⟨List.mem_of_getElem? (i := 820) (by decide +kernel), rfl⟩, ⟨List.mem_of_getElem? (i := 821) (by decide +kernel), rfl⟩, ⟨List.mem_of_getElem? (i := 822) (by decide +kernel), rfl⟩, by decide +kernel, _, _, rfl⟩
theorem cvL_93 : zCv "MeshRouterLaw" "MeshRouterModel" 93 yX11_count cX11_count 2 1 10 (some .int) := ⟨⟨List.mem_of_getElem? (i := 1164) (by decide +kernel), rfl⟩, ⟨List.mem_of_getElem? (i := 72) (by decide +kernel), rfl⟩, ⟨List.mem_of_getElem? (i := 1161) (by decide +kernel), rfl⟩, ⟨List.mem_of_getElem? (i := 1162) (by decide +kernel), rfl⟩, ⟨List.mem_of_getElem? (i := 1163) (by decide +kernel), rfl⟩, by decide +kernel, _, _, rfl⟩
theorem cvL_94 : zCv "MeshRouterLaw" "MeshRouter" 94 yX10_print cX10_print 2 1 9 (some .int) := ⟨⟨List.mem_of_getElem? (i := 831) (by decide +kernel), rfl⟩, ⟨List.mem_of_getElem? (i := 61) (by decide +kernel), rfl⟩, ⟨List.mem_of_getElem? (i := 828) (by decide +kernel), rfl⟩, ⟨List.mem_of_getElem? (i := 829) (by decide +kernel), rfl⟩, ⟨List.mem_of_getElem? (i := 830) (by decide +kernel), rfl⟩, by decide +kernel, _, _, rfl⟩
theorem cvL_97 : zCv "MeshRouterLaw" "MeshRouterModel" 97 yX11_print cX11_print 4 1 10 (some .int) := ⟨⟨List.mem_of_getElem? (i := 1168) (by decide +kernel), rfl⟩, ⟨List.mem_of_getElem? (i := 72) (by decide +kernel), rfl⟩, ⟨List.mem_of_getElem? (i := 1165) (by decide +kernel), rfl⟩, ⟨List.mem_of_getElem? (i := 1166) (by decide +kernel), rfl⟩, ⟨List.mem_of_getElem? (i := 1167) (by decide +kernel), rfl⟩, by decide +kernel, _, _, rfl⟩
theorem cvL_98 : zCv "MeshRouterLaw" "MeshRouter" 98 yX10_printed cX10_printed 2 1 9 (some .int) := ⟨⟨List.mem_of_getElem? (i := 844) (by decide +kernel), rfl⟩, ⟨List.mem_of_getElem? (i := 61) (by decide +kernel), rfl⟩, ⟨List.mem_of_getElem? (i := 841) (by decide +kernel), rfl⟩, ⟨List.mem_of_getElem? (i := 842) (by decide +kernel), rfl⟩, ⟨List.mem_of_getElem? (i := 843) (by decide +kernel), rfl⟩, by decide +kernel, _, _, rfl⟩
theorem cvL_101 : zCv "MeshRouterLaw" "MeshRouterModel" 101 yX11_printed cX11_printed 2 1 10 (some .int) := ⟨⟨List.mem_of_getElem? (i := 1180) (by decide +kernel), rfl⟩, ⟨List.mem_of_getElem? (i := 72) (by decide +kernel), rfl⟩, ⟨List.mem_of_getElem? (i := 1177) (by decide +kernel), rfl⟩, ⟨List.mem_of_getElem? (i := 1178) (by decide +kernel), rfl⟩, ⟨List.mem_of_getElem? (i := 1179) (by decide +kernel), rfl⟩, by decide +kernel, _, _, rfl⟩
theorem cvL_102 : zCv "MeshRouterLaw" "MeshRouter" 102 yX10_mark cX10_mark 1 0 9 (some .int) := ⟨⟨List.mem_of_getElem? (i := 849) (by decide +kernel), rfl⟩, ⟨List.mem_of_getElem? (i := 61) (by decide +kernel), rfl⟩, ⟨List.mem_of_getElem? (i := 846) (by decide +kernel), rfl⟩, ⟨List.mem_of_getElem? (i := 847) (by decide +kernel), rfl⟩, ⟨List.mem_of_getElem? (i := 848) (by decide +kernel), rfl⟩, by decide +kernel, _, _, rfl⟩
theorem cvL_105 : zCv "MeshRouterLaw" "MeshRouterModel" 105 yX11_mark cX11_mark 1 0 10 (some .int) := ⟨⟨List.mem_of_getElem? (i := 1184) (by decide +kernel), rfl⟩, ⟨List.mem_of_getElem? (i := 72) (by decide +kernel), rfl⟩, ⟨List.mem_of_getElem? (i := 1181) (by decide +kernel), rfl⟩, ⟨List.mem_of_getElem? (i := 1182) (by decide +kernel), rfl⟩, ⟨List.mem_of_getElem? (i := 1183) (by decide +kernel), rfl⟩, by decide +kernel, _, _, rfl⟩
theorem cvL_106 : zCv "MeshRouterLaw" "MeshRouter" 106 yX10_play cX10_play 3 1 9 (some .int) := ⟨⟨List.mem_of_getElem? (i := 857) (by decide +kernel), rfl⟩, ⟨List.mem_of_getElem? (i := 61) (by decide +kernel), rfl⟩, ⟨List.mem_of_getElem? (i := 854) (by decide +kernel), rfl⟩, ⟨List.mem_of_getElem? (i := 855) (by decide +kernel), rfl⟩, ⟨List.mem_of_getElem? (i := 856) (by decide +kernel), rfl⟩, by decide +kernel, _, _, rfl⟩
theorem cvL_109 : zCv "MeshRouterLaw" "MeshRouterModel" 109 yX11_play cX11_play 2 1 10 (some .int) := ⟨⟨List.mem_of_getElem? (i := 1188) (by decide +kernel), rfl⟩, ⟨List.mem_of_getElem? (i := 72) (by decide +kernel), rfl⟩, ⟨List.mem_of_getElem? (i := 1185) (by decide +kernel), rfl⟩, ⟨List.mem_of_getElem? (i := 1186) (by decide +kernel), rfl⟩, ⟨List.mem_of_getElem? (i := 1187) (by decide +kernel), rfl⟩, by decide +kernel, _, _, rfl⟩
theorem cvL_110 : zCv "MeshRouterLaw" "MeshRouter" 110 yX10_answeredIf cX10_answeredIf 3 1 9 (some .int) := ⟨⟨List.mem_of_getElem? (i := 878) (by decide +kernel), rfl⟩, ⟨List.mem_of_getElem? (i := 61) (by decide +kernel), rfl⟩, ⟨List.mem_of_getElem? (i := 875) (by decide +kernel), rfl⟩, ⟨List.mem_of_getElem? (i := 876) (by decide +kernel), rfl⟩, ⟨List.mem_of_getElem? (i := 877) (by decide +kernel), rfl⟩, by decide +kernel, _, _, rfl⟩
theorem cvL_113 : zCv "MeshRouterLaw" "MeshRouterModel" 113 yX11_answeredIf cX11_answeredIf 2 1 10 (some .int) := ⟨⟨List.mem_of_getElem? (i := 1196) (by decide +kernel), rfl⟩, ⟨List.mem_of_getElem? (i := 72) (by decide +kernel), rfl⟩, ⟨List.mem_of_getElem? (i := 1193) (by decide +kernel), rfl⟩, ⟨List.mem_of_getElem? (i := 1194) (by decide +kernel), rfl⟩, ⟨List.mem_of_getElem? (i := 1195) (by decide +kernel), rfl⟩, by decide +kernel, _, _, rfl⟩
theorem cvL_114 : zCv "MeshRouterLaw" "MeshRouter" 114 yX10_save cX10_save 1 0 9 (some .int) := ⟨⟨List.mem_of_getElem? (i := 886) (by decide +kernel), rfl⟩, ⟨List.mem_of_getElem? (i := 61) (by decide +kernel), rfl⟩, ⟨List.mem_of_getElem? (i := 883) (by decide +kernel), rfl⟩, ⟨List.mem_of_getElem? (i := 884) (by decide +kernel), rfl⟩, ⟨List.mem_of_getElem? (i := 885) (by decide +kernel), rfl⟩, by decide +kernel, _, _, rfl⟩
theorem cvL_117 : zCv "MeshRouterLaw" "MeshRouterModel" 117 yX11_save cX11_save 1 0 10 (some .int) := ⟨⟨List.mem_of_getElem? (i := 1200) (by decide +kernel), rfl⟩, ⟨List.mem_of_getElem? (i := 72) (by decide +kernel), rfl⟩, ⟨List.mem_of_getElem? (i := 1197) (by decide +kernel), rfl⟩, ⟨List.mem_of_getElem? (i := 1198) (by decide +kernel), rfl⟩, ⟨List.mem_of_getElem? (i := 1199) (by decide +kernel), rfl⟩, by decide +kernel, _, _, rfl⟩
theorem cvL_118 : zCv "MeshRouterLaw" "MeshRouter" 118 yX10_restore cX10_restore 1 0 9 (some .int) := ⟨⟨List.mem_of_getElem? (i := 890) (by decide +kernel), rfl⟩, ⟨List.mem_of_getElem? (i := 61) (by decide +kernel), rfl⟩, ⟨List.mem_of_getElem? (i := 887) (by decide +kernel), rfl⟩, ⟨List.mem_of_getElem? (i := 888) (by decide +kernel), rfl⟩, ⟨List.mem_of_getElem? (i := 889) (by decide +kernel), rfl⟩, by decide +kernel, _, _, rfl⟩
theorem cvL_121 : zCv "MeshRouterLaw" "MeshRouterModel" 121 yX11_restore cX11_restore 1 0 10 (some .int) := ⟨⟨List.mem_of_getElem? (i := 1204) (by decide +kernel), rfl⟩, ⟨List.mem_of_getElem? (i := 72) (by decide +kernel), rfl⟩, ⟨List.mem_of_getElem? (i := 1201) (by decide +kernel), rfl⟩, ⟨List.mem_of_getElem? (i := 1202) (by decide +kernel), rfl⟩, ⟨List.mem_of_getElem? (i := 1203) (by decide +kernel), rfl⟩, by decide +kernel, _, _, rfl⟩
section LA
variable {own : Nat → Nat} {P : zSt} {G : zC} {x y b L i B : Nat} {xs : Nat → Int32} {M : zM}
theorem arm_152 (ok : lCx P G x b L xs) (h9 : zT P 9 x) (h10 : zT P 10 y) (hi : i + 7 ≤ L) (hB : B + 400 < 1000000) (hR : REL own P x y B M) (next : ∀ M, REL own P x y (B + 5) M → lAt P G x M 902 [(3, .int (nI i)), (2, .ref y), (1, .ref x), (0, .ref b)] []) : lAt P G x M 152 [(3, .int (nI i)), (2, .ref y), (1, .ref x), (0, .ref b)] [] := by
  obtain ⟨r, m1, m2, e1, e2, e3⟩ := (L_addBackend : Call own P x y (f_X10_addBackend P x (xs (i + 1)) (xs (i + 2)) (xs (i + 3))) (f_X11_addBackend P y (xs (i + 1)) (xs (i + 2)) (xs (i + 3)))) B M hB hR
  refine l_aload_n ok 2 dL_law_152 rfl ?_
  refine l_par ok (k := 1) (by omega) dL_law_153 dL_law_154 dL_law_155 rfl dL_law_156 dL_law_157 ?_
  refine l_par ok (k := 2) (by omega) dL_law_158 dL_law_159 dL_law_160 rfl dL_law_161 dL_law_162 ?_
  refine l_par ok (k := 3) (by omega) dL_law_163 dL_law_164 dL_law_165 rfl dL_law_166 dL_law_167 ?_
  refine l_call ok (n := 3) [.int (xs (i + 1)), .int (xs (i + 2)), .int (xs (i + 3))] (m_X10_addBackend _ ok.p h9) cvL_13 h9 rfl (by decide) rfl (Nat.le_of_ble_eq_true rfl) e1 dL_law_168 ?_
  refine l_aload_n ok 1 dL_law_171 rfl ?_
  refine l_par ok (k := 1) (by omega) dL_law_172 dL_law_173 dL_law_174 rfl dL_law_175 dL_law_176 ?_
  refine l_par ok (k := 2) (by omega) dL_law_177 dL_law_178 dL_law_179 rfl dL_law_180 dL_law_181 ?_
  refine l_par ok (k := 3) (by omega) dL_law_182 dL_law_183 dL_law_184 rfl dL_law_185 dL_law_186 ?_
  refine l_call ok (n := 3) [.int (xs (i + 1)), .int (xs (i + 2)), .int (xs (i + 3))] (m_X11_addBackend _ ok.p h10) cvL_17 h10 rfl (by decide) rfl (Nat.le_of_ble_eq_true rfl) e2 dL_law_187 ?_
  exact l_icmp_eq ok 902 dL_law_190 rfl (next m2 e3)
theorem arm_195 (ok : lCx P G x b L xs) (h9 : zT P 9 x) (h10 : zT P 10 y) (hi : i + 7 ≤ L) (hB : B + 400 < 1000000) (hR : REL own P x y B M) (next : ∀ M, REL own P x y (B + 5) M → lAt P G x M 902 [(3, .int (nI i)), (2, .ref y), (1, .ref x), (0, .ref b)] []) : lAt P G x M 195 [(3, .int (nI i)), (2, .ref y), (1, .ref x), (0, .ref b)] [] := by
  obtain ⟨r, m1, m2, e1, e2, e3⟩ := (L_setWeight : Call own P x y (f_X10_setWeight P x (xs (i + 1)) (xs (i + 2))) (f_X11_setWeight P y (xs (i + 1)) (xs (i + 2)))) B M hB hR
  refine l_aload_n ok 2 dL_law_195 rfl ?_
  refine l_par ok (k := 1) (by omega) dL_law_196 dL_law_197 dL_law_198 rfl dL_law_199 dL_law_200 ?_
  refine l_par ok (k := 2) (by omega) dL_law_201 dL_law_202 dL_law_203 rfl dL_law_204 dL_law_205 ?_
  refine l_call ok (n := 2) [.int (xs (i + 1)), .int (xs (i + 2))] (m_X10_setWeight _ ok.p h9) cvL_18 h9 rfl (by decide) rfl (Nat.le_of_ble_eq_true rfl) e1 dL_law_206 ?_
  refine l_aload_n ok 1 dL_law_209 rfl ?_
  refine l_par ok (k := 1) (by omega) dL_law_210 dL_law_211 dL_law_212 rfl dL_law_213 dL_law_214 ?_
  refine l_par ok (k := 2) (by omega) dL_law_215 dL_law_216 dL_law_217 rfl dL_law_218 dL_law_219 ?_
  refine l_call ok (n := 2) [.int (xs (i + 1)), .int (xs (i + 2))] (m_X11_setWeight _ ok.p h10) cvL_22 h10 rfl (by decide) rfl (Nat.le_of_ble_eq_true rfl) e2 dL_law_220 ?_
  exact l_icmp_eq ok 902 dL_law_223 rfl (next m2 e3)
theorem arm_228 (ok : lCx P G x b L xs) (h9 : zT P 9 x) (h10 : zT P 10 y) (hi : i + 7 ≤ L) (hB : B + 400 < 1000000) (hR : REL own P x y B M) (next : ∀ M, REL own P x y (B + 5) M → lAt P G x M 902 [(3, .int (nI i)), (2, .ref y), (1, .ref x), (0, .ref b)] []) : lAt P G x M 228 [(3, .int (nI i)), (2, .ref y), (1, .ref x), (0, .ref b)] [] := by
  obtain ⟨r, m1, m2, e1, e2, e3⟩ := (L_setPattern : Call own P x y (f_X10_setPattern P x (xs (i + 1)) (xs (i + 2))) (f_X11_setPattern P y (xs (i + 1)) (xs (i + 2)))) B M hB hR
  refine l_aload_n ok 2 dL_law_228 rfl ?_
  refine l_par ok (k := 1) (by omega) dL_law_229 dL_law_230 dL_law_231 rfl dL_law_232 dL_law_233 ?_
  refine l_par ok (k := 2) (by omega) dL_law_234 dL_law_235 dL_law_236 rfl dL_law_237 dL_law_238 ?_
  refine l_call ok (n := 2) [.int (xs (i + 1)), .int (xs (i + 2))] (m_X10_setPattern _ ok.p h9) cvL_23 h9 rfl (by decide) rfl (Nat.le_of_ble_eq_true rfl) e1 dL_law_239 ?_
  refine l_aload_n ok 1 dL_law_242 rfl ?_
  refine l_par ok (k := 1) (by omega) dL_law_243 dL_law_244 dL_law_245 rfl dL_law_246 dL_law_247 ?_
  refine l_par ok (k := 2) (by omega) dL_law_248 dL_law_249 dL_law_250 rfl dL_law_251 dL_law_252 ?_
  refine l_call ok (n := 2) [.int (xs (i + 1)), .int (xs (i + 2))] (m_X11_setPattern _ ok.p h10) cvL_26 h10 rfl (by decide) rfl (Nat.le_of_ble_eq_true rfl) e2 dL_law_253 ?_
  exact l_icmp_eq ok 902 dL_law_256 rfl (next m2 e3)
theorem arm_261 (ok : lCx P G x b L xs) (h9 : zT P 9 x) (h10 : zT P 10 y) (hi : i + 7 ≤ L) (hB : B + 400 < 1000000) (hR : REL own P x y B M) (next : ∀ M, REL own P x y (B + 5) M → lAt P G x M 902 [(3, .int (nI i)), (2, .ref y), (1, .ref x), (0, .ref b)] []) : lAt P G x M 261 [(3, .int (nI i)), (2, .ref y), (1, .ref x), (0, .ref b)] [] := by
  obtain ⟨r, m1, m2, e1, e2, e3⟩ := (L_configure : Call own P x y (f_X10_configure P x (xs (i + 1)) (xs (i + 2)) (xs (i + 3)) (xs (i + 4)) (xs (i + 5)) (xs (i + 6))) (f_X11_configure P y (xs (i + 1)) (xs (i + 2)) (xs (i + 3)) (xs (i + 4)) (xs (i + 5)) (xs (i + 6)))) B M hB hR
  refine l_aload_n ok 2 dL_law_261 rfl ?_
  refine l_par ok (k := 1) (by omega) dL_law_262 dL_law_263 dL_law_264 rfl dL_law_265 dL_law_266 ?_
  refine l_par ok (k := 2) (by omega) dL_law_267 dL_law_268 dL_law_269 rfl dL_law_270 dL_law_271 ?_
  refine l_par ok (k := 3) (by omega) dL_law_272 dL_law_273 dL_law_274 rfl dL_law_275 dL_law_276 ?_
  refine l_par ok (k := 4) (by omega) dL_law_277 dL_law_278 dL_law_279 rfl dL_law_280 dL_law_281 ?_
  refine l_par ok (k := 5) (by omega) dL_law_282 dL_law_283 dL_law_284 rfl dL_law_285 dL_law_286 ?_
  refine l_parb ok (k := 6) (by omega) dL_law_287 dL_law_288 dL_law_289 rfl dL_law_291 dL_law_292 ?_
  refine l_call ok (n := 6) [.int (xs (i + 1)), .int (xs (i + 2)), .int (xs (i + 3)), .int (xs (i + 4)), .int (xs (i + 5)), .int (xs (i + 6))] (m_X10_configure _ ok.p h9) cvL_27 h9 rfl (by decide) rfl (Nat.le_of_ble_eq_true rfl) e1 dL_law_293 ?_
  refine l_aload_n ok 1 dL_law_296 rfl ?_
  refine l_par ok (k := 1) (by omega) dL_law_297 dL_law_298 dL_law_299 rfl dL_law_300 dL_law_301 ?_
  refine l_par ok (k := 2) (by omega) dL_law_302 dL_law_303 dL_law_304 rfl dL_law_305 dL_law_306 ?_
  refine l_par ok (k := 3) (by omega) dL_law_307 dL_law_308 dL_law_309 rfl dL_law_310 dL_law_311 ?_
  refine l_par ok (k := 4) (by omega) dL_law_312 dL_law_313 dL_law_314 rfl dL_law_315 dL_law_316 ?_
  refine l_par ok (k := 5) (by omega) dL_law_317 dL_law_318 dL_law_319 rfl dL_law_320 dL_law_321 ?_
  refine l_parb ok (k := 6) (by omega) dL_law_322 dL_law_323 dL_law_324 rfl dL_law_326 dL_law_327 ?_
  refine l_call ok (n := 6) [.int (xs (i + 1)), .int (xs (i + 2)), .int (xs (i + 3)), .int (xs (i + 4)), .int (xs (i + 5)), .int (xs (i + 6))] (m_X11_configure _ ok.p h10) cvL_31 h10 rfl (by decide) rfl (Nat.le_of_ble_eq_true rfl) e2 dL_law_328 ?_
  exact l_icmp_eq ok 902 dL_law_331 rfl (next m2 e3)
theorem arm_336 (ok : lCx P G x b L xs) (h9 : zT P 9 x) (h10 : zT P 10 y) (hi : i + 7 ≤ L) (hB : B + 400 < 1000000) (hR : REL own P x y B M) (next : ∀ M, REL own P x y (B + 5) M → lAt P G x M 902 [(3, .int (nI i)), (2, .ref y), (1, .ref x), (0, .ref b)] []) : lAt P G x M 336 [(3, .int (nI i)), (2, .ref y), (1, .ref x), (0, .ref b)] [] := by
  obtain ⟨r, m1, m2, e1, e2, e3⟩ := (L_setZoneLimit : Call own P x y (f_X10_setZoneLimit P x (xs (i + 1))) (f_X11_setZoneLimit P y (xs (i + 1)))) B M hB hR
  refine l_aload_n ok 2 dL_law_336 rfl ?_
  refine l_par ok (k := 1) (by omega) dL_law_337 dL_law_338 dL_law_339 rfl dL_law_340 dL_law_341 ?_
  refine l_call ok (n := 1) [.int (xs (i + 1))] (m_X10_setZoneLimit _ ok.p h9) cvL_32 h9 rfl (by decide) rfl (Nat.le_of_ble_eq_true rfl) e1 dL_law_342 ?_
  refine l_aload_n ok 1 dL_law_345 rfl ?_
  refine l_par ok (k := 1) (by omega) dL_law_346 dL_law_347 dL_law_348 rfl dL_law_349 dL_law_350 ?_
  refine l_call ok (n := 1) [.int (xs (i + 1))] (m_X11_setZoneLimit _ ok.p h10) cvL_36 h10 rfl (by decide) rfl (Nat.le_of_ble_eq_true rfl) e2 dL_law_351 ?_
  exact l_icmp_eq ok 902 dL_law_354 rfl (next m2 e3)
theorem arm_359 (ok : lCx P G x b L xs) (h9 : zT P 9 x) (h10 : zT P 10 y) (hi : i + 7 ≤ L) (hB : B + 400 < 1000000) (hR : REL own P x y B M) (next : ∀ M, REL own P x y (B + 5) M → lAt P G x M 902 [(3, .int (nI i)), (2, .ref y), (1, .ref x), (0, .ref b)] []) : lAt P G x M 359 [(3, .int (nI i)), (2, .ref y), (1, .ref x), (0, .ref b)] [] := by
  obtain ⟨r, m1, m2, e1, e2, e3⟩ := (L_append : Call own P x y (f_X10_append P x (xs (i + 1)) (xs (i + 2))) (f_X11_append P y (xs (i + 1)) (xs (i + 2)))) B M hB hR
  refine l_aload_n ok 2 dL_law_359 rfl ?_
  refine l_par ok (k := 1) (by omega) dL_law_360 dL_law_361 dL_law_362 rfl dL_law_363 dL_law_364 ?_
  refine l_par ok (k := 2) (by omega) dL_law_365 dL_law_366 dL_law_367 rfl dL_law_368 dL_law_369 ?_
  refine l_call ok (n := 2) [.int (xs (i + 1)), .int (xs (i + 2))] (m_X10_append _ ok.p h9) cvL_37 h9 rfl (by decide) rfl (Nat.le_of_ble_eq_true rfl) e1 dL_law_370 ?_
  refine l_aload_n ok 1 dL_law_373 rfl ?_
  refine l_par ok (k := 1) (by omega) dL_law_374 dL_law_375 dL_law_376 rfl dL_law_377 dL_law_378 ?_
  refine l_par ok (k := 2) (by omega) dL_law_379 dL_law_380 dL_law_381 rfl dL_law_382 dL_law_383 ?_
  refine l_call ok (n := 2) [.int (xs (i + 1)), .int (xs (i + 2))] (m_X11_append _ ok.p h10) cvL_40 h10 rfl (by decide) rfl (Nat.le_of_ble_eq_true rfl) e2 dL_law_384 ?_
  exact l_icmp_eq ok 902 dL_law_387 rfl (next m2 e3)
theorem arm_392 (ok : lCx P G x b L xs) (h9 : zT P 9 x) (h10 : zT P 10 y) (hi : i + 7 ≤ L) (hB : B + 400 < 1000000) (hR : REL own P x y B M) (next : ∀ M, REL own P x y (B + 5) M → lAt P G x M 902 [(3, .int (nI i)), (2, .ref y), (1, .ref x), (0, .ref b)] []) : lAt P G x M 392 [(3, .int (nI i)), (2, .ref y), (1, .ref x), (0, .ref b)] [] := by
  obtain ⟨r, m1, m2, e1, e2, e3⟩ := (L_addRule : Call own P x y (f_X10_addRule P x) (f_X11_addRule P y)) B M hB hR
  refine l_aload_n ok 2 dL_law_392 rfl ?_
  refine l_call ok (n := 0) [] (m_X10_addRule _ ok.p h9) cvL_41 h9 rfl (by decide) rfl (Nat.le_of_ble_eq_true rfl) e1 dL_law_393 ?_
  refine l_aload_n ok 1 dL_law_396 rfl ?_
  refine l_call ok (n := 0) [] (m_X11_addRule _ ok.p h10) cvL_45 h10 rfl (by decide) rfl (Nat.le_of_ble_eq_true rfl) e2 dL_law_397 ?_
  exact l_icmp_eq ok 902 dL_law_400 rfl (next m2 e3)
theorem arm_405 (ok : lCx P G x b L xs) (h9 : zT P 9 x) (h10 : zT P 10 y) (hi : i + 7 ≤ L) (hB : B + 400 < 1000000) (hR : REL own P x y B M) (next : ∀ M, REL own P x y (B + 5) M → lAt P G x M 902 [(3, .int (nI i)), (2, .ref y), (1, .ref x), (0, .ref b)] []) : lAt P G x M 405 [(3, .int (nI i)), (2, .ref y), (1, .ref x), (0, .ref b)] [] := by
  obtain ⟨r, m1, m2, e1, e2, e3⟩ := (L_removeRule : Call own P x y (f_X10_removeRule P x (xs (i + 1))) (f_X11_removeRule P y (xs (i + 1)))) B M hB hR
  refine l_aload_n ok 2 dL_law_405 rfl ?_
  refine l_par ok (k := 1) (by omega) dL_law_406 dL_law_407 dL_law_408 rfl dL_law_409 dL_law_410 ?_
  refine l_call ok (n := 1) [.int (xs (i + 1))] (m_X10_removeRule _ ok.p h9) cvL_46 h9 rfl (by decide) rfl (Nat.le_of_ble_eq_true rfl) e1 dL_law_411 ?_
  refine l_aload_n ok 1 dL_law_414 rfl ?_
  refine l_par ok (k := 1) (by omega) dL_law_415 dL_law_416 dL_law_417 rfl dL_law_418 dL_law_419 ?_
  refine l_call ok (n := 1) [.int (xs (i + 1))] (m_X11_removeRule _ ok.p h10) cvL_49 h10 rfl (by decide) rfl (Nat.le_of_ble_eq_true rfl) e2 dL_law_420 ?_
  exact l_icmp_eq ok 902 dL_law_423 rfl (next m2 e3)
theorem arm_428 (ok : lCx P G x b L xs) (h9 : zT P 9 x) (h10 : zT P 10 y) (hi : i + 7 ≤ L) (hB : B + 400 < 1000000) (hR : REL own P x y B M) (next : ∀ M, REL own P x y (B + 5) M → lAt P G x M 902 [(3, .int (nI i)), (2, .ref y), (1, .ref x), (0, .ref b)] []) : lAt P G x M 428 [(3, .int (nI i)), (2, .ref y), (1, .ref x), (0, .ref b)] [] := by
  obtain ⟨r, m1, m2, e1, e2, e3⟩ := (L_moveRule : Call own P x y (f_X10_moveRule P x (xs (i + 1)) (xs (i + 2))) (f_X11_moveRule P y (xs (i + 1)) (xs (i + 2)))) B M hB hR
  refine l_aload_n ok 2 dL_law_428 rfl ?_
  refine l_par ok (k := 1) (by omega) dL_law_429 dL_law_430 dL_law_431 rfl dL_law_432 dL_law_433 ?_
  refine l_par ok (k := 2) (by omega) dL_law_434 dL_law_435 dL_law_436 rfl dL_law_437 dL_law_438 ?_
  refine l_call ok (n := 2) [.int (xs (i + 1)), .int (xs (i + 2))] (m_X10_moveRule _ ok.p h9) cvL_50 h9 rfl (by decide) rfl (Nat.le_of_ble_eq_true rfl) e1 dL_law_439 ?_
  refine l_aload_n ok 1 dL_law_442 rfl ?_
  refine l_par ok (k := 1) (by omega) dL_law_443 dL_law_444 dL_law_445 rfl dL_law_446 dL_law_447 ?_
  refine l_par ok (k := 2) (by omega) dL_law_448 dL_law_449 dL_law_450 rfl dL_law_451 dL_law_452 ?_
  refine l_call ok (n := 2) [.int (xs (i + 1)), .int (xs (i + 2))] (m_X11_moveRule _ ok.p h10) cvL_53 h10 rfl (by decide) rfl (Nat.le_of_ble_eq_true rfl) e2 dL_law_453 ?_
  exact l_icmp_eq ok 902 dL_law_456 rfl (next m2 e3)
theorem arm_461 (ok : lCx P G x b L xs) (h9 : zT P 9 x) (h10 : zT P 10 y) (hi : i + 7 ≤ L) (hB : B + 400 < 1000000) (hR : REL own P x y B M) (next : ∀ M, REL own P x y (B + 5) M → lAt P G x M 902 [(3, .int (nI i)), (2, .ref y), (1, .ref x), (0, .ref b)] []) : lAt P G x M 461 [(3, .int (nI i)), (2, .ref y), (1, .ref x), (0, .ref b)] [] := by
  obtain ⟨r, m1, m2, e1, e2, e3⟩ := (L_match : Call own P x y (f_X10_match P x (xs (i + 1))) (f_X11_match P y (xs (i + 1)))) B M hB hR
  refine l_aload_n ok 2 dL_law_461 rfl ?_
  refine l_par ok (k := 1) (by omega) dL_law_462 dL_law_463 dL_law_464 rfl dL_law_465 dL_law_466 ?_
  refine l_call ok (n := 1) [.int (xs (i + 1))] (m_X10_match _ ok.p h9) cvL_54 h9 rfl (by decide) rfl (Nat.le_of_ble_eq_true rfl) e1 dL_law_467 ?_
  refine l_aload_n ok 1 dL_law_470 rfl ?_
  refine l_par ok (k := 1) (by omega) dL_law_471 dL_law_472 dL_law_473 rfl dL_law_474 dL_law_475 ?_
  refine l_call ok (n := 1) [.int (xs (i + 1))] (m_X11_match _ ok.p h10) cvL_57 h10 rfl (by decide) rfl (Nat.le_of_ble_eq_true rfl) e2 dL_law_476 ?_
  exact l_icmp_eq ok 902 dL_law_479 rfl (next m2 e3)
theorem arm_484 (ok : lCx P G x b L xs) (h9 : zT P 9 x) (h10 : zT P 10 y) (hi : i + 7 ≤ L) (hB : B + 400 < 1000000) (hR : REL own P x y B M) (next : ∀ M, REL own P x y (B + 5) M → lAt P G x M 902 [(3, .int (nI i)), (2, .ref y), (1, .ref x), (0, .ref b)] []) : lAt P G x M 484 [(3, .int (nI i)), (2, .ref y), (1, .ref x), (0, .ref b)] [] := by
  obtain ⟨r, m1, m2, e1, e2, e3⟩ := (L_request : Call own P x y (f_X10_request P x (xs (i + 1)) (xs (i + 2))) (f_X11_request P y (xs (i + 1)) (xs (i + 2)))) B M hB hR
  refine l_aload_n ok 2 dL_law_484 rfl ?_
  refine l_par ok (k := 1) (by omega) dL_law_485 dL_law_486 dL_law_487 rfl dL_law_488 dL_law_489 ?_
  refine l_par ok (k := 2) (by omega) dL_law_490 dL_law_491 dL_law_492 rfl dL_law_493 dL_law_494 ?_
  refine l_call ok (n := 2) [.int (xs (i + 1)), .int (xs (i + 2))] (m_X10_request _ ok.p h9) cvL_58 h9 rfl (by decide) rfl (Nat.le_of_ble_eq_true rfl) e1 dL_law_495 ?_
  refine l_aload_n ok 1 dL_law_498 rfl ?_
  refine l_par ok (k := 1) (by omega) dL_law_499 dL_law_500 dL_law_501 rfl dL_law_502 dL_law_503 ?_
  refine l_par ok (k := 2) (by omega) dL_law_504 dL_law_505 dL_law_506 rfl dL_law_507 dL_law_508 ?_
  refine l_call ok (n := 2) [.int (xs (i + 1)), .int (xs (i + 2))] (m_X11_request _ ok.p h10) cvL_61 h10 rfl (by decide) rfl (Nat.le_of_ble_eq_true rfl) e2 dL_law_509 ?_
  exact l_icmp_eq ok 902 dL_law_512 rfl (next m2 e3)
theorem arm_517 (ok : lCx P G x b L xs) (h9 : zT P 9 x) (h10 : zT P 10 y) (hi : i + 7 ≤ L) (hB : B + 400 < 1000000) (hR : REL own P x y B M) (next : ∀ M, REL own P x y (B + 5) M → lAt P G x M 902 [(3, .int (nI i)), (2, .ref y), (1, .ref x), (0, .ref b)] []) : lAt P G x M 517 [(3, .int (nI i)), (2, .ref y), (1, .ref x), (0, .ref b)] [] := by
  obtain ⟨r, m1, m2, e1, e2, e3⟩ := (L_foresee : Call own P x y (f_X10_foresee P x (xs (i + 1)) (xs (i + 2))) (f_X11_foresee P y (xs (i + 1)) (xs (i + 2)))) B M hB hR
  refine l_aload_n ok 2 dL_law_517 rfl ?_
  refine l_par ok (k := 1) (by omega) dL_law_518 dL_law_519 dL_law_520 rfl dL_law_521 dL_law_522 ?_
  refine l_par ok (k := 2) (by omega) dL_law_523 dL_law_524 dL_law_525 rfl dL_law_526 dL_law_527 ?_
  refine l_call ok (n := 2) [.int (xs (i + 1)), .int (xs (i + 2))] (m_X10_foresee _ ok.p h9) cvL_62 h9 rfl (by decide) rfl (Nat.le_of_ble_eq_true rfl) e1 dL_law_528 ?_
  refine l_aload_n ok 1 dL_law_531 rfl ?_
  refine l_par ok (k := 1) (by omega) dL_law_532 dL_law_533 dL_law_534 rfl dL_law_535 dL_law_536 ?_
  refine l_par ok (k := 2) (by omega) dL_law_537 dL_law_538 dL_law_539 rfl dL_law_540 dL_law_541 ?_
  refine l_call ok (n := 2) [.int (xs (i + 1)), .int (xs (i + 2))] (m_X11_foresee _ ok.p h10) cvL_65 h10 rfl (by decide) rfl (Nat.le_of_ble_eq_true rfl) e2 dL_law_542 ?_
  exact l_icmp_eq ok 902 dL_law_545 rfl (next m2 e3)
theorem arm_550 (ok : lCx P G x b L xs) (h9 : zT P 9 x) (h10 : zT P 10 y) (hi : i + 7 ≤ L) (hB : B + 400 < 1000000) (hR : REL own P x y B M) (next : ∀ M, REL own P x y (B + 5) M → lAt P G x M 902 [(3, .int (nI i)), (2, .ref y), (1, .ref x), (0, .ref b)] []) : lAt P G x M 550 [(3, .int (nI i)), (2, .ref y), (1, .ref x), (0, .ref b)] [] := by
  obtain ⟨r, m1, m2, e1, e2, e3⟩ := (L_tick : Call own P x y (f_X10_tick P x (xs (i + 1))) (f_X11_tick P y (xs (i + 1)))) B M hB hR
  refine l_aload_n ok 2 dL_law_550 rfl ?_
  refine l_par ok (k := 1) (by omega) dL_law_551 dL_law_552 dL_law_553 rfl dL_law_554 dL_law_555 ?_
  refine l_call ok (n := 1) [.int (xs (i + 1))] (m_X10_tick _ ok.p h9) cvL_66 h9 rfl (by decide) rfl (Nat.le_of_ble_eq_true rfl) e1 dL_law_556 ?_
  refine l_aload_n ok 1 dL_law_559 rfl ?_
  refine l_par ok (k := 1) (by omega) dL_law_560 dL_law_561 dL_law_562 rfl dL_law_563 dL_law_564 ?_
  refine l_call ok (n := 1) [.int (xs (i + 1))] (m_X11_tick _ ok.p h10) cvL_69 h10 rfl (by decide) rfl (Nat.le_of_ble_eq_true rfl) e2 dL_law_565 ?_
  exact l_icmp_eq ok 902 dL_law_568 rfl (next m2 e3)
theorem arm_573 (ok : lCx P G x b L xs) (h9 : zT P 9 x) (h10 : zT P 10 y) (hi : i + 7 ≤ L) (hB : B + 400 < 1000000) (hR : REL own P x y B M) (next : ∀ M, REL own P x y (B + 5) M → lAt P G x M 902 [(3, .int (nI i)), (2, .ref y), (1, .ref x), (0, .ref b)] []) : lAt P G x M 573 [(3, .int (nI i)), (2, .ref y), (1, .ref x), (0, .ref b)] [] := by
  obtain ⟨r, m1, m2, e1, e2, e3⟩ := (L_backend : Call own P x y (f_X10_backend P x (xs (i + 1)) (xs (i + 2))) (f_X11_backend P y (xs (i + 1)) (xs (i + 2)))) B M hB hR
  refine l_aload_n ok 2 dL_law_573 rfl ?_
  refine l_par ok (k := 1) (by omega) dL_law_574 dL_law_575 dL_law_576 rfl dL_law_577 dL_law_578 ?_
  refine l_par ok (k := 2) (by omega) dL_law_579 dL_law_580 dL_law_581 rfl dL_law_582 dL_law_583 ?_
  refine l_call ok (n := 2) [.int (xs (i + 1)), .int (xs (i + 2))] (m_X10_backend _ ok.p h9) cvL_70 h9 rfl (by decide) rfl (Nat.le_of_ble_eq_true rfl) e1 dL_law_584 ?_
  refine l_aload_n ok 1 dL_law_587 rfl ?_
  refine l_par ok (k := 1) (by omega) dL_law_588 dL_law_589 dL_law_590 rfl dL_law_591 dL_law_592 ?_
  refine l_par ok (k := 2) (by omega) dL_law_593 dL_law_594 dL_law_595 rfl dL_law_596 dL_law_597 ?_
  refine l_call ok (n := 2) [.int (xs (i + 1)), .int (xs (i + 2))] (m_X11_backend _ ok.p h10) cvL_73 h10 rfl (by decide) rfl (Nat.le_of_ble_eq_true rfl) e2 dL_law_598 ?_
  exact l_icmp_eq ok 902 dL_law_601 rfl (next m2 e3)
theorem arm_606 (ok : lCx P G x b L xs) (h9 : zT P 9 x) (h10 : zT P 10 y) (hi : i + 7 ≤ L) (hB : B + 400 < 1000000) (hR : REL own P x y B M) (next : ∀ M, REL own P x y (B + 5) M → lAt P G x M 902 [(3, .int (nI i)), (2, .ref y), (1, .ref x), (0, .ref b)] []) : lAt P G x M 606 [(3, .int (nI i)), (2, .ref y), (1, .ref x), (0, .ref b)] [] := by
  obtain ⟨r, m1, m2, e1, e2, e3⟩ := (L_service : Call own P x y (f_X10_service P x (xs (i + 1)) (xs (i + 2))) (f_X11_service P y (xs (i + 1)) (xs (i + 2)))) B M hB hR
  refine l_aload_n ok 2 dL_law_606 rfl ?_
  refine l_par ok (k := 1) (by omega) dL_law_607 dL_law_608 dL_law_609 rfl dL_law_610 dL_law_611 ?_
  refine l_par ok (k := 2) (by omega) dL_law_612 dL_law_613 dL_law_614 rfl dL_law_615 dL_law_616 ?_
  refine l_call ok (n := 2) [.int (xs (i + 1)), .int (xs (i + 2))] (m_X10_service _ ok.p h9) cvL_74 h9 rfl (by decide) rfl (Nat.le_of_ble_eq_true rfl) e1 dL_law_617 ?_
  refine l_aload_n ok 1 dL_law_620 rfl ?_
  refine l_par ok (k := 1) (by omega) dL_law_621 dL_law_622 dL_law_623 rfl dL_law_624 dL_law_625 ?_
  refine l_par ok (k := 2) (by omega) dL_law_626 dL_law_627 dL_law_628 rfl dL_law_629 dL_law_630 ?_
  refine l_call ok (n := 2) [.int (xs (i + 1)), .int (xs (i + 2))] (m_X11_service _ ok.p h10) cvL_77 h10 rfl (by decide) rfl (Nat.le_of_ble_eq_true rfl) e2 dL_law_631 ?_
  exact l_icmp_eq ok 902 dL_law_634 rfl (next m2 e3)
theorem arm_639 (ok : lCx P G x b L xs) (h9 : zT P 9 x) (h10 : zT P 10 y) (hi : i + 7 ≤ L) (hB : B + 400 < 1000000) (hR : REL own P x y B M) (next : ∀ M, REL own P x y (B + 5) M → lAt P G x M 902 [(3, .int (nI i)), (2, .ref y), (1, .ref x), (0, .ref b)] []) : lAt P G x M 639 [(3, .int (nI i)), (2, .ref y), (1, .ref x), (0, .ref b)] [] := by
  obtain ⟨r, m1, m2, e1, e2, e3⟩ := (L_remembered : Call own P x y (f_X10_remembered P x (xs (i + 1)) (xs (i + 2))) (f_X11_remembered P y (xs (i + 1)) (xs (i + 2)))) B M hB hR
  refine l_aload_n ok 2 dL_law_639 rfl ?_
  refine l_par ok (k := 1) (by omega) dL_law_640 dL_law_641 dL_law_642 rfl dL_law_643 dL_law_644 ?_
  refine l_par ok (k := 2) (by omega) dL_law_645 dL_law_646 dL_law_647 rfl dL_law_648 dL_law_649 ?_
  refine l_call ok (n := 2) [.int (xs (i + 1)), .int (xs (i + 2))] (m_X10_remembered _ ok.p h9) cvL_78 h9 rfl (by decide) rfl (Nat.le_of_ble_eq_true rfl) e1 dL_law_650 ?_
  refine l_aload_n ok 1 dL_law_653 rfl ?_
  refine l_par ok (k := 1) (by omega) dL_law_654 dL_law_655 dL_law_656 rfl dL_law_657 dL_law_658 ?_
  refine l_par ok (k := 2) (by omega) dL_law_659 dL_law_660 dL_law_661 rfl dL_law_662 dL_law_663 ?_
  refine l_call ok (n := 2) [.int (xs (i + 1)), .int (xs (i + 2))] (m_X11_remembered _ ok.p h10) cvL_81 h10 rfl (by decide) rfl (Nat.le_of_ble_eq_true rfl) e2 dL_law_664 ?_
  exact l_icmp_eq ok 902 dL_law_667 rfl (next m2 e3)
theorem arm_672 (ok : lCx P G x b L xs) (h9 : zT P 9 x) (h10 : zT P 10 y) (hi : i + 7 ≤ L) (hB : B + 400 < 1000000) (hR : REL own P x y B M) (next : ∀ M, REL own P x y (B + 5) M → lAt P G x M 902 [(3, .int (nI i)), (2, .ref y), (1, .ref x), (0, .ref b)] []) : lAt P G x M 672 [(3, .int (nI i)), (2, .ref y), (1, .ref x), (0, .ref b)] [] := by
  obtain ⟨r, m1, m2, e1, e2, e3⟩ := (L_target : Call own P x y (f_X10_target P x (xs (i + 1)) (xs (i + 2)) (xs (i + 3))) (f_X11_target_ P y (xs (i + 1)) (xs (i + 2)) (xs (i + 3)))) B M hB hR
  refine l_aload_n ok 2 dL_law_672 rfl ?_
  refine l_par ok (k := 1) (by omega) dL_law_673 dL_law_674 dL_law_675 rfl dL_law_676 dL_law_677 ?_
  refine l_par ok (k := 2) (by omega) dL_law_678 dL_law_679 dL_law_680 rfl dL_law_681 dL_law_682 ?_
  refine l_par ok (k := 3) (by omega) dL_law_683 dL_law_684 dL_law_685 rfl dL_law_686 dL_law_687 ?_
  refine l_call ok (n := 3) [.int (xs (i + 1)), .int (xs (i + 2)), .int (xs (i + 3))] (m_X10_target _ ok.p h9) cvL_82 h9 rfl (by decide) rfl (Nat.le_of_ble_eq_true rfl) e1 dL_law_688 ?_
  refine l_aload_n ok 1 dL_law_691 rfl ?_
  refine l_par ok (k := 1) (by omega) dL_law_692 dL_law_693 dL_law_694 rfl dL_law_695 dL_law_696 ?_
  refine l_par ok (k := 2) (by omega) dL_law_697 dL_law_698 dL_law_699 rfl dL_law_700 dL_law_701 ?_
  refine l_par ok (k := 3) (by omega) dL_law_702 dL_law_703 dL_law_704 rfl dL_law_705 dL_law_706 ?_
  refine l_call ok (n := 3) [.int (xs (i + 1)), .int (xs (i + 2)), .int (xs (i + 3))] (m_X11_target_ _ ok.p h10) cvL_85 h10 rfl (by decide) rfl (Nat.le_of_ble_eq_true rfl) e2 dL_law_707 ?_
  exact l_icmp_eq ok 902 dL_law_710 rfl (next m2 e3)
theorem arm_715 (ok : lCx P G x b L xs) (h9 : zT P 9 x) (h10 : zT P 10 y) (hi : i + 7 ≤ L) (hB : B + 400 < 1000000) (hR : REL own P x y B M) (next : ∀ M, REL own P x y (B + 5) M → lAt P G x M 902 [(3, .int (nI i)), (2, .ref y), (1, .ref x), (0, .ref b)] []) : lAt P G x M 715 [(3, .int (nI i)), (2, .ref y), (1, .ref x), (0, .ref b)] [] := by
  obtain ⟨r, m1, m2, e1, e2, e3⟩ := (L_trace : Call own P x y (f_X10_trace P x (xs (i + 1)) (xs (i + 2))) (f_X11_trace P y (xs (i + 1)) (xs (i + 2)))) B M hB hR
  refine l_aload_n ok 2 dL_law_715 rfl ?_
  refine l_par ok (k := 1) (by omega) dL_law_716 dL_law_717 dL_law_718 rfl dL_law_719 dL_law_720 ?_
  refine l_par ok (k := 2) (by omega) dL_law_721 dL_law_722 dL_law_723 rfl dL_law_724 dL_law_725 ?_
  refine l_call ok (n := 2) [.int (xs (i + 1)), .int (xs (i + 2))] (m_X10_trace _ ok.p h9) cvL_86 h9 rfl (by decide) rfl (Nat.le_of_ble_eq_true rfl) e1 dL_law_726 ?_
  refine l_aload_n ok 1 dL_law_729 rfl ?_
  refine l_par ok (k := 1) (by omega) dL_law_730 dL_law_731 dL_law_732 rfl dL_law_733 dL_law_734 ?_
  refine l_par ok (k := 2) (by omega) dL_law_735 dL_law_736 dL_law_737 rfl dL_law_738 dL_law_739 ?_
  refine l_call ok (n := 2) [.int (xs (i + 1)), .int (xs (i + 2))] (m_X11_trace _ ok.p h10) cvL_89 h10 rfl (by decide) rfl (Nat.le_of_ble_eq_true rfl) e2 dL_law_740 ?_
  exact l_icmp_eq ok 902 dL_law_743 rfl (next m2 e3)
theorem arm_748 (ok : lCx P G x b L xs) (h9 : zT P 9 x) (h10 : zT P 10 y) (hi : i + 7 ≤ L) (hB : B + 400 < 1000000) (hR : REL own P x y B M) (next : ∀ M, REL own P x y (B + 5) M → lAt P G x M 902 [(3, .int (nI i)), (2, .ref y), (1, .ref x), (0, .ref b)] []) : lAt P G x M 748 [(3, .int (nI i)), (2, .ref y), (1, .ref x), (0, .ref b)] [] := by
  obtain ⟨r, m1, m2, e1, e2, e3⟩ := (L_count : Call own P x y (f_X10_count P x (xs (i + 1))) (f_X11_count P y (xs (i + 1)))) B M hB hR
  refine l_aload_n ok 2 dL_law_748 rfl ?_
  refine l_par ok (k := 1) (by omega) dL_law_749 dL_law_750 dL_law_751 rfl dL_law_752 dL_law_753 ?_
  refine l_call ok (n := 1) [.int (xs (i + 1))] (m_X10_count _ ok.p h9) cvL_90 h9 rfl (by decide) rfl (Nat.le_of_ble_eq_true rfl) e1 dL_law_754 ?_
  refine l_aload_n ok 1 dL_law_757 rfl ?_
  refine l_par ok (k := 1) (by omega) dL_law_758 dL_law_759 dL_law_760 rfl dL_law_761 dL_law_762 ?_
  refine l_call ok (n := 1) [.int (xs (i + 1))] (m_X11_count _ ok.p h10) cvL_93 h10 rfl (by decide) rfl (Nat.le_of_ble_eq_true rfl) e2 dL_law_763 ?_
  exact l_icmp_eq ok 902 dL_law_766 rfl (next m2 e3)
theorem arm_771 (ok : lCx P G x b L xs) (h9 : zT P 9 x) (h10 : zT P 10 y) (hi : i + 7 ≤ L) (hB : B + 400 < 1000000) (hR : REL own P x y B M) (next : ∀ M, REL own P x y (B + 5) M → lAt P G x M 902 [(3, .int (nI i)), (2, .ref y), (1, .ref x), (0, .ref b)] []) : lAt P G x M 771 [(3, .int (nI i)), (2, .ref y), (1, .ref x), (0, .ref b)] [] := by
  obtain ⟨r, m1, m2, e1, e2, e3⟩ := (L_print : Call own P x y (f_X10_print P x (xs (i + 1))) (f_X11_print P y (xs (i + 1)))) B M hB hR
  refine l_aload_n ok 2 dL_law_771 rfl ?_
  refine l_par ok (k := 1) (by omega) dL_law_772 dL_law_773 dL_law_774 rfl dL_law_775 dL_law_776 ?_
  refine l_call ok (n := 1) [.int (xs (i + 1))] (m_X10_print _ ok.p h9) cvL_94 h9 rfl (by decide) rfl (Nat.le_of_ble_eq_true rfl) e1 dL_law_777 ?_
  refine l_aload_n ok 1 dL_law_780 rfl ?_
  refine l_par ok (k := 1) (by omega) dL_law_781 dL_law_782 dL_law_783 rfl dL_law_784 dL_law_785 ?_
  refine l_call ok (n := 1) [.int (xs (i + 1))] (m_X11_print _ ok.p h10) cvL_97 h10 rfl (by decide) rfl (Nat.le_of_ble_eq_true rfl) e2 dL_law_786 ?_
  exact l_icmp_eq ok 902 dL_law_789 rfl (next m2 e3)
theorem arm_794 (ok : lCx P G x b L xs) (h9 : zT P 9 x) (h10 : zT P 10 y) (hi : i + 7 ≤ L) (hB : B + 400 < 1000000) (hR : REL own P x y B M) (next : ∀ M, REL own P x y (B + 5) M → lAt P G x M 902 [(3, .int (nI i)), (2, .ref y), (1, .ref x), (0, .ref b)] []) : lAt P G x M 794 [(3, .int (nI i)), (2, .ref y), (1, .ref x), (0, .ref b)] [] := by
  obtain ⟨r, m1, m2, e1, e2, e3⟩ := (L_printed : Call own P x y (f_X10_printed P x (xs (i + 1))) (f_X11_printed P y (xs (i + 1)))) B M hB hR
  refine l_aload_n ok 2 dL_law_794 rfl ?_
  refine l_par ok (k := 1) (by omega) dL_law_795 dL_law_796 dL_law_797 rfl dL_law_798 dL_law_799 ?_
  refine l_call ok (n := 1) [.int (xs (i + 1))] (m_X10_printed _ ok.p h9) cvL_98 h9 rfl (by decide) rfl (Nat.le_of_ble_eq_true rfl) e1 dL_law_800 ?_
  refine l_aload_n ok 1 dL_law_803 rfl ?_
  refine l_par ok (k := 1) (by omega) dL_law_804 dL_law_805 dL_law_806 rfl dL_law_807 dL_law_808 ?_
  refine l_call ok (n := 1) [.int (xs (i + 1))] (m_X11_printed _ ok.p h10) cvL_101 h10 rfl (by decide) rfl (Nat.le_of_ble_eq_true rfl) e2 dL_law_809 ?_
  exact l_icmp_eq ok 902 dL_law_812 rfl (next m2 e3)
theorem arm_817 (ok : lCx P G x b L xs) (h9 : zT P 9 x) (h10 : zT P 10 y) (hi : i + 7 ≤ L) (hB : B + 400 < 1000000) (hR : REL own P x y B M) (next : ∀ M, REL own P x y (B + 5) M → lAt P G x M 902 [(3, .int (nI i)), (2, .ref y), (1, .ref x), (0, .ref b)] []) : lAt P G x M 817 [(3, .int (nI i)), (2, .ref y), (1, .ref x), (0, .ref b)] [] := by
  obtain ⟨r, m1, m2, e1, e2, e3⟩ := (L_mark : Call own P x y (f_X10_mark P x) (f_X11_mark P y)) B M hB hR
  refine l_aload_n ok 2 dL_law_817 rfl ?_
  refine l_call ok (n := 0) [] (m_X10_mark _ ok.p h9) cvL_102 h9 rfl (by decide) rfl (Nat.le_of_ble_eq_true rfl) e1 dL_law_818 ?_
  refine l_aload_n ok 1 dL_law_821 rfl ?_
  refine l_call ok (n := 0) [] (m_X11_mark _ ok.p h10) cvL_105 h10 rfl (by decide) rfl (Nat.le_of_ble_eq_true rfl) e2 dL_law_822 ?_
  exact l_icmp_eq ok 902 dL_law_825 rfl (next m2 e3)
theorem arm_830 (ok : lCx P G x b L xs) (h9 : zT P 9 x) (h10 : zT P 10 y) (hi : i + 7 ≤ L) (hB : B + 400 < 1000000) (hR : REL own P x y B M) (next : ∀ M, REL own P x y (B + 5) M → lAt P G x M 902 [(3, .int (nI i)), (2, .ref y), (1, .ref x), (0, .ref b)] []) : lAt P G x M 830 [(3, .int (nI i)), (2, .ref y), (1, .ref x), (0, .ref b)] [] := by
  obtain ⟨r, m1, m2, e1, e2, e3⟩ := (L_play : Call own P x y (f_X10_play P x (xs (i + 1))) (f_X11_play P y (xs (i + 1)))) B M hB hR
  refine l_aload_n ok 2 dL_law_830 rfl ?_
  refine l_par ok (k := 1) (by omega) dL_law_831 dL_law_832 dL_law_833 rfl dL_law_834 dL_law_835 ?_
  refine l_call ok (n := 1) [.int (xs (i + 1))] (m_X10_play _ ok.p h9) cvL_106 h9 rfl (by decide) rfl (Nat.le_of_ble_eq_true rfl) e1 dL_law_836 ?_
  refine l_aload_n ok 1 dL_law_839 rfl ?_
  refine l_par ok (k := 1) (by omega) dL_law_840 dL_law_841 dL_law_842 rfl dL_law_843 dL_law_844 ?_
  refine l_call ok (n := 1) [.int (xs (i + 1))] (m_X11_play _ ok.p h10) cvL_109 h10 rfl (by decide) rfl (Nat.le_of_ble_eq_true rfl) e2 dL_law_845 ?_
  exact l_icmp_eq ok 902 dL_law_848 rfl (next m2 e3)
theorem arm_853 (ok : lCx P G x b L xs) (h9 : zT P 9 x) (h10 : zT P 10 y) (hi : i + 7 ≤ L) (hB : B + 400 < 1000000) (hR : REL own P x y B M) (next : ∀ M, REL own P x y (B + 5) M → lAt P G x M 902 [(3, .int (nI i)), (2, .ref y), (1, .ref x), (0, .ref b)] []) : lAt P G x M 853 [(3, .int (nI i)), (2, .ref y), (1, .ref x), (0, .ref b)] [] := by
  obtain ⟨r, m1, m2, e1, e2, e3⟩ := (L_answeredIf : Call own P x y (f_X10_answeredIf P x (xs (i + 1))) (f_X11_answeredIf P y (xs (i + 1)))) B M hB hR
  refine l_aload_n ok 2 dL_law_853 rfl ?_
  refine l_par ok (k := 1) (by omega) dL_law_854 dL_law_855 dL_law_856 rfl dL_law_857 dL_law_858 ?_
  refine l_call ok (n := 1) [.int (xs (i + 1))] (m_X10_answeredIf _ ok.p h9) cvL_110 h9 rfl (by decide) rfl (Nat.le_of_ble_eq_true rfl) e1 dL_law_859 ?_
  refine l_aload_n ok 1 dL_law_862 rfl ?_
  refine l_par ok (k := 1) (by omega) dL_law_863 dL_law_864 dL_law_865 rfl dL_law_866 dL_law_867 ?_
  refine l_call ok (n := 1) [.int (xs (i + 1))] (m_X11_answeredIf _ ok.p h10) cvL_113 h10 rfl (by decide) rfl (Nat.le_of_ble_eq_true rfl) e2 dL_law_868 ?_
  exact l_icmp_eq ok 902 dL_law_871 rfl (next m2 e3)
theorem arm_876 (ok : lCx P G x b L xs) (h9 : zT P 9 x) (h10 : zT P 10 y) (hi : i + 7 ≤ L) (hB : B + 400 < 1000000) (hR : REL own P x y B M) (next : ∀ M, REL own P x y (B + 5) M → lAt P G x M 902 [(3, .int (nI i)), (2, .ref y), (1, .ref x), (0, .ref b)] []) : lAt P G x M 876 [(3, .int (nI i)), (2, .ref y), (1, .ref x), (0, .ref b)] [] := by
  obtain ⟨r, m1, m2, e1, e2, e3⟩ := (L_save : Call own P x y (f_X10_save P x) (f_X11_save P y)) B M hB hR
  refine l_aload_n ok 2 dL_law_876 rfl ?_
  refine l_call ok (n := 0) [] (m_X10_save _ ok.p h9) cvL_114 h9 rfl (by decide) rfl (Nat.le_of_ble_eq_true rfl) e1 dL_law_877 ?_
  refine l_aload_n ok 1 dL_law_880 rfl ?_
  refine l_call ok (n := 0) [] (m_X11_save _ ok.p h10) cvL_117 h10 rfl (by decide) rfl (Nat.le_of_ble_eq_true rfl) e2 dL_law_881 ?_
  exact l_icmp_eq ok 902 dL_law_884 rfl (next m2 e3)
theorem arm_889 (ok : lCx P G x b L xs) (h9 : zT P 9 x) (h10 : zT P 10 y) (hi : i + 7 ≤ L) (hB : B + 400 < 1000000) (hR : REL own P x y B M) (next : ∀ M, REL own P x y (B + 5) M → lAt P G x M 902 [(3, .int (nI i)), (2, .ref y), (1, .ref x), (0, .ref b)] []) : lAt P G x M 889 [(3, .int (nI i)), (2, .ref y), (1, .ref x), (0, .ref b)] [] := by
  obtain ⟨r, m1, m2, e1, e2, e3⟩ := (L_restore : Call own P x y (f_X10_restore P x) (f_X11_restore P y)) B M hB hR
  refine l_aload_n ok 2 dL_law_889 rfl ?_
  refine l_call ok (n := 0) [] (m_X10_restore _ ok.p h9) cvL_118 h9 rfl (by decide) rfl (Nat.le_of_ble_eq_true rfl) e1 dL_law_890 ?_
  refine l_aload_n ok 1 dL_law_893 rfl ?_
  refine l_call ok (n := 0) [] (m_X11_restore _ ok.p h10) cvL_121 h10 rfl (by decide) rfl (Nat.le_of_ble_eq_true rfl) e2 dL_law_894 ?_
  exact l_icmp_eq ok 902 dL_law_897 rfl (next m2 e3)
def armsT : List Nat := [152, 195, 228, 261, 336, 359, 392, 405, 428, 461, 484, 517, 550, 573, 606, 639, 672, 715, 748, 771, 794, 817, 830, 853, 876, 889]
theorem arms (ok : lCx P G x b L xs) (h9 : zT P 9 x) (h10 : zT P 10 y) (hi : i + 7 ≤ L) (hB : B + 400 < 1000000) (hR : REL own P x y B M) (next : ∀ M, REL own P x y (B + 5) M → lAt P G x M 902 [(3, .int (nI i)), (2, .ref y), (1, .ref x), (0, .ref b)] []) : ∀ t ∈ armsT, lAt P G x M t [(3, .int (nI i)), (2, .ref y), (1, .ref x), (0, .ref b)] [] := by
  unfold armsT
  exact List.forall_mem_cons.mpr ⟨arm_152 ok h9 h10 hi hB hR next, List.forall_mem_cons.mpr ⟨arm_195 ok h9 h10 hi hB hR next, List.forall_mem_cons.mpr ⟨arm_228 ok h9 h10 hi hB hR next, List.forall_mem_cons.mpr ⟨arm_261 ok h9 h10 hi hB hR next, List.forall_mem_cons.mpr ⟨arm_336 ok h9 h10 hi hB hR next, List.forall_mem_cons.mpr ⟨arm_359 ok h9 h10 hi hB hR next, List.forall_mem_cons.mpr ⟨arm_392 ok h9 h10 hi hB hR next, List.forall_mem_cons.mpr ⟨arm_405 ok h9 h10 hi hB hR next, List.forall_mem_cons.mpr ⟨arm_428 ok h9 h10 hi hB hR next, List.forall_mem_cons.mpr ⟨arm_461 ok h9 h10 hi hB hR next, List.forall_mem_cons.mpr ⟨arm_484 ok h9 h10 hi hB hR next, List.forall_mem_cons.mpr ⟨arm_517 ok h9 h10 hi hB hR next, List.forall_mem_cons.mpr ⟨arm_550 ok h9 h10 hi hB hR next, List.forall_mem_cons.mpr ⟨arm_573 ok h9 h10 hi hB hR next, List.forall_mem_cons.mpr ⟨arm_606 ok h9 h10 hi hB hR next, List.forall_mem_cons.mpr ⟨arm_639 ok h9 h10 hi hB hR next, List.forall_mem_cons.mpr ⟨arm_672 ok h9 h10 hi hB hR next, List.forall_mem_cons.mpr ⟨arm_715 ok h9 h10 hi hB hR next, List.forall_mem_cons.mpr ⟨arm_748 ok h9 h10 hi hB hR next, List.forall_mem_cons.mpr ⟨arm_771 ok h9 h10 hi hB hR next, List.forall_mem_cons.mpr ⟨arm_794 ok h9 h10 hi hB hR next, List.forall_mem_cons.mpr ⟨arm_817 ok h9 h10 hi hB hR next, List.forall_mem_cons.mpr ⟨arm_830 ok h9 h10 hi hB hR next, List.forall_mem_cons.mpr ⟨arm_853 ok h9 h10 hi hB hR next, List.forall_mem_cons.mpr ⟨arm_876 ok h9 h10 hi hB hR next, List.forall_mem_cons.mpr ⟨arm_889 ok h9 h10 hi hB hR next, fun _ h => absurd h List.not_mem_nil⟩⟩⟩⟩⟩⟩⟩⟩⟩⟩⟩⟩⟩⟩⟩⟩⟩⟩⟩⟩⟩⟩⟩⟩⟩⟩
end LA
