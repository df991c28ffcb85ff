theorem ml_L_13 : Cond.methodLink RL 13 yX8_row ∈ zT := zT_of (List.mem_of_getElem? (i := 363) (by decide +kernel)) rfl
theorem hy_X8_row : zYv yX8_row cX8_row 3 (some .int) 2 := ⟨⟨zT_of (List.mem_of_getElem? (i := 366) (by decide +kernel)) rfl, zT_of (List.mem_of_getElem? (i := 70) (by decide +kernel)) rfl, by decide, by decide +kernel, by decide +kernel, by decide +kernel⟩, zT_of (List.mem_of_getElem? (i := 364) (by decide +kernel)) rfl, zT_of (List.mem_of_getElem? (i := 365) (by decide +kernel)) rfl⟩
theorem ml_L_17 : Cond.methodLink RL 17 yX9_row ∈ zT := zT_of (List.mem_of_getElem? (i := 952) (by decide +kernel)) rfl
theorem hy_X9_row : zYv yX9_row cX9_row 3 (some .int) 2 := ⟨⟨zT_of (List.mem_of_getElem? (i := 955) (by decide +kernel)) rfl, zT_of (List.mem_of_getElem? (i := 78) (by decide +kernel)) rfl, by decide, by decide +kernel, by decide +kernel, by decide +kernel⟩, zT_of (List.mem_of_getElem? (i := 953) (by decide +kernel)) rfl, zT_of (List.mem_of_getElem? (i := 954) (by decide +kernel)) rfl⟩
theorem ml_L_18 : Cond.methodLink RL 18 yX8_lay ∈ zT := zT_of (List.mem_of_getElem? (i := 381) (by decide +kernel)) rfl
theorem hy_X8_lay : zYv yX8_lay cX8_lay 6 (some .int) 3 := ⟨⟨zT_of (List.mem_of_getElem? (i := 384) (by decide +kernel)) rfl, zT_of (List.mem_of_getElem? (i := 70) (by decide +kernel)) rfl, by decide, by decide +kernel, by decide +kernel, by decide +kernel⟩, zT_of (List.mem_of_getElem? (i := 382) (by decide +kernel)) rfl, zT_of (List.mem_of_getElem? (i := 383) (by decide +kernel)) rfl⟩
theorem ml_L_22 : Cond.methodLink RL 22 yX9_lay ∈ zT := zT_of (List.mem_of_getElem? (i := 971) (by decide +kernel)) rfl
theorem hy_X9_lay : zYv yX9_lay cX9_lay 6 (some .int) 3 := ⟨⟨zT_of (List.mem_of_getElem? (i := 974) (by decide +kernel)) rfl, zT_of (List.mem_of_getElem? (i := 78) (by decide +kernel)) rfl, by decide, by decide +kernel, by decide +kernel, by decide +kernel⟩, zT_of (List.mem_of_getElem? (i := 972) (by decide +kernel)) rfl, zT_of (List.mem_of_getElem? (i := 973) (by decide +kernel)) rfl⟩
theorem ml_L_23 : Cond.methodLink RL 23 yX8_at ∈ zT := zT_of (List.mem_of_getElem? (i := 397) (by decide +kernel)) rfl
theorem hy_X8_at : zYv yX8_at cX8_at 4 (some .int) 2 := ⟨⟨zT_of (List.mem_of_getElem? (i := 400) (by decide +kernel)) rfl, zT_of (List.mem_of_getElem? (i := 70) (by decide +kernel)) rfl, by decide, by decide +kernel, by decide +kernel, by decide +kernel⟩, zT_of (List.mem_of_getElem? (i := 398) (by decide +kernel)) rfl, zT_of (List.mem_of_getElem? (i := 399) (by decide +kernel)) rfl⟩
theorem ml_L_26 : Cond.methodLink RL 26 yX9_at ∈ zT := zT_of (List.mem_of_getElem? (i := 983) (by decide +kernel)) rfl
theorem hy_X9_at : zYv yX9_at cX9_at 4 (some .int) 2 := ⟨⟨zT_of (List.mem_of_getElem? (i := 986) (by decide +kernel)) rfl, zT_of (List.mem_of_getElem? (i := 78) (by decide +kernel)) rfl, by decide, by decide +kernel, by decide +kernel, by decide +kernel⟩, zT_of (List.mem_of_getElem? (i := 984) (by decide +kernel)) rfl, zT_of (List.mem_of_getElem? (i := 985) (by decide +kernel)) rfl⟩
theorem ml_L_27 : Cond.methodLink RL 27 yX8_tear ∈ zT := zT_of (List.mem_of_getElem? (i := 401) (by decide +kernel)) rfl
theorem hy_X8_tear : zYv yX8_tear cX8_tear 2 (some .int) 1 := ⟨⟨zT_of (List.mem_of_getElem? (i := 404) (by decide +kernel)) rfl, zT_of (List.mem_of_getElem? (i := 70) (by decide +kernel)) rfl, by decide, by decide +kernel, by decide +kernel, by decide +kernel⟩, zT_of (List.mem_of_getElem? (i := 402) (by decide +kernel)) rfl, zT_of (List.mem_of_getElem? (i := 403) (by decide +kernel)) rfl⟩
theorem ml_L_31 : Cond.methodLink RL 31 yX9_tear ∈ zT := zT_of (List.mem_of_getElem? (i := 987) (by decide +kernel)) rfl
theorem hy_X9_tear : zYv yX9_tear cX9_tear 2 (some .int) 1 := ⟨⟨zT_of (List.mem_of_getElem? (i := 990) (by decide +kernel)) rfl, zT_of (List.mem_of_getElem? (i := 78) (by decide +kernel)) rfl, by decide, by decide +kernel, by decide +kernel, by decide +kernel⟩, zT_of (List.mem_of_getElem? (i := 988) (by decide +kernel)) rfl, zT_of (List.mem_of_getElem? (i := 989) (by decide +kernel)) rfl⟩
theorem ml_L_32 : Cond.methodLink RL 32 yX8_copy ∈ zT := zT_of (List.mem_of_getElem? (i := 409) (by decide +kernel)) rfl
theorem hy_X8_copy : zYv yX8_copy cX8_copy 8 (some .int) 5 := ⟨⟨zT_of (List.mem_of_getElem? (i := 412) (by decide +kernel)) rfl, zT_of (List.mem_of_getElem? (i := 70) (by decide +kernel)) rfl, by decide, by decide +kernel, by decide +kernel, by decide +kernel⟩, zT_of (List.mem_of_getElem? (i := 410) (by decide +kernel)) rfl, zT_of (List.mem_of_getElem? (i := 411) (by decide +kernel)) rfl⟩
theorem ml_L_36 : Cond.methodLink RL 36 yX9_copy ∈ zT := zT_of (List.mem_of_getElem? (i := 991) (by decide +kernel)) rfl
theorem hy_X9_copy : zYv yX9_copy cX9_copy 9 (some .int) 5 := ⟨⟨zT_of (List.mem_of_getElem? (i := 994) (by decide +kernel)) rfl, zT_of (List.mem_of_getElem? (i := 78) (by decide +kernel)) rfl, by decide, by decide +kernel, by decide +kernel, by decide +kernel⟩, zT_of (List.mem_of_getElem? (i := 992) (by decide +kernel)) rfl, zT_of (List.mem_of_getElem? (i := 993) (by decide +kernel)) rfl⟩
theorem ml_L_37 : Cond.methodLink RL 37 yX8_mean ∈ zT := zT_of (List.mem_of_getElem? (i := 420) (by decide +kernel)) rfl
theorem hy_X8_mean : zYv yX8_mean cX8_mean 3 (some .int) 1 := ⟨⟨zT_of (List.mem_of_getElem? (i := 423) (by decide +kernel)) rfl, zT_of (List.mem_of_getElem? (i := 70) (by decide +kernel)) rfl, by decide, by decide +kernel, by decide +kernel, by decide +kernel⟩, zT_of (List.mem_of_getElem? (i := 421) (by decide +kernel)) rfl, zT_of (List.mem_of_getElem? (i := 422) (by decide +kernel)) rfl⟩
theorem ml_L_40 : Cond.methodLink RL 40 yX9_mean ∈ zT := zT_of (List.mem_of_getElem? (i := 999) (by decide +kernel)) rfl
theorem hy_X9_mean : zYv yX9_mean cX9_mean 5 (some .int) 1 := ⟨⟨zT_of (List.mem_of_getElem? (i := 1002) (by decide +kernel)) rfl, zT_of (List.mem_of_getElem? (i := 78) (by decide +kernel)) rfl, by decide, by decide +kernel, by decide +kernel, by decide +kernel⟩, zT_of (List.mem_of_getElem? (i := 1000) (by decide +kernel)) rfl, zT_of (List.mem_of_getElem? (i := 1001) (by decide +kernel)) rfl⟩
theorem ml_L_41 : Cond.methodLink RL 41 yX8_text ∈ zT := zT_of (List.mem_of_getElem? (i := 428) (by decide +kernel)) rfl
theorem hy_X8_text : zYv yX8_text cX8_text 3 (some .int) 2 := ⟨⟨zT_of (List.mem_of_getElem? (i := 431) (by decide +kernel)) rfl, zT_of (List.mem_of_getElem? (i := 70) (by decide +kernel)) rfl, by decide, by decide +kernel, by decide +kernel, by decide +kernel⟩, zT_of (List.mem_of_getElem? (i := 429) (by decide +kernel)) rfl, zT_of (List.mem_of_getElem? (i := 430) (by decide +kernel)) rfl⟩
theorem ml_L_44 : Cond.methodLink RL 44 yX9_text ∈ zT := zT_of (List.mem_of_getElem? (i := 1003) (by decide +kernel)) rfl
theorem hy_X9_text : zYv yX9_text cX9_text 4 (some .int) 2 := ⟨⟨zT_of (List.mem_of_getElem? (i := 1006) (by decide +kernel)) rfl, zT_of (List.mem_of_getElem? (i := 78) (by decide +kernel)) rfl, by decide, by decide +kernel, by decide +kernel, by decide +kernel⟩, zT_of (List.mem_of_getElem? (i := 1004) (by decide +kernel)) rfl, zT_of (List.mem_of_getElem? (i := 1005) (by decide +kernel)) rfl⟩
theorem ml_L_45 : Cond.methodLink RL 45 yX8_put ∈ zT := zT_of (List.mem_of_getElem? (i := 435) (by decide +kernel)) rfl
theorem hy_X8_put : zYv yX8_put cX8_put 6 (some .int) 3 := ⟨⟨zT_of (List.mem_of_getElem? (i := 438) (by decide +kernel)) rfl, zT_of (List.mem_of_getElem? (i := 70) (by decide +kernel)) rfl, by decide, by decide +kernel, by decide +kernel, by decide +kernel⟩, zT_of (List.mem_of_getElem? (i := 436) (by decide +kernel)) rfl, zT_of (List.mem_of_getElem? (i := 437) (by decide +kernel)) rfl⟩
theorem ml_L_48 : Cond.methodLink RL 48 yX9_put ∈ zT := zT_of (List.mem_of_getElem? (i := 1011) (by decide +kernel)) rfl
theorem hy_X9_put : zYv yX9_put cX9_put 5 (some .int) 3 := ⟨⟨zT_of (List.mem_of_getElem? (i := 1014) (by decide +kernel)) rfl, zT_of (List.mem_of_getElem? (i := 78) (by decide +kernel)) rfl, by decide, by decide +kernel, by decide +kernel, by decide +kernel⟩, zT_of (List.mem_of_getElem? (i := 1012) (by decide +kernel)) rfl, zT_of (List.mem_of_getElem? (i := 1013) (by decide +kernel)) rfl⟩
theorem ml_L_49 : Cond.methodLink RL 49 yX8_fault ∈ zT := zT_of (List.mem_of_getElem? (i := 439) (by decide +kernel)) rfl
theorem hy_X8_fault : zYv yX8_fault cX8_fault 2 (some .int) 1 := ⟨⟨zT_of (List.mem_of_getElem? (i := 442) (by decide +kernel)) rfl, zT_of (List.mem_of_getElem? (i := 70) (by decide +kernel)) rfl, by decide, by decide +kernel, by decide +kernel, by decide +kernel⟩, zT_of (List.mem_of_getElem? (i := 440) (by decide +kernel)) rfl, zT_of (List.mem_of_getElem? (i := 441) (by decide +kernel)) rfl⟩
theorem ml_L_52 : Cond.methodLink RL 52 yX9_fault ∈ zT := zT_of (List.mem_of_getElem? (i := 1015) (by decide +kernel)) rfl
theorem hy_X9_fault : zYv yX9_fault cX9_fault 2 (some .int) 1 := ⟨⟨zT_of (List.mem_of_getElem? (i := 1018) (by decide +kernel)) rfl, zT_of (List.mem_of_getElem? (i := 78) (by decide +kernel)) rfl, by decide, by decide +kernel, by decide +kernel, by decide +kernel⟩, zT_of (List.mem_of_getElem? (i := 1016) (by decide +kernel)) rfl, zT_of (List.mem_of_getElem? (i := 1017) (by decide +kernel)) rfl⟩
theorem ml_L_53 : Cond.methodLink RL 53 yX8_post ∈ zT := zT_of (List.mem_of_getElem? (i := 472) (by decide +kernel)) rfl
theorem hy_X8_post : zYv yX8_post cX8_post 6 (some .int) 1 := ⟨⟨zT_of (List.mem_of_getElem? (i := 475) (by decide +kernel)) rfl, zT_of (List.mem_of_getElem? (i := 70) (by decide +kernel)) rfl, by decide, by decide +kernel, by decide +kernel, by decide +kernel⟩, zT_of (List.mem_of_getElem? (i := 473) (by decide +kernel)) rfl, zT_of (List.mem_of_getElem? (i := 474) (by decide +kernel)) rfl⟩
theorem ml_L_56 : Cond.methodLink RL 56 yX9_post ∈ zT := zT_of (List.mem_of_getElem? (i := 1055) (by decide +kernel)) rfl
theorem hy_X9_post : zYv yX9_post cX9_post 3 (some .int) 1 := ⟨⟨zT_of (List.mem_of_getElem? (i := 1058) (by decide +kernel)) rfl, zT_of (List.mem_of_getElem? (i := 78) (by decide +kernel)) rfl, by decide, by decide +kernel, by decide +kernel, by decide +kernel⟩, zT_of (List.mem_of_getElem? (i := 1056) (by decide +kernel)) rfl, zT_of (List.mem_of_getElem? (i := 1057) (by decide +kernel)) rfl⟩
theorem ml_L_57 : Cond.methodLink RL 57 yX8_house ∈ zT := zT_of (List.mem_of_getElem? (i := 486) (by decide +kernel)) rfl
theorem hy_X8_house : zYv yX8_house cX8_house 3 (some .int) 2 := ⟨⟨zT_of (List.mem_of_getElem? (i := 489) (by decide +kernel)) rfl, zT_of (List.mem_of_getElem? (i := 70) (by decide +kernel)) rfl, by decide, by decide +kernel, by decide +kernel, by decide +kernel⟩, zT_of (List.mem_of_getElem? (i := 487) (by decide +kernel)) rfl, zT_of (List.mem_of_getElem? (i := 488) (by decide +kernel)) rfl⟩
theorem ml_L_60 : Cond.methodLink RL 60 yX9_house ∈ zT := zT_of (List.mem_of_getElem? (i := 1059) (by decide +kernel)) rfl
theorem hy_X9_house : zYv yX9_house cX9_house 3 (some .int) 2 := ⟨⟨zT_of (List.mem_of_getElem? (i := 1062) (by decide +kernel)) rfl, zT_of (List.mem_of_getElem? (i := 78) (by decide +kernel)) rfl, by decide, by decide +kernel, by decide +kernel, by decide +kernel⟩, zT_of (List.mem_of_getElem? (i := 1060) (by decide +kernel)) rfl, zT_of (List.mem_of_getElem? (i := 1061) (by decide +kernel)) rfl⟩
theorem ml_L_61 : Cond.methodLink RL 61 yX8_letter ∈ zT := zT_of (List.mem_of_getElem? (i := 505) (by decide +kernel)) rfl
theorem hy_X8_letter : zYv yX8_letter cX8_letter 3 (some .int) 2 := ⟨⟨zT_of (List.mem_of_getElem? (i := 508) (by decide +kernel)) rfl, zT_of (List.mem_of_getElem? (i := 70) (by decide +kernel)) rfl, by decide, by decide +kernel, by decide +kernel, by decide +kernel⟩, zT_of (List.mem_of_getElem? (i := 506) (by decide +kernel)) rfl, zT_of (List.mem_of_getElem? (i := 507) (by decide +kernel)) rfl⟩
theorem ml_L_64 : Cond.methodLink RL 64 yX9_letter ∈ zT := zT_of (List.mem_of_getElem? (i := 1080) (by decide +kernel)) rfl
theorem hy_X9_letter : zYv yX9_letter cX9_letter 3 (some .int) 2 := ⟨⟨zT_of (List.mem_of_getElem? (i := 1083) (by decide +kernel)) rfl, zT_of (List.mem_of_getElem? (i := 78) (by decide +kernel)) rfl, by decide, by decide +kernel, by decide +kernel, by decide +kernel⟩, zT_of (List.mem_of_getElem? (i := 1081) (by decide +kernel)) rfl, zT_of (List.mem_of_getElem? (i := 1082) (by decide +kernel)) rfl⟩
theorem ml_L_65 : Cond.methodLink RL 65 yX8_mark ∈ zT := zT_of (List.mem_of_getElem? (i := 549) (by decide +kernel)) rfl
theorem hy_X8_mark : zYv yX8_mark cX8_mark 3 (some .int) 2 := ⟨⟨zT_of (List.mem_of_getElem? (i := 552) (by decide +kernel)) rfl, zT_of (List.mem_of_getElem? (i := 70) (by decide +kernel)) rfl, by decide, by decide +kernel, by decide +kernel, by decide +kernel⟩, zT_of (List.mem_of_getElem? (i := 550) (by decide +kernel)) rfl, zT_of (List.mem_of_getElem? (i := 551) (by decide +kernel)) rfl⟩
theorem ml_L_68 : Cond.methodLink RL 68 yX9_mark ∈ zT := zT_of (List.mem_of_getElem? (i := 1110) (by decide +kernel)) rfl
theorem hy_X9_mark : zYv yX9_mark cX9_mark 5 (some .int) 2 := ⟨⟨zT_of (List.mem_of_getElem? (i := 1113) (by decide +kernel)) rfl, zT_of (List.mem_of_getElem? (i := 78) (by decide +kernel)) rfl, by decide, by decide +kernel, by decide +kernel, by decide +kernel⟩, zT_of (List.mem_of_getElem? (i := 1111) (by decide +kernel)) rfl, zT_of (List.mem_of_getElem? (i := 1112) (by decide +kernel)) rfl⟩
theorem ml_L_69 : Cond.methodLink RL 69 yX8_carry ∈ zT := zT_of (List.mem_of_getElem? (i := 563) (by decide +kernel)) rfl
theorem hy_X8_carry : zYv yX8_carry cX8_carry 2 (some .int) 1 := ⟨⟨zT_of (List.mem_of_getElem? (i := 566) (by decide +kernel)) rfl, zT_of (List.mem_of_getElem? (i := 70) (by decide +kernel)) rfl, by decide, by decide +kernel, by decide +kernel, by decide +kernel⟩, zT_of (List.mem_of_getElem? (i := 564) (by decide +kernel)) rfl, zT_of (List.mem_of_getElem? (i := 565) (by decide +kernel)) rfl⟩
theorem ml_L_72 : Cond.methodLink RL 72 yX9_carry ∈ zT := zT_of (List.mem_of_getElem? (i := 1118) (by decide +kernel)) rfl
theorem hy_X9_carry : zYv yX9_carry cX9_carry 2 (some .int) 1 := ⟨⟨zT_of (List.mem_of_getElem? (i := 1121) (by decide +kernel)) rfl, zT_of (List.mem_of_getElem? (i := 78) (by decide +kernel)) rfl, by decide, by decide +kernel, by decide +kernel, by decide +kernel⟩, zT_of (List.mem_of_getElem? (i := 1119) (by decide +kernel)) rfl, zT_of (List.mem_of_getElem? (i := 1120) (by decide +kernel)) rfl⟩
theorem ml_L_73 : Cond.methodLink RL 73 yX8_bribe ∈ zT := zT_of (List.mem_of_getElem? (i := 598) (by decide +kernel)) rfl
theorem hy_X8_bribe : zYv yX8_bribe cX8_bribe 2 (some .int) 1 := ⟨⟨zT_of (List.mem_of_getElem? (i := 601) (by decide +kernel)) rfl, zT_of (List.mem_of_getElem? (i := 70) (by decide +kernel)) rfl, by decide, by decide +kernel, by decide +kernel, by decide +kernel⟩, zT_of (List.mem_of_getElem? (i := 599) (by decide +kernel)) rfl, zT_of (List.mem_of_getElem? (i := 600) (by decide +kernel)) rfl⟩
theorem ml_L_76 : Cond.methodLink RL 76 yX9_bribe ∈ zT := zT_of (List.mem_of_getElem? (i := 1126) (by decide +kernel)) rfl
theorem hy_X9_bribe : zYv yX9_bribe cX9_bribe 2 (some .int) 1 := ⟨⟨zT_of (List.mem_of_getElem? (i := 1129) (by decide +kernel)) rfl, zT_of (List.mem_of_getElem? (i := 78) (by decide +kernel)) rfl, by decide, by decide +kernel, by decide +kernel, by decide +kernel⟩, zT_of (List.mem_of_getElem? (i := 1127) (by decide +kernel)) rfl, zT_of (List.mem_of_getElem? (i := 1128) (by decide +kernel)) rfl⟩
theorem ml_L_77 : Cond.methodLink RL 77 yX8_weather ∈ zT := zT_of (List.mem_of_getElem? (i := 606) (by decide +kernel)) rfl
theorem hy_X8_weather : zYv yX8_weather cX8_weather 3 (some .int) 1 := ⟨⟨zT_of (List.mem_of_getElem? (i := 609) (by decide +kernel)) rfl, zT_of (List.mem_of_getElem? (i := 70) (by decide +kernel)) rfl, by decide, by decide +kernel, by decide +kernel, by decide +kernel⟩, zT_of (List.mem_of_getElem? (i := 607) (by decide +kernel)) rfl, zT_of (List.mem_of_getElem? (i := 608) (by decide +kernel)) rfl⟩
theorem ml_L_80 : Cond.methodLink RL 80 yX9_weather ∈ zT := zT_of (List.mem_of_getElem? (i := 1131) (by decide +kernel)) rfl
theorem hy_X9_weather : zYv yX9_weather cX9_weather 3 (some .int) 1 := ⟨⟨zT_of (List.mem_of_getElem? (i := 1134) (by decide +kernel)) rfl, zT_of (List.mem_of_getElem? (i := 78) (by decide +kernel)) rfl, by decide, by decide +kernel, by decide +kernel, by decide +kernel⟩, zT_of (List.mem_of_getElem? (i := 1132) (by decide +kernel)) rfl, zT_of (List.mem_of_getElem? (i := 1133) (by decide +kernel)) rfl⟩
theorem ml_L_81 : Cond.methodLink RL 81 yX8_day ∈ zT := zT_of (List.mem_of_getElem? (i := 610) (by decide +kernel)) rfl
theorem hy_X8_day : zYv yX8_day cX8_day 2 (some .int) 0 := ⟨⟨zT_of (List.mem_of_getElem? (i := 613) (by decide +kernel)) rfl, zT_of (List.mem_of_getElem? (i := 70) (by decide +kernel)) rfl, by decide, by decide +kernel, by decide +kernel, by decide +kernel⟩, zT_of (List.mem_of_getElem? (i := 611) (by decide +kernel)) rfl, zT_of (List.mem_of_getElem? (i := 612) (by decide +kernel)) rfl⟩
theorem ml_L_85 : Cond.methodLink RL 85 yX9_day ∈ zT := zT_of (List.mem_of_getElem? (i := 1135) (by decide +kernel)) rfl
theorem hy_X9_day : zYv yX9_day cX9_day 2 (some .int) 0 := ⟨⟨zT_of (List.mem_of_getElem? (i := 1138) (by decide +kernel)) rfl, zT_of (List.mem_of_getElem? (i := 78) (by decide +kernel)) rfl, by decide, by decide +kernel, by decide +kernel, by decide +kernel⟩, zT_of (List.mem_of_getElem? (i := 1136) (by decide +kernel)) rfl, zT_of (List.mem_of_getElem? (i := 1137) (by decide +kernel)) rfl⟩
theorem ml_L_86 : Cond.methodLink RL 86 yX8_undo ∈ zT := zT_of (List.mem_of_getElem? (i := 620) (by decide +kernel)) rfl
theorem hy_X8_undo : zYv yX8_undo cX8_undo 3 (some .int) 1 := ⟨⟨zT_of (List.mem_of_getElem? (i := 623) (by decide +kernel)) rfl, zT_of (List.mem_of_getElem? (i := 70) (by decide +kernel)) rfl, by decide, by decide +kernel, by decide +kernel, by decide +kernel⟩, zT_of (List.mem_of_getElem? (i := 621) (by decide +kernel)) rfl, zT_of (List.mem_of_getElem? (i := 622) (by decide +kernel)) rfl⟩
theorem ml_L_89 : Cond.methodLink RL 89 yX9_undo ∈ zT := zT_of (List.mem_of_getElem? (i := 1146) (by decide +kernel)) rfl
theorem hy_X9_undo : zYv yX9_undo cX9_undo 4 (some .int) 1 := ⟨⟨zT_of (List.mem_of_getElem? (i := 1149) (by decide +kernel)) rfl, zT_of (List.mem_of_getElem? (i := 78) (by decide +kernel)) rfl, by decide, by decide +kernel, by decide +kernel, by decide +kernel⟩, zT_of (List.mem_of_getElem? (i := 1147) (by decide +kernel)) rfl, zT_of (List.mem_of_getElem? (i := 1148) (by decide +kernel)) rfl⟩
theorem ml_L_90 : Cond.methodLink RL 90 yX8_keep ∈ zT := zT_of (List.mem_of_getElem? (i := 630) (by decide +kernel)) rfl
theorem hy_X8_keep : zYv yX8_keep cX8_keep 2 (some .int) 1 := ⟨⟨zT_of (List.mem_of_getElem? (i := 633) (by decide +kernel)) rfl, zT_of (List.mem_of_getElem? (i := 70) (by decide +kernel)) rfl, by decide, by decide +kernel, by decide +kernel, by decide +kernel⟩, zT_of (List.mem_of_getElem? (i := 631) (by decide +kernel)) rfl, zT_of (List.mem_of_getElem? (i := 632) (by decide +kernel)) rfl⟩
theorem ml_L_93 : Cond.methodLink RL 93 yX9_keep ∈ zT := zT_of (List.mem_of_getElem? (i := 1150) (by decide +kernel)) rfl
theorem hy_X9_keep : zYv yX9_keep cX9_keep 2 (some .int) 1 := ⟨⟨zT_of (List.mem_of_getElem? (i := 1153) (by decide +kernel)) rfl, zT_of (List.mem_of_getElem? (i := 78) (by decide +kernel)) rfl, by decide, by decide +kernel, by decide +kernel, by decide +kernel⟩, zT_of (List.mem_of_getElem? (i := 1151) (by decide +kernel)) rfl, zT_of (List.mem_of_getElem? (i := 1152) (by decide +kernel)) rfl⟩
theorem ml_L_94 : Cond.methodLink RL 94 yX8_on ∈ zT := zT_of (List.mem_of_getElem? (i := 641) (by decide +kernel)) rfl
theorem hy_X8_on : zYv yX8_on cX8_on 2 (some .int) 1 := ⟨⟨zT_of (List.mem_of_getElem? (i := 644) (by decide +kernel)) rfl, zT_of (List.mem_of_getElem? (i := 70) (by decide +kernel)) rfl, by decide, by decide +kernel, by decide +kernel, by decide +kernel⟩, zT_of (List.mem_of_getElem? (i := 642) (by decide +kernel)) rfl, zT_of (List.mem_of_getElem? (i := 643) (by decide +kernel)) rfl⟩
theorem ml_L_97 : Cond.methodLink RL 97 yX9_on ∈ zT := zT_of (List.mem_of_getElem? (i := 1158) (by decide +kernel)) rfl
theorem hy_X9_on : zYv yX9_on cX9_on 2 (some .int) 1 := ⟨⟨zT_of (List.mem_of_getElem? (i := 1161) (by decide +kernel)) rfl, zT_of (List.mem_of_getElem? (i := 78) (by decide +kernel)) rfl, by decide, by decide +kernel, by decide +kernel, by decide +kernel⟩, zT_of (List.mem_of_getElem? (i := 1159) (by decide +kernel)) rfl, zT_of (List.mem_of_getElem? (i := 1160) (by decide +kernel)) rfl⟩
theorem ml_L_98 : Cond.methodLink RL 98 yX8_ends ∈ zT := zT_of (List.mem_of_getElem? (i := 645) (by decide +kernel)) rfl
theorem hy_X8_ends : zYv yX8_ends cX8_ends 4 (some .int) 3 := ⟨⟨zT_of (List.mem_of_getElem? (i := 648) (by decide +kernel)) rfl, zT_of (List.mem_of_getElem? (i := 70) (by decide +kernel)) rfl, by decide, by decide +kernel, by decide +kernel, by decide +kernel⟩, zT_of (List.mem_of_getElem? (i := 646) (by decide +kernel)) rfl, zT_of (List.mem_of_getElem? (i := 647) (by decide +kernel)) rfl⟩
theorem ml_L_101 : Cond.methodLink RL 101 yX9_ends ∈ zT := zT_of (List.mem_of_getElem? (i := 1162) (by decide +kernel)) rfl
theorem hy_X9_ends : zYv yX9_ends cX9_ends 4 (some .int) 3 := ⟨⟨zT_of (List.mem_of_getElem? (i := 1165) (by decide +kernel)) rfl, zT_of (List.mem_of_getElem? (i := 78) (by decide +kernel)) rfl, by decide, by decide +kernel, by decide +kernel, by decide +kernel⟩, zT_of (List.mem_of_getElem? (i := 1163) (by decide +kernel)) rfl, zT_of (List.mem_of_getElem? (i := 1164) (by decide +kernel)) rfl⟩
theorem ml_L_102 : Cond.methodLink RL 102 yX8_bond ∈ zT := zT_of (List.mem_of_getElem? (i := 650) (by decide +kernel)) rfl
theorem hy_X8_bond : zYv yX8_bond cX8_bond 4 (some .int) 1 := ⟨⟨zT_of (List.mem_of_getElem? (i := 653) (by decide +kernel)) rfl, zT_of (List.mem_of_getElem? (i := 70) (by decide +kernel)) rfl, by decide, by decide +kernel, by decide +kernel, by decide +kernel⟩, zT_of (List.mem_of_getElem? (i := 651) (by decide +kernel)) rfl, zT_of (List.mem_of_getElem? (i := 652) (by decide +kernel)) rfl⟩
theorem ml_L_105 : Cond.methodLink RL 105 yX9_bond ∈ zT := zT_of (List.mem_of_getElem? (i := 1166) (by decide +kernel)) rfl
theorem hy_X9_bond : zYv yX9_bond cX9_bond 2 (some .int) 1 := ⟨⟨zT_of (List.mem_of_getElem? (i := 1169) (by decide +kernel)) rfl, zT_of (List.mem_of_getElem? (i := 78) (by decide +kernel)) rfl, by decide, by decide +kernel, by decide +kernel, by decide +kernel⟩, zT_of (List.mem_of_getElem? (i := 1167) (by decide +kernel)) rfl, zT_of (List.mem_of_getElem? (i := 1168) (by decide +kernel)) rfl⟩
theorem ml_L_106 : Cond.methodLink RL 106 yX8_least ∈ zT := zT_of (List.mem_of_getElem? (i := 656) (by decide +kernel)) rfl
theorem hy_X8_least : zYv yX8_least cX8_least 4 (some .int) 2 := ⟨⟨zT_of (List.mem_of_getElem? (i := 659) (by decide +kernel)) rfl, zT_of (List.mem_of_getElem? (i := 70) (by decide +kernel)) rfl, by decide, by decide +kernel, by decide +kernel, by decide +kernel⟩, zT_of (List.mem_of_getElem? (i := 657) (by decide +kernel)) rfl, zT_of (List.mem_of_getElem? (i := 658) (by decide +kernel)) rfl⟩
theorem ml_L_109 : Cond.methodLink RL 109 yX9_least ∈ zT := zT_of (List.mem_of_getElem? (i := 1170) (by decide +kernel)) rfl
theorem hy_X9_least : zYv yX9_least cX9_least 4 (some .int) 2 := ⟨⟨zT_of (List.mem_of_getElem? (i := 1173) (by decide +kernel)) rfl, zT_of (List.mem_of_getElem? (i := 78) (by decide +kernel)) rfl, by decide, by decide +kernel, by decide +kernel, by decide +kernel⟩, zT_of (List.mem_of_getElem? (i := 1171) (by decide +kernel)) rfl, zT_of (List.mem_of_getElem? (i := 1172) (by decide +kernel)) rfl⟩
theorem ml_L_110 : Cond.methodLink RL 110 yX8_round ∈ zT := zT_of (List.mem_of_getElem? (i := 660) (by decide +kernel)) rfl
theorem hy_X8_round : zYv yX8_round cX8_round 4 (some .int) 2 := ⟨⟨zT_of (List.mem_of_getElem? (i := 663) (by decide +kernel)) rfl, zT_of (List.mem_of_getElem? (i := 70) (by decide +kernel)) rfl, by decide, by decide +kernel, by decide +kernel, by decide +kernel⟩, zT_of (List.mem_of_getElem? (i := 661) (by decide +kernel)) rfl, zT_of (List.mem_of_getElem? (i := 662) (by decide +kernel)) rfl⟩
theorem ml_L_113 : Cond.methodLink RL 113 yX9_round ∈ zT := zT_of (List.mem_of_getElem? (i := 1174) (by decide +kernel)) rfl
theorem hy_X9_round : zYv yX9_round cX9_round 7 (some .int) 2 := ⟨⟨zT_of (List.mem_of_getElem? (i := 1177) (by decide +kernel)) rfl, zT_of (List.mem_of_getElem? (i := 78) (by decide +kernel)) rfl, by decide, by decide +kernel, by decide +kernel, by decide +kernel⟩, zT_of (List.mem_of_getElem? (i := 1175) (by decide +kernel)) rfl, zT_of (List.mem_of_getElem? (i := 1176) (by decide +kernel)) rfl⟩
theorem ml_L_114 : Cond.methodLink RL 114 yX8_plan ∈ zT := zT_of (List.mem_of_getElem? (i := 685) (by decide +kernel)) rfl
theorem hy_X8_plan : zYv yX8_plan cX8_plan 5 (some .int) 3 := ⟨⟨zT_of (List.mem_of_getElem? (i := 688) (by decide +kernel)) rfl, zT_of (List.mem_of_getElem? (i := 70) (by decide +kernel)) rfl, by decide, by decide +kernel, by decide +kernel, by decide +kernel⟩, zT_of (List.mem_of_getElem? (i := 686) (by decide +kernel)) rfl, zT_of (List.mem_of_getElem? (i := 687) (by decide +kernel)) rfl⟩
theorem ml_L_117 : Cond.methodLink RL 117 yX9_plan ∈ zT := zT_of (List.mem_of_getElem? (i := 1202) (by decide +kernel)) rfl
theorem hy_X9_plan : zYv yX9_plan cX9_plan 6 (some .int) 3 := ⟨⟨zT_of (List.mem_of_getElem? (i := 1205) (by decide +kernel)) rfl, zT_of (List.mem_of_getElem? (i := 78) (by decide +kernel)) rfl, by decide, by decide +kernel, by decide +kernel, by decide +kernel⟩, zT_of (List.mem_of_getElem? (i := 1203) (by decide +kernel)) rfl, zT_of (List.mem_of_getElem? (i := 1204) (by decide +kernel)) rfl⟩
theorem ml_L_118 : Cond.methodLink RL 118 yX8_rest ∈ zT := zT_of (List.mem_of_getElem? (i := 700) (by decide +kernel)) rfl
theorem hy_X8_rest : zYv yX8_rest cX8_rest 8 (some .int) 3 := ⟨⟨zT_of (List.mem_of_getElem? (i := 703) (by decide +kernel)) rfl, zT_of (List.mem_of_getElem? (i := 70) (by decide +kernel)) rfl, by decide, by decide +kernel, by decide +kernel, by decide +kernel⟩, zT_of (List.mem_of_getElem? (i := 701) (by decide +kernel)) rfl, zT_of (List.mem_of_getElem? (i := 702) (by decide +kernel)) rfl⟩
theorem ml_L_121 : Cond.methodLink RL 121 yX9_rest ∈ zT := zT_of (List.mem_of_getElem? (i := 1207) (by decide +kernel)) rfl
theorem hy_X9_rest : zYv yX9_rest cX9_rest 7 (some .int) 3 := ⟨⟨zT_of (List.mem_of_getElem? (i := 1210) (by decide +kernel)) rfl, zT_of (List.mem_of_getElem? (i := 78) (by decide +kernel)) rfl, by decide, by decide +kernel, by decide +kernel, by decide +kernel⟩, zT_of (List.mem_of_getElem? (i := 1208) (by decide +kernel)) rfl, zT_of (List.mem_of_getElem? (i := 1209) (by decide +kernel)) rfl⟩
theorem ml_L_122 : Cond.methodLink RL 122 yX8_meant ∈ zT := zT_of (List.mem_of_getElem? (i := 710) (by decide +kernel)) rfl
theorem hy_X8_meant : zYv yX8_meant cX8_meant 4 (some .int) 2 := ⟨⟨zT_of (List.mem_of_getElem? (i := 713) (by decide +kernel)) rfl, zT_of (List.mem_of_getElem? (i := 70) (by decide +kernel)) rfl, by decide, by decide +kernel, by decide +kernel, by decide +kernel⟩, zT_of (List.mem_of_getElem? (i := 711) (by decide +kernel)) rfl, zT_of (List.mem_of_getElem? (i := 712) (by decide +kernel)) rfl⟩
theorem ml_L_125 : Cond.methodLink RL 125 yX9_meant ∈ zT := zT_of (List.mem_of_getElem? (i := 1215) (by decide +kernel)) rfl
theorem hy_X9_meant : zYv yX9_meant cX9_meant 4 (some .int) 2 := ⟨⟨zT_of (List.mem_of_getElem? (i := 1218) (by decide +kernel)) rfl, zT_of (List.mem_of_getElem? (i := 78) (by decide +kernel)) rfl, by decide, by decide +kernel, by decide +kernel, by decide +kernel⟩, zT_of (List.mem_of_getElem? (i := 1216) (by decide +kernel)) rfl, zT_of (List.mem_of_getElem? (i := 1217) (by decide +kernel)) rfl⟩
theorem ml_L_126 : Cond.methodLink RL 126 yX8_kinds ∈ zT := zT_of (List.mem_of_getElem? (i := 724) (by decide +kernel)) rfl
theorem hy_X8_kinds : zYv yX8_kinds cX8_kinds 4 (some .int) 2 := ⟨⟨zT_of (List.mem_of_getElem? (i := 727) (by decide +kernel)) rfl, zT_of (List.mem_of_getElem? (i := 70) (by decide +kernel)) rfl, by decide, by decide +kernel, by decide +kernel, by decide +kernel⟩, zT_of (List.mem_of_getElem? (i := 725) (by decide +kernel)) rfl, zT_of (List.mem_of_getElem? (i := 726) (by decide +kernel)) rfl⟩
theorem ml_L_129 : Cond.methodLink RL 129 yX9_kinds ∈ zT := zT_of (List.mem_of_getElem? (i := 1231) (by decide +kernel)) rfl
theorem hy_X9_kinds : zYv yX9_kinds cX9_kinds 6 (some .int) 2 := ⟨⟨zT_of (List.mem_of_getElem? (i := 1234) (by decide +kernel)) rfl, zT_of (List.mem_of_getElem? (i := 78) (by decide +kernel)) rfl, by decide, by decide +kernel, by decide +kernel, by decide +kernel⟩, zT_of (List.mem_of_getElem? (i := 1232) (by decide +kernel)) rfl, zT_of (List.mem_of_getElem? (i := 1233) (by decide +kernel)) rfl⟩
theorem ml_L_130 : Cond.methodLink RL 130 yX8_test ∈ zT := zT_of (List.mem_of_getElem? (i := 731) (by decide +kernel)) rfl
theorem hy_X8_test : zYv yX8_test cX8_test 6 (some .int) 2 := ⟨⟨zT_of (List.mem_of_getElem? (i := 734) (by decide +kernel)) rfl, zT_of (List.mem_of_getElem? (i := 70) (by decide +kernel)) rfl, by decide, by decide +kernel, by decide +kernel, by decide +kernel⟩, zT_of (List.mem_of_getElem? (i := 732) (by decide +kernel)) rfl, zT_of (List.mem_of_getElem? (i := 733) (by decide +kernel)) rfl⟩
theorem ml_L_133 : Cond.methodLink RL 133 yX9_test ∈ zT := zT_of (List.mem_of_getElem? (i := 1235) (by decide +kernel)) rfl
theorem hy_X9_test : zYv yX9_test cX9_test 9 (some .int) 2 := ⟨⟨zT_of (List.mem_of_getElem? (i := 1238) (by decide +kernel)) rfl, zT_of (List.mem_of_getElem? (i := 78) (by decide +kernel)) rfl, by decide, by decide +kernel, by decide +kernel, by decide +kernel⟩, zT_of (List.mem_of_getElem? (i := 1236) (by decide +kernel)) rfl, zT_of (List.mem_of_getElem? (i := 1237) (by decide +kernel)) rfl⟩
theorem ml_L_134 : Cond.methodLink RL 134 yX8_sets ∈ zT := zT_of (List.mem_of_getElem? (i := 745) (by decide +kernel)) rfl
theorem hy_X8_sets : zYv yX8_sets cX8_sets 5 (some .int) 1 := ⟨⟨zT_of (List.mem_of_getElem? (i := 748) (by decide +kernel)) rfl, zT_of (List.mem_of_getElem? (i := 70) (by decide +kernel)) rfl, by decide, by decide +kernel, by decide +kernel, by decide +kernel⟩, zT_of (List.mem_of_getElem? (i := 746) (by decide +kernel)) rfl, zT_of (List.mem_of_getElem? (i := 747) (by decide +kernel)) rfl⟩
theorem ml_L_137 : Cond.methodLink RL 137 yX9_sets ∈ zT := zT_of (List.mem_of_getElem? (i := 1244) (by decide +kernel)) rfl
theorem hy_X9_sets : zYv yX9_sets cX9_sets 6 (some .int) 1 := ⟨⟨zT_of (List.mem_of_getElem? (i := 1247) (by decide +kernel)) rfl, zT_of (List.mem_of_getElem? (i := 78) (by decide +kernel)) rfl, by decide, by decide +kernel, by decide +kernel, by decide +kernel⟩, zT_of (List.mem_of_getElem? (i := 1245) (by decide +kernel)) rfl, zT_of (List.mem_of_getElem? (i := 1246) (by decide +kernel)) rfl⟩
theorem ml_L_138 : Cond.methodLink RL 138 yX8_sure ∈ zT := zT_of (List.mem_of_getElem? (i := 760) (by decide +kernel)) rfl
theorem hy_X8_sure : zYv yX8_sure cX8_sure 6 (some .int) 1 := ⟨⟨zT_of (List.mem_of_getElem? (i := 763) (by decide +kernel)) rfl, zT_of (List.mem_of_getElem? (i := 70) (by decide +kernel)) rfl, by decide, by decide +kernel, by decide +kernel, by decide +kernel⟩, zT_of (List.mem_of_getElem? (i := 761) (by decide +kernel)) rfl, zT_of (List.mem_of_getElem? (i := 762) (by decide +kernel)) rfl⟩
theorem ml_L_141 : Cond.methodLink RL 141 yX9_sure ∈ zT := zT_of (List.mem_of_getElem? (i := 1257) (by decide +kernel)) rfl
theorem hy_X9_sure : zYv yX9_sure cX9_sure 8 (some .int) 1 := ⟨⟨zT_of (List.mem_of_getElem? (i := 1260) (by decide +kernel)) rfl, zT_of (List.mem_of_getElem? (i := 78) (by decide +kernel)) rfl, by decide, by decide +kernel, by decide +kernel, by decide +kernel⟩, zT_of (List.mem_of_getElem? (i := 1258) (by decide +kernel)) rfl, zT_of (List.mem_of_getElem? (i := 1259) (by decide +kernel)) rfl⟩
theorem ml_L_142 : Cond.methodLink RL 142 yX8_duel ∈ zT := zT_of (List.mem_of_getElem? (i := 764) (by decide +kernel)) rfl
theorem hy_X8_duel : zYv yX8_duel cX8_duel 2 (some .int) 1 := ⟨⟨zT_of (List.mem_of_getElem? (i := 767) (by decide +kernel)) rfl, zT_of (List.mem_of_getElem? (i := 70) (by decide +kernel)) rfl, by decide, by decide +kernel, by decide +kernel, by decide +kernel⟩, zT_of (List.mem_of_getElem? (i := 765) (by decide +kernel)) rfl, zT_of (List.mem_of_getElem? (i := 766) (by decide +kernel)) rfl⟩
theorem ml_L_145 : Cond.methodLink RL 145 yX9_duel ∈ zT := zT_of (List.mem_of_getElem? (i := 1261) (by decide +kernel)) rfl
theorem hy_X9_duel : zYv yX9_duel cX9_duel 6 (some .int) 1 := ⟨⟨zT_of (List.mem_of_getElem? (i := 1264) (by decide +kernel)) rfl, zT_of (List.mem_of_getElem? (i := 78) (by decide +kernel)) rfl, by decide, by decide +kernel, by decide +kernel, by decide +kernel⟩, zT_of (List.mem_of_getElem? (i := 1262) (by decide +kernel)) rfl, zT_of (List.mem_of_getElem? (i := 1263) (by decide +kernel)) rfl⟩
theorem ml_L_146 : Cond.methodLink RL 146 yX8_odds ∈ zT := zT_of (List.mem_of_getElem? (i := 776) (by decide +kernel)) rfl
theorem hy_X8_odds : zYv yX8_odds cX8_odds 5 (some .int) 3 := ⟨⟨zT_of (List.mem_of_getElem? (i := 779) (by decide +kernel)) rfl, zT_of (List.mem_of_getElem? (i := 70) (by decide +kernel)) rfl, by decide, by decide +kernel, by decide +kernel, by decide +kernel⟩, zT_of (List.mem_of_getElem? (i := 777) (by decide +kernel)) rfl, zT_of (List.mem_of_getElem? (i := 778) (by decide +kernel)) rfl⟩
theorem ml_L_149 : Cond.methodLink RL 149 yX9_odds ∈ zT := zT_of (List.mem_of_getElem? (i := 1276) (by decide +kernel)) rfl
theorem hy_X9_odds : zYv yX9_odds cX9_odds 5 (some .int) 3 := ⟨⟨zT_of (List.mem_of_getElem? (i := 1279) (by decide +kernel)) rfl, zT_of (List.mem_of_getElem? (i := 78) (by decide +kernel)) rfl, by decide, by decide +kernel, by decide +kernel, by decide +kernel⟩, zT_of (List.mem_of_getElem? (i := 1277) (by decide +kernel)) rfl, zT_of (List.mem_of_getElem? (i := 1278) (by decide +kernel)) rfl⟩
theorem ml_L_150 : Cond.methodLink RL 150 yX8_mid ∈ zT := zT_of (List.mem_of_getElem? (i := 795) (by decide +kernel)) rfl
theorem hy_X8_mid : zYv yX8_mid cX8_mid 4 (some .int) 2 := ⟨⟨zT_of (List.mem_of_getElem? (i := 798) (by decide +kernel)) rfl, zT_of (List.mem_of_getElem? (i := 70) (by decide +kernel)) rfl, by decide, by decide +kernel, by decide +kernel, by decide +kernel⟩, zT_of (List.mem_of_getElem? (i := 796) (by decide +kernel)) rfl, zT_of (List.mem_of_getElem? (i := 797) (by decide +kernel)) rfl⟩
theorem ml_L_153 : Cond.methodLink RL 153 yX9_mid ∈ zT := zT_of (List.mem_of_getElem? (i := 1293) (by decide +kernel)) rfl
theorem hy_X9_mid : zYv yX9_mid cX9_mid 4 (some .int) 2 := ⟨⟨zT_of (List.mem_of_getElem? (i := 1296) (by decide +kernel)) rfl, zT_of (List.mem_of_getElem? (i := 78) (by decide +kernel)) rfl, by decide, by decide +kernel, by decide +kernel, by decide +kernel⟩, zT_of (List.mem_of_getElem? (i := 1294) (by decide +kernel)) rfl, zT_of (List.mem_of_getElem? (i := 1295) (by decide +kernel)) rfl⟩
theorem ml_L_154 : Cond.methodLink RL 154 yX8_lots ∈ zT := zT_of (List.mem_of_getElem? (i := 799) (by decide +kernel)) rfl
theorem hy_X8_lots : zYv yX8_lots cX8_lots 6 (some .int) 2 := ⟨⟨zT_of (List.mem_of_getElem? (i := 802) (by decide +kernel)) rfl, zT_of (List.mem_of_getElem? (i := 70) (by decide +kernel)) rfl, by decide, by decide +kernel, by decide +kernel, by decide +kernel⟩, zT_of (List.mem_of_getElem? (i := 800) (by decide +kernel)) rfl, zT_of (List.mem_of_getElem? (i := 801) (by decide +kernel)) rfl⟩
theorem ml_L_157 : Cond.methodLink RL 157 yX9_lots ∈ zT := zT_of (List.mem_of_getElem? (i := 1297) (by decide +kernel)) rfl
theorem hy_X9_lots : zYv yX9_lots cX9_lots 6 (some .int) 2 := ⟨⟨zT_of (List.mem_of_getElem? (i := 1300) (by decide +kernel)) rfl, zT_of (List.mem_of_getElem? (i := 78) (by decide +kernel)) rfl, by decide, by decide +kernel, by decide +kernel, by decide +kernel⟩, zT_of (List.mem_of_getElem? (i := 1298) (by decide +kernel)) rfl, zT_of (List.mem_of_getElem? (i := 1299) (by decide +kernel)) rfl⟩
theorem ml_L_158 : Cond.methodLink RL 158 yX8_asked ∈ zT := zT_of (List.mem_of_getElem? (i := 813) (by decide +kernel)) rfl
theorem hy_X8_asked : zYv yX8_asked cX8_asked 1 (some .int) 0 := ⟨⟨zT_of (List.mem_of_getElem? (i := 816) (by decide +kernel)) rfl, zT_of (List.mem_of_getElem? (i := 70) (by decide +kernel)) rfl, by decide, by decide +kernel, by decide +kernel, by decide +kernel⟩, zT_of (List.mem_of_getElem? (i := 814) (by decide +kernel)) rfl, zT_of (List.mem_of_getElem? (i := 815) (by decide +kernel)) rfl⟩
theorem ml_L_161 : Cond.methodLink RL 161 yX9_asked ∈ zT := zT_of (List.mem_of_getElem? (i := 1314) (by decide +kernel)) rfl
theorem hy_X9_asked : zYv yX9_asked cX9_asked 1 (some .int) 0 := ⟨⟨zT_of (List.mem_of_getElem? (i := 1317) (by decide +kernel)) rfl, zT_of (List.mem_of_getElem? (i := 78) (by decide +kernel)) rfl, by decide, by decide +kernel, by decide +kernel, by decide +kernel⟩, zT_of (List.mem_of_getElem? (i := 1315) (by decide +kernel)) rfl, zT_of (List.mem_of_getElem? (i := 1316) (by decide +kernel)) rfl⟩
theorem ml_L_162 : Cond.methodLink RL 162 yX8_upper ∈ zT := zT_of (List.mem_of_getElem? (i := 817) (by decide +kernel)) rfl
theorem hy_X8_upper : zYv yX8_upper cX8_upper 1 (some .long) 0 := ⟨⟨zT_of (List.mem_of_getElem? (i := 820) (by decide +kernel)) rfl, zT_of (List.mem_of_getElem? (i := 70) (by decide +kernel)) rfl, by decide, by decide +kernel, by decide +kernel, by decide +kernel⟩, zT_of (List.mem_of_getElem? (i := 818) (by decide +kernel)) rfl, zT_of (List.mem_of_getElem? (i := 819) (by decide +kernel)) rfl⟩
theorem ml_L_166 : Cond.methodLink RL 166 yX9_upper ∈ zT := zT_of (List.mem_of_getElem? (i := 1318) (by decide +kernel)) rfl
theorem hy_X9_upper : zYv yX9_upper cX9_upper 1 (some .long) 0 := ⟨⟨zT_of (List.mem_of_getElem? (i := 1321) (by decide +kernel)) rfl, zT_of (List.mem_of_getElem? (i := 78) (by decide +kernel)) rfl, by decide, by decide +kernel, by decide +kernel, by decide +kernel⟩, zT_of (List.mem_of_getElem? (i := 1319) (by decide +kernel)) rfl, zT_of (List.mem_of_getElem? (i := 1320) (by decide +kernel)) rfl⟩
theorem ml_L_167 : Cond.methodLink RL 167 yX8_lower ∈ zT := zT_of (List.mem_of_getElem? (i := 821) (by decide +kernel)) rfl
theorem hy_X8_lower : zYv yX8_lower cX8_lower 1 (some .long) 0 := ⟨⟨zT_of (List.mem_of_getElem? (i := 824) (by decide +kernel)) rfl, zT_of (List.mem_of_getElem? (i := 70) (by decide +kernel)) rfl, by decide, by decide +kernel, by decide +kernel, by decide +kernel⟩, zT_of (List.mem_of_getElem? (i := 822) (by decide +kernel)) rfl, zT_of (List.mem_of_getElem? (i := 823) (by decide +kernel)) rfl⟩
theorem ml_L_170 : Cond.methodLink RL 170 yX9_lower ∈ zT := zT_of (List.mem_of_getElem? (i := 1322) (by decide +kernel)) rfl
theorem hy_X9_lower : zYv yX9_lower cX9_lower 1 (some .long) 0 := ⟨⟨zT_of (List.mem_of_getElem? (i := 1325) (by decide +kernel)) rfl, zT_of (List.mem_of_getElem? (i := 78) (by decide +kernel)) rfl, by decide, by decide +kernel, by decide +kernel, by decide +kernel⟩, zT_of (List.mem_of_getElem? (i := 1323) (by decide +kernel)) rfl, zT_of (List.mem_of_getElem? (i := 1324) (by decide +kernel)) rfl⟩
theorem ml_L_171 : Cond.methodLink RL 171 yX8_count ∈ zT := zT_of (List.mem_of_getElem? (i := 825) (by decide +kernel)) rfl
theorem hy_X8_count : zYv yX8_count cX8_count 2 (some .int) 1 := ⟨⟨zT_of (List.mem_of_getElem? (i := 828) (by decide +kernel)) rfl, zT_of (List.mem_of_getElem? (i := 70) (by decide +kernel)) rfl, by decide, by decide +kernel, by decide +kernel, by decide +kernel⟩, zT_of (List.mem_of_getElem? (i := 826) (by decide +kernel)) rfl, zT_of (List.mem_of_getElem? (i := 827) (by decide +kernel)) rfl⟩
theorem ml_L_174 : Cond.methodLink RL 174 yX9_count ∈ zT := zT_of (List.mem_of_getElem? (i := 1326) (by decide +kernel)) rfl
theorem hy_X9_count : zYv yX9_count cX9_count 2 (some .int) 1 := ⟨⟨zT_of (List.mem_of_getElem? (i := 1329) (by decide +kernel)) rfl, zT_of (List.mem_of_getElem? (i := 78) (by decide +kernel)) rfl, by decide, by decide +kernel, by decide +kernel, by decide +kernel⟩, zT_of (List.mem_of_getElem? (i := 1327) (by decide +kernel)) rfl, zT_of (List.mem_of_getElem? (i := 1328) (by decide +kernel)) rfl⟩
theorem ml_L_175 : Cond.methodLink RL 175 yX8_finding ∈ zT := zT_of (List.mem_of_getElem? (i := 845) (by decide +kernel)) rfl
theorem hy_X8_finding : zYv yX8_finding cX8_finding 1 (some .int) 0 := ⟨⟨zT_of (List.mem_of_getElem? (i := 848) (by decide +kernel)) rfl, zT_of (List.mem_of_getElem? (i := 70) (by decide +kernel)) rfl, by decide, by decide +kernel, by decide +kernel, by decide +kernel⟩, zT_of (List.mem_of_getElem? (i := 846) (by decide +kernel)) rfl, zT_of (List.mem_of_getElem? (i := 847) (by decide +kernel)) rfl⟩
theorem ml_L_178 : Cond.methodLink RL 178 yX9_finding ∈ zT := zT_of (List.mem_of_getElem? (i := 1343) (by decide +kernel)) rfl
theorem hy_X9_finding : zYv yX9_finding cX9_finding 1 (some .int) 0 := ⟨⟨zT_of (List.mem_of_getElem? (i := 1346) (by decide +kernel)) rfl, zT_of (List.mem_of_getElem? (i := 78) (by decide +kernel)) rfl, by decide, by decide +kernel, by decide +kernel, by decide +kernel⟩, zT_of (List.mem_of_getElem? (i := 1344) (by decide +kernel)) rfl, zT_of (List.mem_of_getElem? (i := 1345) (by decide +kernel)) rfl⟩
theorem ml_L_179 : Cond.methodLink RL 179 yX8_findings ∈ zT := zT_of (List.mem_of_getElem? (i := 849) (by decide +kernel)) rfl
theorem hy_X8_findings : zYv yX8_findings cX8_findings 2 (some .int) 1 := ⟨⟨zT_of (List.mem_of_getElem? (i := 852) (by decide +kernel)) rfl, zT_of (List.mem_of_getElem? (i := 70) (by decide +kernel)) rfl, by decide, by decide +kernel, by decide +kernel, by decide +kernel⟩, zT_of (List.mem_of_getElem? (i := 850) (by decide +kernel)) rfl, zT_of (List.mem_of_getElem? (i := 851) (by decide +kernel)) rfl⟩
theorem ml_L_182 : Cond.methodLink RL 182 yX9_findings ∈ zT := zT_of (List.mem_of_getElem? (i := 1347) (by decide +kernel)) rfl
theorem hy_X9_findings : zYv yX9_findings cX9_findings 2 (some .int) 1 := ⟨⟨zT_of (List.mem_of_getElem? (i := 1350) (by decide +kernel)) rfl, zT_of (List.mem_of_getElem? (i := 78) (by decide +kernel)) rfl, by decide, by decide +kernel, by decide +kernel, by decide +kernel⟩, zT_of (List.mem_of_getElem? (i := 1348) (by decide +kernel)) rfl, zT_of (List.mem_of_getElem? (i := 1349) (by decide +kernel)) rfl⟩
theorem ml_L_183 : Cond.methodLink RL 183 yX8_digest ∈ zT := zT_of (List.mem_of_getElem? (i := 853) (by decide +kernel)) rfl
theorem hy_X8_digest : zYv yX8_digest cX8_digest 7 (some .long) 0 := ⟨⟨zT_of (List.mem_of_getElem? (i := 856) (by decide +kernel)) rfl, zT_of (List.mem_of_getElem? (i := 70) (by decide +kernel)) rfl, by decide, by decide +kernel, by decide +kernel, by decide +kernel⟩, zT_of (List.mem_of_getElem? (i := 854) (by decide +kernel)) rfl, zT_of (List.mem_of_getElem? (i := 855) (by decide +kernel)) rfl⟩
theorem ml_L_186 : Cond.methodLink RL 186 yX9_digest ∈ zT := zT_of (List.mem_of_getElem? (i := 1351) (by decide +kernel)) rfl
theorem hy_X9_digest : zYv yX9_digest cX9_digest 5 (some .long) 0 := ⟨⟨zT_of (List.mem_of_getElem? (i := 1354) (by decide +kernel)) rfl, zT_of (List.mem_of_getElem? (i := 78) (by decide +kernel)) rfl, by decide, by decide +kernel, by decide +kernel, by decide +kernel⟩, zT_of (List.mem_of_getElem? (i := 1352) (by decide +kernel)) rfl, zT_of (List.mem_of_getElem? (i := 1353) (by decide +kernel)) rfl⟩
theorem case_0 {wc wm : zWd} {X : zLX} {Sc Sm : zMem} {ls : Array Slot} {l0 : Launch} {L i bs0 : Nat} {xs : Nat → Int32} {Inv : zMem → zMem → Prop} (C : zLK wc wm X l0 L xs) (hbs : match X with | (_, _, _, _, _, _, _, _, bs) => bs = bs0) (hl : lv_has ls 4 [(0, .ref bs0), (1, .ref (wc.2.2.1 0)), (2, .ref (wm.2.2.1 0)), (3, .int (nI i))]) (hij : i + 6 ≤ L) (hI : Inv Sc Sm) (hq : ∀ a b2 : Int32, zIi Inv (f_X8_row a b2) (f_X9_row a b2)) (kk : ∀ Sc Sm, Inv Sc Sm → zL wc wm X Sc Sm 1415 ls []) : zL wc wm X Sc Sm 216 ls [] := by
  obtain ⟨r, Sc1, Sm1, hc, hm, hJ⟩ := hq (xs (i + 1)) (xs (i + 2)) Sc Sm hI
  refine l_aload 216 C dL_law_216 rfl (lv_at hl 1 rfl) ?_
  refine l_arg 217 1 C hbs hl dL_law_217 dL_law_218 dL_law_219 dL_law_220 dL_law_221 (by decide) hij ?_
  refine l_arg 222 2 C hbs hl dL_law_222 dL_law_223 dL_law_224 dL_law_225 dL_law_226 (by decide) hij ?_
  refine l_callC 227 C (ci := 7) [] dL_law_227 ml_L_13 hy_X8_row (c_X8_row hc) ⟨Nat.le_of_ble_eq_true rfl, Nat.le_of_ble_eq_true rfl⟩ rfl hl.1 rfl rfl (Nat.le_of_ble_eq_true rfl) rfl ?_
  refine l_aload 230 C dL_law_230 rfl (lv_at hl 2 rfl) ?_
  refine l_arg 231 1 C hbs hl dL_law_231 dL_law_232 dL_law_233 dL_law_234 dL_law_235 (by decide) hij ?_
  refine l_arg 236 2 C hbs hl dL_law_236 dL_law_237 dL_law_238 dL_law_239 dL_law_240 (by decide) hij ?_
  refine l_callM 241 C (ci := 8) [.int r] dL_law_241 ml_L_17 hy_X9_row (c_X9_row hm) ⟨Nat.le_of_ble_eq_true rfl, Nat.le_of_ble_eq_true rfl⟩ rfl hl.1 rfl rfl (Nat.le_of_ble_eq_true rfl) rfl ?_
  refine l_eqi 244 C dL_law_244 (by decide) ?_
  exact kk _ _ hJ
theorem case_1 {wc wm : zWd} {X : zLX} {Sc Sm : zMem} {ls : Array Slot} {l0 : Launch} {L i bs0 : Nat} {xs : Nat → Int32} {Inv : zMem → zMem → Prop} (C : zLK wc wm X l0 L xs) (hbs : match X with | (_, _, _, _, _, _, _, _, bs) => bs = bs0) (hl : lv_has ls 4 [(0, .ref bs0), (1, .ref (wc.2.2.1 0)), (2, .ref (wm.2.2.1 0)), (3, .int (nI i))]) (hij : i + 6 ≤ L) (hI : Inv Sc Sm) (hq : ∀ a b2 c3 : Int32, zIi Inv (f_X8_lay a b2 c3) (f_X9_lay a b2 c3)) (kk : ∀ Sc Sm, Inv Sc Sm → zL wc wm X Sc Sm 1415 ls []) : zL wc wm X Sc Sm 249 ls [] := by
  obtain ⟨r, Sc1, Sm1, hc, hm, hJ⟩ := hq (xs (i + 1)) (xs (i + 2)) (xs (i + 3)) Sc Sm hI
  refine l_aload 249 C dL_law_249 rfl (lv_at hl 1 rfl) ?_
  refine l_arg 250 1 C hbs hl dL_law_250 dL_law_251 dL_law_252 dL_law_253 dL_law_254 (by decide) hij ?_
  refine l_arg 255 2 C hbs hl dL_law_255 dL_law_256 dL_law_257 dL_law_258 dL_law_259 (by decide) hij ?_
  refine l_arg 260 3 C hbs hl dL_law_260 dL_law_261 dL_law_262 dL_law_263 dL_law_264 (by decide) hij ?_
  refine l_callC 265 C (ci := 7) [] dL_law_265 ml_L_18 hy_X8_lay (c_X8_lay hc) ⟨Nat.le_of_ble_eq_true rfl, Nat.le_of_ble_eq_true rfl⟩ rfl hl.1 rfl rfl (Nat.le_of_ble_eq_true rfl) rfl ?_
  refine l_aload 268 C dL_law_268 rfl (lv_at hl 2 rfl) ?_
  refine l_arg 269 1 C hbs hl dL_law_269 dL_law_270 dL_law_271 dL_law_272 dL_law_273 (by decide) hij ?_
  refine l_arg 274 2 C hbs hl dL_law_274 dL_law_275 dL_law_276 dL_law_277 dL_law_278 (by decide) hij ?_
  refine l_arg 279 3 C hbs hl dL_law_279 dL_law_280 dL_law_281 dL_law_282 dL_law_283 (by decide) hij ?_
  refine l_callM 284 C (ci := 8) [.int r] dL_law_284 ml_L_22 hy_X9_lay (c_X9_lay hm) ⟨Nat.le_of_ble_eq_true rfl, Nat.le_of_ble_eq_true rfl⟩ rfl hl.1 rfl rfl (Nat.le_of_ble_eq_true rfl) rfl ?_
  refine l_eqi 287 C dL_law_287 (by decide) ?_
  exact kk _ _ hJ
theorem case_2 {wc wm : zWd} {X : zLX} {Sc Sm : zMem} {ls : Array Slot} {l0 : Launch} {L i bs0 : Nat} {xs : Nat → Int32} {Inv : zMem → zMem → Prop} (C : zLK wc wm X l0 L xs) (hbs : match X with | (_, _, _, _, _, _, _, _, bs) => bs = bs0) (hl : lv_has ls 4 [(0, .ref bs0), (1, .ref (wc.2.2.1 0)), (2, .ref (wm.2.2.1 0)), (3, .int (nI i))]) (hij : i + 6 ≤ L) (hI : Inv Sc Sm) (hq : ∀ a b2 : Int32, zIi Inv (f_X8_at a b2) (f_X9_at a b2)) (kk : ∀ Sc Sm, Inv Sc Sm → zL wc wm X Sc Sm 1415 ls []) : zL wc wm X Sc Sm 292 ls [] := by
  obtain ⟨r, Sc1, Sm1, hc, hm, hJ⟩ := hq (xs (i + 1)) (xs (i + 2)) Sc Sm hI
  refine l_aload 292 C dL_law_292 rfl (lv_at hl 1 rfl) ?_
  refine l_arg 293 1 C hbs hl dL_law_293 dL_law_294 dL_law_295 dL_law_296 dL_law_297 (by decide) hij ?_
  refine l_arg 298 2 C hbs hl dL_law_298 dL_law_299 dL_law_300 dL_law_301 dL_law_302 (by decide) hij ?_
  refine l_callC 303 C (ci := 7) [] dL_law_303 ml_L_23 hy_X8_at (c_X8_at hc) ⟨Nat.le_of_ble_eq_true rfl, Nat.le_of_ble_eq_true rfl⟩ rfl hl.1 rfl rfl (Nat.le_of_ble_eq_true rfl) rfl ?_
  refine l_aload 306 C dL_law_306 rfl (lv_at hl 2 rfl) ?_
  refine l_arg 307 1 C hbs hl dL_law_307 dL_law_308 dL_law_309 dL_law_310 dL_law_311 (by decide) hij ?_
  refine l_arg 312 2 C hbs hl dL_law_312 dL_law_313 dL_law_314 dL_law_315 dL_law_316 (by decide) hij ?_
  refine l_callM 317 C (ci := 8) [.int r] dL_law_317 ml_L_26 hy_X9_at (c_X9_at hm) ⟨Nat.le_of_ble_eq_true rfl, Nat.le_of_ble_eq_true rfl⟩ rfl hl.1 rfl rfl (Nat.le_of_ble_eq_true rfl) rfl ?_
  refine l_eqi 320 C dL_law_320 (by decide) ?_
  exact kk _ _ hJ
theorem case_3 {wc wm : zWd} {X : zLX} {Sc Sm : zMem} {ls : Array Slot} {l0 : Launch} {L i bs0 : Nat} {xs : Nat → Int32} {Inv : zMem → zMem → Prop} (C : zLK wc wm X l0 L xs) (hbs : match X with | (_, _, _, _, _, _, _, _, bs) => bs = bs0) (hl : lv_has ls 4 [(0, .ref bs0), (1, .ref (wc.2.2.1 0)), (2, .ref (wm.2.2.1 0)), (3, .int (nI i))]) (hij : i + 6 ≤ L) (hI : Inv Sc Sm) (hq : ∀ a : Int32, zIi Inv (f_X8_tear a) (f_X9_tear a)) (kk : ∀ Sc Sm, Inv Sc Sm → zL wc wm X Sc Sm 1415 ls []) : zL wc wm X Sc Sm 325 ls [] := by
  obtain ⟨r, Sc1, Sm1, hc, hm, hJ⟩ := hq (xs (i + 1)) Sc Sm hI
  refine l_aload 325 C dL_law_325 rfl (lv_at hl 1 rfl) ?_
  refine l_arg 326 1 C hbs hl dL_law_326 dL_law_327 dL_law_328 dL_law_329 dL_law_330 (by decide) hij ?_
  refine l_callC 331 C (ci := 7) [] dL_law_331 ml_L_27 hy_X8_tear (c_X8_tear hc) ⟨Nat.le_of_ble_eq_true rfl, Nat.le_of_ble_eq_true rfl⟩ rfl hl.1 rfl rfl (Nat.le_of_ble_eq_true rfl) rfl ?_
  refine l_aload 334 C dL_law_334 rfl (lv_at hl 2 rfl) ?_
  refine l_arg 335 1 C hbs hl dL_law_335 dL_law_336 dL_law_337 dL_law_338 dL_law_339 (by decide) hij ?_
  refine l_callM 340 C (ci := 8) [.int r] dL_law_340 ml_L_31 hy_X9_tear (c_X9_tear hm) ⟨Nat.le_of_ble_eq_true rfl, Nat.le_of_ble_eq_true rfl⟩ rfl hl.1 rfl rfl (Nat.le_of_ble_eq_true rfl) rfl ?_
  refine l_eqi 343 C dL_law_343 (by decide) ?_
  exact kk _ _ hJ
theorem case_4 {wc wm : zWd} {X : zLX} {Sc Sm : zMem} {ls : Array Slot} {l0 : Launch} {L i bs0 : Nat} {xs : Nat → Int32} {Inv : zMem → zMem → Prop} (C : zLK wc wm X l0 L xs) (hbs : match X with | (_, _, _, _, _, _, _, _, bs) => bs = bs0) (hl : lv_has ls 4 [(0, .ref bs0), (1, .ref (wc.2.2.1 0)), (2, .ref (wm.2.2.1 0)), (3, .int (nI i))]) (hij : i + 6 ≤ L) (hI : Inv Sc Sm) (hq : ∀ a b2 c3 d4 e5 : Int32, zIi Inv (f_X8_copy a b2 c3 d4 e5) (f_X9_copy a b2 c3 d4 e5)) (kk : ∀ Sc Sm, Inv Sc Sm → zL wc wm X Sc Sm 1415 ls []) : zL wc wm X Sc Sm 348 ls [] := by
  obtain ⟨r, Sc1, Sm1, hc, hm, hJ⟩ := hq (xs (i + 1)) (xs (i + 2)) (xs (i + 3)) (xs (i + 4)) (xs (i + 5)) Sc Sm hI
  refine l_aload 348 C dL_law_348 rfl (lv_at hl 1 rfl) ?_
  refine l_arg 349 1 C hbs hl dL_law_349 dL_law_350 dL_law_351 dL_law_352 dL_law_353 (by decide) hij ?_
  refine l_arg 354 2 C hbs hl dL_law_354 dL_law_355 dL_law_356 dL_law_357 dL_law_358 (by decide) hij ?_
  refine l_arg 359 3 C hbs hl dL_law_359 dL_law_360 dL_law_361 dL_law_362 dL_law_363 (by decide) hij ?_
  refine l_arg 364 4 C hbs hl dL_law_364 dL_law_365 dL_law_366 dL_law_367 dL_law_368 (by decide) hij ?_
  refine l_arg 369 5 C hbs hl dL_law_369 dL_law_370 dL_law_371 dL_law_372 dL_law_373 (by decide) hij ?_
  refine l_callC 374 C (ci := 7) [] dL_law_374 ml_L_32 hy_X8_copy (c_X8_copy hc) ⟨Nat.le_of_ble_eq_true rfl, Nat.le_of_ble_eq_true rfl⟩ rfl hl.1 rfl rfl (Nat.le_of_ble_eq_true rfl) rfl ?_
  refine l_aload 377 C dL_law_377 rfl (lv_at hl 2 rfl) ?_
  refine l_arg 378 1 C hbs hl dL_law_378 dL_law_379 dL_law_380 dL_law_381 dL_law_382 (by decide) hij ?_
  refine l_arg 383 2 C hbs hl dL_law_383 dL_law_384 dL_law_385 dL_law_386 dL_law_387 (by decide) hij ?_
  refine l_arg 388 3 C hbs hl dL_law_388 dL_law_389 dL_law_390 dL_law_391 dL_law_392 (by decide) hij ?_
  refine l_arg 393 4 C hbs hl dL_law_393 dL_law_394 dL_law_395 dL_law_396 dL_law_397 (by decide) hij ?_
  refine l_arg 398 5 C hbs hl dL_law_398 dL_law_399 dL_law_400 dL_law_401 dL_law_402 (by decide) hij ?_
  refine l_callM 403 C (ci := 8) [.int r] dL_law_403 ml_L_36 hy_X9_copy (c_X9_copy hm) ⟨Nat.le_of_ble_eq_true rfl, Nat.le_of_ble_eq_true rfl⟩ rfl hl.1 rfl rfl (Nat.le_of_ble_eq_true rfl) rfl ?_
  refine l_eqi 406 C dL_law_406 (by decide) ?_
  exact kk _ _ hJ
theorem case_5 {wc wm : zWd} {X : zLX} {Sc Sm : zMem} {ls : Array Slot} {l0 : Launch} {L i bs0 : Nat} {xs : Nat → Int32} {Inv : zMem → zMem → Prop} (C : zLK wc wm X l0 L xs) (hbs : match X with | (_, _, _, _, _, _, _, _, bs) => bs = bs0) (hl : lv_has ls 4 [(0, .ref bs0), (1, .ref (wc.2.2.1 0)), (2, .ref (wm.2.2.1 0)), (3, .int (nI i))]) (hij : i + 6 ≤ L) (hI : Inv Sc Sm) (hq : ∀ a : Int32, zIi Inv (f_X8_mean a) (f_X9_mean a)) (kk : ∀ Sc Sm, Inv Sc Sm → zL wc wm X Sc Sm 1415 ls []) : zL wc wm X Sc Sm 411 ls [] := by
  obtain ⟨r, Sc1, Sm1, hc, hm, hJ⟩ := hq (xs (i + 1)) Sc Sm hI
  refine l_aload 411 C dL_law_411 rfl (lv_at hl 1 rfl) ?_
  refine l_arg 412 1 C hbs hl dL_law_412 dL_law_413 dL_law_414 dL_law_415 dL_law_416 (by decide) hij ?_
  refine l_callC 417 C (ci := 7) [] dL_law_417 ml_L_37 hy_X8_mean (c_X8_mean hc) ⟨Nat.le_of_ble_eq_true rfl, Nat.le_of_ble_eq_true rfl⟩ rfl hl.1 rfl rfl (Nat.le_of_ble_eq_true rfl) rfl ?_
  refine l_aload 420 C dL_law_420 rfl (lv_at hl 2 rfl) ?_
  refine l_arg 421 1 C hbs hl dL_law_421 dL_law_422 dL_law_423 dL_law_424 dL_law_425 (by decide) hij ?_
  refine l_callM 426 C (ci := 8) [.int r] dL_law_426 ml_L_40 hy_X9_mean (c_X9_mean hm) ⟨Nat.le_of_ble_eq_true rfl, Nat.le_of_ble_eq_true rfl⟩ rfl hl.1 rfl rfl (Nat.le_of_ble_eq_true rfl) rfl ?_
  refine l_eqi 429 C dL_law_429 (by decide) ?_
  exact kk _ _ hJ
theorem case_6 {wc wm : zWd} {X : zLX} {Sc Sm : zMem} {ls : Array Slot} {l0 : Launch} {L i bs0 : Nat} {xs : Nat → Int32} {Inv : zMem → zMem → Prop} (C : zLK wc wm X l0 L xs) (hbs : match X with | (_, _, _, _, _, _, _, _, bs) => bs = bs0) (hl : lv_has ls 4 [(0, .ref bs0), (1, .ref (wc.2.2.1 0)), (2, .ref (wm.2.2.1 0)), (3, .int (nI i))]) (hij : i + 6 ≤ L) (hI : Inv Sc Sm) (hq : ∀ a b2 : Int32, zIi Inv (f_X8_text a b2) (f_X9_text a b2)) (kk : ∀ Sc Sm, Inv Sc Sm → zL wc wm X Sc Sm 1415 ls []) : zL wc wm X Sc Sm 434 ls [] := by
  obtain ⟨r, Sc1, Sm1, hc, hm, hJ⟩ := hq (xs (i + 1)) (xs (i + 2)) Sc Sm hI
  refine l_aload 434 C dL_law_434 rfl (lv_at hl 1 rfl) ?_
  refine l_arg 435 1 C hbs hl dL_law_435 dL_law_436 dL_law_437 dL_law_438 dL_law_439 (by decide) hij ?_
  refine l_arg 440 2 C hbs hl dL_law_440 dL_law_441 dL_law_442 dL_law_443 dL_law_444 (by decide) hij ?_
  refine l_callC 445 C (ci := 7) [] dL_law_445 ml_L_41 hy_X8_text (c_X8_text hc) ⟨Nat.le_of_ble_eq_true rfl, Nat.le_of_ble_eq_true rfl⟩ rfl hl.1 rfl rfl (Nat.le_of_ble_eq_true rfl) rfl ?_
  refine l_aload 448 C dL_law_448 rfl (lv_at hl 2 rfl) ?_
  refine l_arg 449 1 C hbs hl dL_law_449 dL_law_450 dL_law_451 dL_law_452 dL_law_453 (by decide) hij ?_
  refine l_arg 454 2 C hbs hl dL_law_454 dL_law_455 dL_law_456 dL_law_457 dL_law_458 (by decide) hij ?_
  refine l_callM 459 C (ci := 8) [.int r] dL_law_459 ml_L_44 hy_X9_text (c_X9_text hm) ⟨Nat.le_of_ble_eq_true rfl, Nat.le_of_ble_eq_true rfl⟩ rfl hl.1 rfl rfl (Nat.le_of_ble_eq_true rfl) rfl ?_
  refine l_eqi 462 C dL_law_462 (by decide) ?_
  exact kk _ _ hJ
theorem case_7 {wc wm : zWd} {X : zLX} {Sc Sm : zMem} {ls : Array Slot} {l0 : Launch} {L i bs0 : Nat} {xs : Nat → Int32} {Inv : zMem → zMem → Prop} (C : zLK wc wm X l0 L xs) (hbs : match X with | (_, _, _, _, _, _, _, _, bs) => bs = bs0) (hl : lv_has ls 4 [(0, .ref bs0), (1, .ref (wc.2.2.1 0)), (2, .ref (wm.2.2.1 0)), (3, .int (nI i))]) (hij : i + 6 ≤ L) (hI : Inv Sc Sm) (hq : ∀ a b2 c3 : Int32, zIi Inv (f_X8_put a b2 c3) (f_X9_put a b2 c3)) (kk : ∀ Sc Sm, Inv Sc Sm → zL wc wm X Sc Sm 1415 ls []) : zL wc wm X Sc Sm 467 ls [] := by
  obtain ⟨r, Sc1, Sm1, hc, hm, hJ⟩ := hq (xs (i + 1)) (xs (i + 2)) (xs (i + 3)) Sc Sm hI
  refine l_aload 467 C dL_law_467 rfl (lv_at hl 1 rfl) ?_
  refine l_arg 468 1 C hbs hl dL_law_468 dL_law_469 dL_law_470 dL_law_471 dL_law_472 (by decide) hij ?_
  refine l_arg 473 2 C hbs hl dL_law_473 dL_law_474 dL_law_475 dL_law_476 dL_law_477 (by decide) hij ?_
  refine l_arg 478 3 C hbs hl dL_law_478 dL_law_479 dL_law_480 dL_law_481 dL_law_482 (by decide) hij ?_
  refine l_callC 483 C (ci := 7) [] dL_law_483 ml_L_45 hy_X8_put (c_X8_put hc) ⟨Nat.le_of_ble_eq_true rfl, Nat.le_of_ble_eq_true rfl⟩ rfl hl.1 rfl rfl (Nat.le_of_ble_eq_true rfl) rfl ?_
  refine l_aload 486 C dL_law_486 rfl (lv_at hl 2 rfl) ?_
  refine l_arg 487 1 C hbs hl dL_law_487 dL_law_488 dL_law_489 dL_law_490 dL_law_491 (by decide) hij ?_
  refine l_arg 492 2 C hbs hl dL_law_492 dL_law_493 dL_law_494 dL_law_495 dL_law_496 (by decide) hij ?_
  refine l_arg 497 3 C hbs hl dL_law_497 dL_law_498 dL_law_499 dL_law_500 dL_law_501 (by decide) hij ?_
  refine l_callM 502 C (ci := 8) [.int r] dL_law_502 ml_L_48 hy_X9_put (c_X9_put hm) ⟨Nat.le_of_ble_eq_true rfl, Nat.le_of_ble_eq_true rfl⟩ rfl hl.1 rfl rfl (Nat.le_of_ble_eq_true rfl) rfl ?_
  refine l_eqi 505 C dL_law_505 (by decide) ?_
  exact kk _ _ hJ
theorem case_8 {wc wm : zWd} {X : zLX} {Sc Sm : zMem} {ls : Array Slot} {l0 : Launch} {L i bs0 : Nat} {xs : Nat → Int32} {Inv : zMem → zMem → Prop} (C : zLK wc wm X l0 L xs) (hbs : match X with | (_, _, _, _, _, _, _, _, bs) => bs = bs0) (hl : lv_has ls 4 [(0, .ref bs0), (1, .ref (wc.2.2.1 0)), (2, .ref (wm.2.2.1 0)), (3, .int (nI i))]) (hij : i + 6 ≤ L) (hI : Inv Sc Sm) (hq : ∀ a : Int32, zIi Inv (f_X8_fault a) (f_X9_fault a)) (kk : ∀ Sc Sm, Inv Sc Sm → zL wc wm X Sc Sm 1415 ls []) : zL wc wm X Sc Sm 510 ls [] := by
  obtain ⟨r, Sc1, Sm1, hc, hm, hJ⟩ := hq (xs (i + 1)) Sc Sm hI
  refine l_aload 510 C dL_law_510 rfl (lv_at hl 1 rfl) ?_
  refine l_arg 511 1 C hbs hl dL_law_511 dL_law_512 dL_law_513 dL_law_514 dL_law_515 (by decide) hij ?_
  refine l_callC 516 C (ci := 7) [] dL_law_516 ml_L_49 hy_X8_fault (c_X8_fault hc) ⟨Nat.le_of_ble_eq_true rfl, Nat.le_of_ble_eq_true rfl⟩ rfl hl.1 rfl rfl (Nat.le_of_ble_eq_true rfl) rfl ?_
  refine l_aload 519 C dL_law_519 rfl (lv_at hl 2 rfl) ?_
  refine l_arg 520 1 C hbs hl dL_law_520 dL_law_521 dL_law_522 dL_law_523 dL_law_524 (by decide) hij ?_
  refine l_callM 525 C (ci := 8) [.int r] dL_law_525 ml_L_52 hy_X9_fault (c_X9_fault hm) ⟨Nat.le_of_ble_eq_true rfl, Nat.le_of_ble_eq_true rfl⟩ rfl hl.1 rfl rfl (Nat.le_of_ble_eq_true rfl) rfl ?_
  refine l_eqi 528 C dL_law_528 (by decide) ?_
  exact kk _ _ hJ
theorem case_9 {wc wm : zWd} {X : zLX} {Sc Sm : zMem} {ls : Array Slot} {l0 : Launch} {L i bs0 : Nat} {xs : Nat → Int32} {Inv : zMem → zMem → Prop} (C : zLK wc wm X l0 L xs) (hbs : match X with | (_, _, _, _, _, _, _, _, bs) => bs = bs0) (hl : lv_has ls 4 [(0, .ref bs0), (1, .ref (wc.2.2.1 0)), (2, .ref (wm.2.2.1 0)), (3, .int (nI i))]) (hij : i + 6 ≤ L) (hI : Inv Sc Sm) (hq : ∀ a : Int32, zIi Inv (f_X8_post a) (f_X9_post a)) (kk : ∀ Sc Sm, Inv Sc Sm → zL wc wm X Sc Sm 1415 ls []) : zL wc wm X Sc Sm 533 ls [] := by
  obtain ⟨r, Sc1, Sm1, hc, hm, hJ⟩ := hq (xs (i + 1)) Sc Sm hI
  refine l_aload 533 C dL_law_533 rfl (lv_at hl 1 rfl) ?_
  refine l_arg 534 1 C hbs hl dL_law_534 dL_law_535 dL_law_536 dL_law_537 dL_law_538 (by decide) hij ?_
  refine l_callC 539 C (ci := 7) [] dL_law_539 ml_L_53 hy_X8_post (c_X8_post hc) ⟨Nat.le_of_ble_eq_true rfl, Nat.le_of_ble_eq_true rfl⟩ rfl hl.1 rfl rfl (Nat.le_of_ble_eq_true rfl) rfl ?_
  refine l_aload 542 C dL_law_542 rfl (lv_at hl 2 rfl) ?_
  refine l_arg 543 1 C hbs hl dL_law_543 dL_law_544 dL_law_545 dL_law_546 dL_law_547 (by decide) hij ?_
  refine l_callM 548 C (ci := 8) [.int r] dL_law_548 ml_L_56 hy_X9_post (c_X9_post hm) ⟨Nat.le_of_ble_eq_true rfl, Nat.le_of_ble_eq_true rfl⟩ rfl hl.1 rfl rfl (Nat.le_of_ble_eq_true rfl) rfl ?_
  refine l_eqi 551 C dL_law_551 (by decide) ?_
  exact kk _ _ hJ
theorem case_10 {wc wm : zWd} {X : zLX} {Sc Sm : zMem} {ls : Array Slot} {l0 : Launch} {L i bs0 : Nat} {xs : Nat → Int32} {Inv : zMem → zMem → Prop} (C : zLK wc wm X l0 L xs) (hbs : match X with | (_, _, _, _, _, _, _, _, bs) => bs = bs0) (hl : lv_has ls 4 [(0, .ref bs0), (1, .ref (wc.2.2.1 0)), (2, .ref (wm.2.2.1 0)), (3, .int (nI i))]) (hij : i + 6 ≤ L) (hI : Inv Sc Sm) (hq : ∀ a b2 : Int32, zIi Inv (f_X8_house a b2) (f_X9_house a b2)) (kk : ∀ Sc Sm, Inv Sc Sm → zL wc wm X Sc Sm 1415 ls []) : zL wc wm X Sc Sm 556 ls [] := by
  obtain ⟨r, Sc1, Sm1, hc, hm, hJ⟩ := hq (xs (i + 1)) (xs (i + 2)) Sc Sm hI
  refine l_aload 556 C dL_law_556 rfl (lv_at hl 1 rfl) ?_
  refine l_arg 557 1 C hbs hl dL_law_557 dL_law_558 dL_law_559 dL_law_560 dL_law_561 (by decide) hij ?_
  refine l_arg 562 2 C hbs hl dL_law_562 dL_law_563 dL_law_564 dL_law_565 dL_law_566 (by decide) hij ?_
  refine l_callC 567 C (ci := 7) [] dL_law_567 ml_L_57 hy_X8_house (c_X8_house hc) ⟨Nat.le_of_ble_eq_true rfl, Nat.le_of_ble_eq_true rfl⟩ rfl hl.1 rfl rfl (Nat.le_of_ble_eq_true rfl) rfl ?_
  refine l_aload 570 C dL_law_570 rfl (lv_at hl 2 rfl) ?_
  refine l_arg 571 1 C hbs hl dL_law_571 dL_law_572 dL_law_573 dL_law_574 dL_law_575 (by decide) hij ?_
  refine l_arg 576 2 C hbs hl dL_law_576 dL_law_577 dL_law_578 dL_law_579 dL_law_580 (by decide) hij ?_
  refine l_callM 581 C (ci := 8) [.int r] dL_law_581 ml_L_60 hy_X9_house (c_X9_house hm) ⟨Nat.le_of_ble_eq_true rfl, Nat.le_of_ble_eq_true rfl⟩ rfl hl.1 rfl rfl (Nat.le_of_ble_eq_true rfl) rfl ?_
  refine l_eqi 584 C dL_law_584 (by decide) ?_
  exact kk _ _ hJ
theorem case_11 {wc wm : zWd} {X : zLX} {Sc Sm : zMem} {ls : Array Slot} {l0 : Launch} {L i bs0 : Nat} {xs : Nat → Int32} {Inv : zMem → zMem → Prop} (C : zLK wc wm X l0 L xs) (hbs : match X with | (_, _, _, _, _, _, _, _, bs) => bs = bs0) (hl : lv_has ls 4 [(0, .ref bs0), (1, .ref (wc.2.2.1 0)), (2, .ref (wm.2.2.1 0)), (3, .int (nI i))]) (hij : i + 6 ≤ L) (hI : Inv Sc Sm) (hq : ∀ a b2 : Int32, zIi Inv (f_X8_letter a b2) (f_X9_letter a b2)) (kk : ∀ Sc Sm, Inv Sc Sm → zL wc wm X Sc Sm 1415 ls []) : zL wc wm X Sc Sm 589 ls [] := by
  obtain ⟨r, Sc1, Sm1, hc, hm, hJ⟩ := hq (xs (i + 1)) (xs (i + 2)) Sc Sm hI
  refine l_aload 589 C dL_law_589 rfl (lv_at hl 1 rfl) ?_
  refine l_arg 590 1 C hbs hl dL_law_590 dL_law_591 dL_law_592 dL_law_593 dL_law_594 (by decide) hij ?_
  refine l_arg 595 2 C hbs hl dL_law_595 dL_law_596 dL_law_597 dL_law_598 dL_law_599 (by decide) hij ?_
  refine l_callC 600 C (ci := 7) [] dL_law_600 ml_L_61 hy_X8_letter (c_X8_letter hc) ⟨Nat.le_of_ble_eq_true rfl, Nat.le_of_ble_eq_true rfl⟩ rfl hl.1 rfl rfl (Nat.le_of_ble_eq_true rfl) rfl ?_
  refine l_aload 603 C dL_law_603 rfl (lv_at hl 2 rfl) ?_
  refine l_arg 604 1 C hbs hl dL_law_604 dL_law_605 dL_law_606 dL_law_607 dL_law_608 (by decide) hij ?_
  refine l_arg 609 2 C hbs hl dL_law_609 dL_law_610 dL_law_611 dL_law_612 dL_law_613 (by decide) hij ?_
  refine l_callM 614 C (ci := 8) [.int r] dL_law_614 ml_L_64 hy_X9_letter (c_X9_letter hm) ⟨Nat.le_of_ble_eq_true rfl, Nat.le_of_ble_eq_true rfl⟩ rfl hl.1 rfl rfl (Nat.le_of_ble_eq_true rfl) rfl ?_
  refine l_eqi 617 C dL_law_617 (by decide) ?_
  exact kk _ _ hJ
theorem case_12 {wc wm : zWd} {X : zLX} {Sc Sm : zMem} {ls : Array Slot} {l0 : Launch} {L i bs0 : Nat} {xs : Nat → Int32} {Inv : zMem → zMem → Prop} (C : zLK wc wm X l0 L xs) (hbs : match X with | (_, _, _, _, _, _, _, _, bs) => bs = bs0) (hl : lv_has ls 4 [(0, .ref bs0), (1, .ref (wc.2.2.1 0)), (2, .ref (wm.2.2.1 0)), (3, .int (nI i))]) (hij : i + 6 ≤ L) (hI : Inv Sc Sm) (hq : ∀ a b2 : Int32, zIi Inv (f_X8_mark a b2) (f_X9_mark a b2)) (kk : ∀ Sc Sm, Inv Sc Sm → zL wc wm X Sc Sm 1415 ls []) : zL wc wm X Sc Sm 622 ls [] := by
  obtain ⟨r, Sc1, Sm1, hc, hm, hJ⟩ := hq (xs (i + 1)) (xs (i + 2)) Sc Sm hI
  refine l_aload 622 C dL_law_622 rfl (lv_at hl 1 rfl) ?_
  refine l_arg 623 1 C hbs hl dL_law_623 dL_law_624 dL_law_625 dL_law_626 dL_law_627 (by decide) hij ?_
  refine l_arg 628 2 C hbs hl dL_law_628 dL_law_629 dL_law_630 dL_law_631 dL_law_632 (by decide) hij ?_
  refine l_callC 633 C (ci := 7) [] dL_law_633 ml_L_65 hy_X8_mark (c_X8_mark hc) ⟨Nat.le_of_ble_eq_true rfl, Nat.le_of_ble_eq_true rfl⟩ rfl hl.1 rfl rfl (Nat.le_of_ble_eq_true rfl) rfl ?_
  refine l_aload 636 C dL_law_636 rfl (lv_at hl 2 rfl) ?_
  refine l_arg 637 1 C hbs hl dL_law_637 dL_law_638 dL_law_639 dL_law_640 dL_law_641 (by decide) hij ?_
  refine l_arg 642 2 C hbs hl dL_law_642 dL_law_643 dL_law_644 dL_law_645 dL_law_646 (by decide) hij ?_
  refine l_callM 647 C (ci := 8) [.int r] dL_law_647 ml_L_68 hy_X9_mark (c_X9_mark hm) ⟨Nat.le_of_ble_eq_true rfl, Nat.le_of_ble_eq_true rfl⟩ rfl hl.1 rfl rfl (Nat.le_of_ble_eq_true rfl) rfl ?_
  refine l_eqi 650 C dL_law_650 (by decide) ?_
  exact kk _ _ hJ
theorem case_13 {wc wm : zWd} {X : zLX} {Sc Sm : zMem} {ls : Array Slot} {l0 : Launch} {L i bs0 : Nat} {xs : Nat → Int32} {Inv : zMem → zMem → Prop} (C : zLK wc wm X l0 L xs) (hbs : match X with | (_, _, _, _, _, _, _, _, bs) => bs = bs0) (hl : lv_has ls 4 [(0, .ref bs0), (1, .ref (wc.2.2.1 0)), (2, .ref (wm.2.2.1 0)), (3, .int (nI i))]) (hij : i + 6 ≤ L) (hI : Inv Sc Sm) (hq : ∀ a : Int32, zIi Inv (f_X8_carry a) (f_X9_carry a)) (kk : ∀ Sc Sm, Inv Sc Sm → zL wc wm X Sc Sm 1415 ls []) : zL wc wm X Sc Sm 655 ls [] := by
  obtain ⟨r, Sc1, Sm1, hc, hm, hJ⟩ := hq (xs (i + 1)) Sc Sm hI
  refine l_aload 655 C dL_law_655 rfl (lv_at hl 1 rfl) ?_
  refine l_arg 656 1 C hbs hl dL_law_656 dL_law_657 dL_law_658 dL_law_659 dL_law_660 (by decide) hij ?_
  refine l_callC 661 C (ci := 7) [] dL_law_661 ml_L_69 hy_X8_carry (c_X8_carry hc) ⟨Nat.le_of_ble_eq_true rfl, Nat.le_of_ble_eq_true rfl⟩ rfl hl.1 rfl rfl (Nat.le_of_ble_eq_true rfl) rfl ?_
  refine l_aload 664 C dL_law_664 rfl (lv_at hl 2 rfl) ?_
  refine l_arg 665 1 C hbs hl dL_law_665 dL_law_666 dL_law_667 dL_law_668 dL_law_669 (by decide) hij ?_
  refine l_callM 670 C (ci := 8) [.int r] dL_law_670 ml_L_72 hy_X9_carry (c_X9_carry hm) ⟨Nat.le_of_ble_eq_true rfl, Nat.le_of_ble_eq_true rfl⟩ rfl hl.1 rfl rfl (Nat.le_of_ble_eq_true rfl) rfl ?_
  refine l_eqi 673 C dL_law_673 (by decide) ?_
  exact kk _ _ hJ
theorem case_14 {wc wm : zWd} {X : zLX} {Sc Sm : zMem} {ls : Array Slot} {l0 : Launch} {L i bs0 : Nat} {xs : Nat → Int32} {Inv : zMem → zMem → Prop} (C : zLK wc wm X l0 L xs) (hbs : match X with | (_, _, _, _, _, _, _, _, bs) => bs = bs0) (hl : lv_has ls 4 [(0, .ref bs0), (1, .ref (wc.2.2.1 0)), (2, .ref (wm.2.2.1 0)), (3, .int (nI i))]) (hij : i + 6 ≤ L) (hI : Inv Sc Sm) (hq : ∀ a : Int32, zIi Inv (f_X8_bribe a) (f_X9_bribe a)) (kk : ∀ Sc Sm, Inv Sc Sm → zL wc wm X Sc Sm 1415 ls []) : zL wc wm X Sc Sm 678 ls [] := by
  obtain ⟨r, Sc1, Sm1, hc, hm, hJ⟩ := hq (xs (i + 1)) Sc Sm hI
  refine l_aload 678 C dL_law_678 rfl (lv_at hl 1 rfl) ?_
  refine l_arg 679 1 C hbs hl dL_law_679 dL_law_680 dL_law_681 dL_law_682 dL_law_683 (by decide) hij ?_
  refine l_callC 684 C (ci := 7) [] dL_law_684 ml_L_73 hy_X8_bribe (c_X8_bribe hc) ⟨Nat.le_of_ble_eq_true rfl, Nat.le_of_ble_eq_true rfl⟩ rfl hl.1 rfl rfl (Nat.le_of_ble_eq_true rfl) rfl ?_
  refine l_aload 687 C dL_law_687 rfl (lv_at hl 2 rfl) ?_
  refine l_arg 688 1 C hbs hl dL_law_688 dL_law_689 dL_law_690 dL_law_691 dL_law_692 (by decide) hij ?_
  refine l_callM 693 C (ci := 8) [.int r] dL_law_693 ml_L_76 hy_X9_bribe (c_X9_bribe hm) ⟨Nat.le_of_ble_eq_true rfl, Nat.le_of_ble_eq_true rfl⟩ rfl hl.1 rfl rfl (Nat.le_of_ble_eq_true rfl) rfl ?_
  refine l_eqi 696 C dL_law_696 (by decide) ?_
  exact kk _ _ hJ
theorem case_15 {wc wm : zWd} {X : zLX} {Sc Sm : zMem} {ls : Array Slot} {l0 : Launch} {L i bs0 : Nat} {xs : Nat → Int32} {Inv : zMem → zMem → Prop} (C : zLK wc wm X l0 L xs) (hbs : match X with | (_, _, _, _, _, _, _, _, bs) => bs = bs0) (hl : lv_has ls 4 [(0, .ref bs0), (1, .ref (wc.2.2.1 0)), (2, .ref (wm.2.2.1 0)), (3, .int (nI i))]) (hij : i + 6 ≤ L) (hI : Inv Sc Sm) (hq : ∀ a : Int32, zIi Inv (f_X8_weather a) (f_X9_weather a)) (kk : ∀ Sc Sm, Inv Sc Sm → zL wc wm X Sc Sm 1415 ls []) : zL wc wm X Sc Sm 701 ls [] := by
  obtain ⟨r, Sc1, Sm1, hc, hm, hJ⟩ := hq (xs (i + 1)) Sc Sm hI
  refine l_aload 701 C dL_law_701 rfl (lv_at hl 1 rfl) ?_
  refine l_arg 702 1 C hbs hl dL_law_702 dL_law_703 dL_law_704 dL_law_705 dL_law_706 (by decide) hij ?_
  refine l_callC 707 C (ci := 7) [] dL_law_707 ml_L_77 hy_X8_weather (c_X8_weather hc) ⟨Nat.le_of_ble_eq_true rfl, Nat.le_of_ble_eq_true rfl⟩ rfl hl.1 rfl rfl (Nat.le_of_ble_eq_true rfl) rfl ?_
  refine l_aload 710 C dL_law_710 rfl (lv_at hl 2 rfl) ?_
  refine l_arg 711 1 C hbs hl dL_law_711 dL_law_712 dL_law_713 dL_law_714 dL_law_715 (by decide) hij ?_
  refine l_callM 716 C (ci := 8) [.int r] dL_law_716 ml_L_80 hy_X9_weather (c_X9_weather hm) ⟨Nat.le_of_ble_eq_true rfl, Nat.le_of_ble_eq_true rfl⟩ rfl hl.1 rfl rfl (Nat.le_of_ble_eq_true rfl) rfl ?_
  refine l_eqi 719 C dL_law_719 (by decide) ?_
  exact kk _ _ hJ
theorem case_16 {wc wm : zWd} {X : zLX} {Sc Sm : zMem} {ls : Array Slot} {l0 : Launch} {L i bs0 : Nat} {xs : Nat → Int32} {Inv : zMem → zMem → Prop} (C : zLK wc wm X l0 L xs) (hbs : match X with | (_, _, _, _, _, _, _, _, bs) => bs = bs0) (hl : lv_has ls 4 [(0, .ref bs0), (1, .ref (wc.2.2.1 0)), (2, .ref (wm.2.2.1 0)), (3, .int (nI i))]) (hij : i + 6 ≤ L) (hI : Inv Sc Sm) (hq : zIi Inv (f_X8_day) (f_X9_day)) (kk : ∀ Sc Sm, Inv Sc Sm → zL wc wm X Sc Sm 1415 ls []) : zL wc wm X Sc Sm 724 ls [] := by
  obtain ⟨r, Sc1, Sm1, hc, hm, hJ⟩ := hq Sc Sm hI
  refine l_aload 724 C dL_law_724 rfl (lv_at hl 1 rfl) ?_
  refine l_callC 725 C (ci := 7) [] dL_law_725 ml_L_81 hy_X8_day (c_X8_day hc) ⟨Nat.le_of_ble_eq_true rfl, Nat.le_of_ble_eq_true rfl⟩ rfl hl.1 rfl rfl (Nat.le_of_ble_eq_true rfl) rfl ?_
  refine l_aload 728 C dL_law_728 rfl (lv_at hl 2 rfl) ?_
  refine l_callM 729 C (ci := 8) [.int r] dL_law_729 ml_L_85 hy_X9_day (c_X9_day hm) ⟨Nat.le_of_ble_eq_true rfl, Nat.le_of_ble_eq_true rfl⟩ rfl hl.1 rfl rfl (Nat.le_of_ble_eq_true rfl) rfl ?_
  refine l_eqi 732 C dL_law_732 (by decide) ?_
  exact kk _ _ hJ
theorem case_17 {wc wm : zWd} {X : zLX} {Sc Sm : zMem} {ls : Array Slot} {l0 : Launch} {L i bs0 : Nat} {xs : Nat → Int32} {Inv : zMem → zMem → Prop} (C : zLK wc wm X l0 L xs) (hbs : match X with | (_, _, _, _, _, _, _, _, bs) => bs = bs0) (hl : lv_has ls 4 [(0, .ref bs0), (1, .ref (wc.2.2.1 0)), (2, .ref (wm.2.2.1 0)), (3, .int (nI i))]) (hij : i + 6 ≤ L) (hI : Inv Sc Sm) (hq : ∀ a : Int32, zIi Inv (f_X8_undo a) (f_X9_undo a)) (kk : ∀ Sc Sm, Inv Sc Sm → zL wc wm X Sc Sm 1415 ls []) : zL wc wm X Sc Sm 737 ls [] := by
  obtain ⟨r, Sc1, Sm1, hc, hm, hJ⟩ := hq (xs (i + 1)) Sc Sm hI
  refine l_aload 737 C dL_law_737 rfl (lv_at hl 1 rfl) ?_
  refine l_arg 738 1 C hbs hl dL_law_738 dL_law_739 dL_law_740 dL_law_741 dL_law_742 (by decide) hij ?_
  refine l_callC 743 C (ci := 7) [] dL_law_743 ml_L_86 hy_X8_undo (c_X8_undo hc) ⟨Nat.le_of_ble_eq_true rfl, Nat.le_of_ble_eq_true rfl⟩ rfl hl.1 rfl rfl (Nat.le_of_ble_eq_true rfl) rfl ?_
  refine l_aload 746 C dL_law_746 rfl (lv_at hl 2 rfl) ?_
  refine l_arg 747 1 C hbs hl dL_law_747 dL_law_748 dL_law_749 dL_law_750 dL_law_751 (by decide) hij ?_
  refine l_callM 752 C (ci := 8) [.int r] dL_law_752 ml_L_89 hy_X9_undo (c_X9_undo hm) ⟨Nat.le_of_ble_eq_true rfl, Nat.le_of_ble_eq_true rfl⟩ rfl hl.1 rfl rfl (Nat.le_of_ble_eq_true rfl) rfl ?_
  refine l_eqi 755 C dL_law_755 (by decide) ?_
  exact kk _ _ hJ
theorem case_18 {wc wm : zWd} {X : zLX} {Sc Sm : zMem} {ls : Array Slot} {l0 : Launch} {L i bs0 : Nat} {xs : Nat → Int32} {Inv : zMem → zMem → Prop} (C : zLK wc wm X l0 L xs) (hbs : match X with | (_, _, _, _, _, _, _, _, bs) => bs = bs0) (hl : lv_has ls 4 [(0, .ref bs0), (1, .ref (wc.2.2.1 0)), (2, .ref (wm.2.2.1 0)), (3, .int (nI i))]) (hij : i + 6 ≤ L) (hI : Inv Sc Sm) (hq : ∀ a : Int32, zIi Inv (f_X8_keep a) (f_X9_keep a)) (kk : ∀ Sc Sm, Inv Sc Sm → zL wc wm X Sc Sm 1415 ls []) : zL wc wm X Sc Sm 760 ls [] := by
  obtain ⟨r, Sc1, Sm1, hc, hm, hJ⟩ := hq (xs (i + 1)) Sc Sm hI
  refine l_aload 760 C dL_law_760 rfl (lv_at hl 1 rfl) ?_
  refine l_arg 761 1 C hbs hl dL_law_761 dL_law_762 dL_law_763 dL_law_764 dL_law_765 (by decide) hij ?_
  refine l_callC 766 C (ci := 7) [] dL_law_766 ml_L_90 hy_X8_keep (c_X8_keep hc) ⟨Nat.le_of_ble_eq_true rfl, Nat.le_of_ble_eq_true rfl⟩ rfl hl.1 rfl rfl (Nat.le_of_ble_eq_true rfl) rfl ?_
  refine l_aload 769 C dL_law_769 rfl (lv_at hl 2 rfl) ?_
  refine l_arg 770 1 C hbs hl dL_law_770 dL_law_771 dL_law_772 dL_law_773 dL_law_774 (by decide) hij ?_
  refine l_callM 775 C (ci := 8) [.int r] dL_law_775 ml_L_93 hy_X9_keep (c_X9_keep hm) ⟨Nat.le_of_ble_eq_true rfl, Nat.le_of_ble_eq_true rfl⟩ rfl hl.1 rfl rfl (Nat.le_of_ble_eq_true rfl) rfl ?_
  refine l_eqi 778 C dL_law_778 (by decide) ?_
  exact kk _ _ hJ
theorem case_19 {wc wm : zWd} {X : zLX} {Sc Sm : zMem} {ls : Array Slot} {l0 : Launch} {L i bs0 : Nat} {xs : Nat → Int32} {Inv : zMem → zMem → Prop} (C : zLK wc wm X l0 L xs) (hbs : match X with | (_, _, _, _, _, _, _, _, bs) => bs = bs0) (hl : lv_has ls 4 [(0, .ref bs0), (1, .ref (wc.2.2.1 0)), (2, .ref (wm.2.2.1 0)), (3, .int (nI i))]) (hij : i + 6 ≤ L) (hI : Inv Sc Sm) (hq : ∀ a : Int32, zIi Inv (f_X8_on a) (f_X9_on a)) (kk : ∀ Sc Sm, Inv Sc Sm → zL wc wm X Sc Sm 1415 ls []) : zL wc wm X Sc Sm 783 ls [] := by
  obtain ⟨r, Sc1, Sm1, hc, hm, hJ⟩ := hq (xs (i + 1)) Sc Sm hI
  refine l_aload 783 C dL_law_783 rfl (lv_at hl 1 rfl) ?_
  refine l_arg 784 1 C hbs hl dL_law_784 dL_law_785 dL_law_786 dL_law_787 dL_law_788 (by decide) hij ?_
  refine l_callC 789 C (ci := 7) [] dL_law_789 ml_L_94 hy_X8_on (c_X8_on hc) ⟨Nat.le_of_ble_eq_true rfl, Nat.le_of_ble_eq_true rfl⟩ rfl hl.1 rfl rfl (Nat.le_of_ble_eq_true rfl) rfl ?_
  refine l_aload 792 C dL_law_792 rfl (lv_at hl 2 rfl) ?_
  refine l_arg 793 1 C hbs hl dL_law_793 dL_law_794 dL_law_795 dL_law_796 dL_law_797 (by decide) hij ?_
  refine l_callM 798 C (ci := 8) [.int r] dL_law_798 ml_L_97 hy_X9_on (c_X9_on hm) ⟨Nat.le_of_ble_eq_true rfl, Nat.le_of_ble_eq_true rfl⟩ rfl hl.1 rfl rfl (Nat.le_of_ble_eq_true rfl) rfl ?_
  refine l_eqi 801 C dL_law_801 (by decide) ?_
  exact kk _ _ hJ
theorem case_20 {wc wm : zWd} {X : zLX} {Sc Sm : zMem} {ls : Array Slot} {l0 : Launch} {L i bs0 : Nat} {xs : Nat → Int32} {Inv : zMem → zMem → Prop} (C : zLK wc wm X l0 L xs) (hbs : match X with | (_, _, _, _, _, _, _, _, bs) => bs = bs0) (hl : lv_has ls 4 [(0, .ref bs0), (1, .ref (wc.2.2.1 0)), (2, .ref (wm.2.2.1 0)), (3, .int (nI i))]) (hij : i + 6 ≤ L) (hI : Inv Sc Sm) (hq : ∀ a b2 c3 : Int32, zIi Inv (f_X8_ends a b2 c3) (f_X9_ends a b2 c3)) (kk : ∀ Sc Sm, Inv Sc Sm → zL wc wm X Sc Sm 1415 ls []) : zL wc wm X Sc Sm 806 ls [] := by
  obtain ⟨r, Sc1, Sm1, hc, hm, hJ⟩ := hq (xs (i + 1)) (xs (i + 2)) (xs (i + 3)) Sc Sm hI
  refine l_aload 806 C dL_law_806 rfl (lv_at hl 1 rfl) ?_
  refine l_arg 807 1 C hbs hl dL_law_807 dL_law_808 dL_law_809 dL_law_810 dL_law_811 (by decide) hij ?_
  refine l_arg 812 2 C hbs hl dL_law_812 dL_law_813 dL_law_814 dL_law_815 dL_law_816 (by decide) hij ?_
  refine l_arg 817 3 C hbs hl dL_law_817 dL_law_818 dL_law_819 dL_law_820 dL_law_821 (by decide) hij ?_
  refine l_callC 822 C (ci := 7) [] dL_law_822 ml_L_98 hy_X8_ends (c_X8_ends hc) ⟨Nat.le_of_ble_eq_true rfl, Nat.le_of_ble_eq_true rfl⟩ rfl hl.1 rfl rfl (Nat.le_of_ble_eq_true rfl) rfl ?_
  refine l_aload 825 C dL_law_825 rfl (lv_at hl 2 rfl) ?_
  refine l_arg 826 1 C hbs hl dL_law_826 dL_law_827 dL_law_828 dL_law_829 dL_law_830 (by decide) hij ?_
  refine l_arg 831 2 C hbs hl dL_law_831 dL_law_832 dL_law_833 dL_law_834 dL_law_835 (by decide) hij ?_
  refine l_arg 836 3 C hbs hl dL_law_836 dL_law_837 dL_law_838 dL_law_839 dL_law_840 (by decide) hij ?_
  refine l_callM 841 C (ci := 8) [.int r] dL_law_841 ml_L_101 hy_X9_ends (c_X9_ends hm) ⟨Nat.le_of_ble_eq_true rfl, Nat.le_of_ble_eq_true rfl⟩ rfl hl.1 rfl rfl (Nat.le_of_ble_eq_true rfl) rfl ?_
  refine l_eqi 844 C dL_law_844 (by decide) ?_
  exact kk _ _ hJ
theorem case_21 {wc wm : zWd} {X : zLX} {Sc Sm : zMem} {ls : Array Slot} {l0 : Launch} {L i bs0 : Nat} {xs : Nat → Int32} {Inv : zMem → zMem → Prop} (C : zLK wc wm X l0 L xs) (hbs : match X with | (_, _, _, _, _, _, _, _, bs) => bs = bs0) (hl : lv_has ls 4 [(0, .ref bs0), (1, .ref (wc.2.2.1 0)), (2, .ref (wm.2.2.1 0)), (3, .int (nI i))]) (hij : i + 6 ≤ L) (hI : Inv Sc Sm) (hq : ∀ a : Int32, zIi Inv (f_X8_bond a) (f_X9_bond a)) (kk : ∀ Sc Sm, Inv Sc Sm → zL wc wm X Sc Sm 1415 ls []) : zL wc wm X Sc Sm 849 ls [] := by
  obtain ⟨r, Sc1, Sm1, hc, hm, hJ⟩ := hq (xs (i + 1)) Sc Sm hI
  refine l_aload 849 C dL_law_849 rfl (lv_at hl 1 rfl) ?_
  refine l_arg 850 1 C hbs hl dL_law_850 dL_law_851 dL_law_852 dL_law_853 dL_law_854 (by decide) hij ?_
  refine l_callC 855 C (ci := 7) [] dL_law_855 ml_L_102 hy_X8_bond (c_X8_bond hc) ⟨Nat.le_of_ble_eq_true rfl, Nat.le_of_ble_eq_true rfl⟩ rfl hl.1 rfl rfl (Nat.le_of_ble_eq_true rfl) rfl ?_
  refine l_aload 858 C dL_law_858 rfl (lv_at hl 2 rfl) ?_
  refine l_arg 859 1 C hbs hl dL_law_859 dL_law_860 dL_law_861 dL_law_862 dL_law_863 (by decide) hij ?_
  refine l_callM 864 C (ci := 8) [.int r] dL_law_864 ml_L_105 hy_X9_bond (c_X9_bond hm) ⟨Nat.le_of_ble_eq_true rfl, Nat.le_of_ble_eq_true rfl⟩ rfl hl.1 rfl rfl (Nat.le_of_ble_eq_true rfl) rfl ?_
  refine l_eqi 867 C dL_law_867 (by decide) ?_
  exact kk _ _ hJ
theorem case_22 {wc wm : zWd} {X : zLX} {Sc Sm : zMem} {ls : Array Slot} {l0 : Launch} {L i bs0 : Nat} {xs : Nat → Int32} {Inv : zMem → zMem → Prop} (C : zLK wc wm X l0 L xs) (hbs : match X with | (_, _, _, _, _, _, _, _, bs) => bs = bs0) (hl : lv_has ls 4 [(0, .ref bs0), (1, .ref (wc.2.2.1 0)), (2, .ref (wm.2.2.1 0)), (3, .int (nI i))]) (hij : i + 6 ≤ L) (hI : Inv Sc Sm) (hq : ∀ a b2 : Int32, zIi Inv (f_X8_least a b2) (f_X9_least a b2)) (kk : ∀ Sc Sm, Inv Sc Sm → zL wc wm X Sc Sm 1415 ls []) : zL wc wm X Sc Sm 872 ls [] := by
  obtain ⟨r, Sc1, Sm1, hc, hm, hJ⟩ := hq (xs (i + 1)) (xs (i + 2)) Sc Sm hI
  refine l_aload 872 C dL_law_872 rfl (lv_at hl 1 rfl) ?_
  refine l_arg 873 1 C hbs hl dL_law_873 dL_law_874 dL_law_875 dL_law_876 dL_law_877 (by decide) hij ?_
  refine l_arg 878 2 C hbs hl dL_law_878 dL_law_879 dL_law_880 dL_law_881 dL_law_882 (by decide) hij ?_
  refine l_callC 883 C (ci := 7) [] dL_law_883 ml_L_106 hy_X8_least (c_X8_least hc) ⟨Nat.le_of_ble_eq_true rfl, Nat.le_of_ble_eq_true rfl⟩ rfl hl.1 rfl rfl (Nat.le_of_ble_eq_true rfl) rfl ?_
  refine l_aload 886 C dL_law_886 rfl (lv_at hl 2 rfl) ?_
  refine l_arg 887 1 C hbs hl dL_law_887 dL_law_888 dL_law_889 dL_law_890 dL_law_891 (by decide) hij ?_
  refine l_arg 892 2 C hbs hl dL_law_892 dL_law_893 dL_law_894 dL_law_895 dL_law_896 (by decide) hij ?_
  refine l_callM 897 C (ci := 8) [.int r] dL_law_897 ml_L_109 hy_X9_least (c_X9_least hm) ⟨Nat.le_of_ble_eq_true rfl, Nat.le_of_ble_eq_true rfl⟩ rfl hl.1 rfl rfl (Nat.le_of_ble_eq_true rfl) rfl ?_
  refine l_eqi 900 C dL_law_900 (by decide) ?_
  exact kk _ _ hJ
theorem case_23 {wc wm : zWd} {X : zLX} {Sc Sm : zMem} {ls : Array Slot} {l0 : Launch} {L i bs0 : Nat} {xs : Nat → Int32} {Inv : zMem → zMem → Prop} (C : zLK wc wm X l0 L xs) (hbs : match X with | (_, _, _, _, _, _, _, _, bs) => bs = bs0) (hl : lv_has ls 4 [(0, .ref bs0), (1, .ref (wc.2.2.1 0)), (2, .ref (wm.2.2.1 0)), (3, .int (nI i))]) (hij : i + 6 ≤ L) (hI : Inv Sc Sm) (hq : ∀ a b2 : Int32, zIi Inv (f_X8_round a b2) (f_X9_round a b2)) (kk : ∀ Sc Sm, Inv Sc Sm → zL wc wm X Sc Sm 1415 ls []) : zL wc wm X Sc Sm 905 ls [] := by
  obtain ⟨r, Sc1, Sm1, hc, hm, hJ⟩ := hq (xs (i + 1)) (xs (i + 2)) Sc Sm hI
  refine l_aload 905 C dL_law_905 rfl (lv_at hl 1 rfl) ?_
  refine l_arg 906 1 C hbs hl dL_law_906 dL_law_907 dL_law_908 dL_law_909 dL_law_910 (by decide) hij ?_
  refine l_arg 911 2 C hbs hl dL_law_911 dL_law_912 dL_law_913 dL_law_914 dL_law_915 (by decide) hij ?_
  refine l_callC 916 C (ci := 7) [] dL_law_916 ml_L_110 hy_X8_round (c_X8_round hc) ⟨Nat.le_of_ble_eq_true rfl, Nat.le_of_ble_eq_true rfl⟩ rfl hl.1 rfl rfl (Nat.le_of_ble_eq_true rfl) rfl ?_
  refine l_aload 919 C dL_law_919 rfl (lv_at hl 2 rfl) ?_
  refine l_arg 920 1 C hbs hl dL_law_920 dL_law_921 dL_law_922 dL_law_923 dL_law_924 (by decide) hij ?_
  refine l_arg 925 2 C hbs hl dL_law_925 dL_law_926 dL_law_927 dL_law_928 dL_law_929 (by decide) hij ?_
  refine l_callM 930 C (ci := 8) [.int r] dL_law_930 ml_L_113 hy_X9_round (c_X9_round hm) ⟨Nat.le_of_ble_eq_true rfl, Nat.le_of_ble_eq_true rfl⟩ rfl hl.1 rfl rfl (Nat.le_of_ble_eq_true rfl) rfl ?_
  refine l_eqi 933 C dL_law_933 (by decide) ?_
  exact kk _ _ hJ
theorem case_24 {wc wm : zWd} {X : zLX} {Sc Sm : zMem} {ls : Array Slot} {l0 : Launch} {L i bs0 : Nat} {xs : Nat → Int32} {Inv : zMem → zMem → Prop} (C : zLK wc wm X l0 L xs) (hbs : match X with | (_, _, _, _, _, _, _, _, bs) => bs = bs0) (hl : lv_has ls 4 [(0, .ref bs0), (1, .ref (wc.2.2.1 0)), (2, .ref (wm.2.2.1 0)), (3, .int (nI i))]) (hij : i + 6 ≤ L) (hI : Inv Sc Sm) (hq : ∀ a b2 c3 : Int32, zIi Inv (f_X8_plan a b2 c3) (f_X9_plan a b2 c3)) (kk : ∀ Sc Sm, Inv Sc Sm → zL wc wm X Sc Sm 1415 ls []) : zL wc wm X Sc Sm 938 ls [] := by
  obtain ⟨r, Sc1, Sm1, hc, hm, hJ⟩ := hq (xs (i + 1)) (xs (i + 2)) (xs (i + 3)) Sc Sm hI
  refine l_aload 938 C dL_law_938 rfl (lv_at hl 1 rfl) ?_
  refine l_arg 939 1 C hbs hl dL_law_939 dL_law_940 dL_law_941 dL_law_942 dL_law_943 (by decide) hij ?_
  refine l_arg 944 2 C hbs hl dL_law_944 dL_law_945 dL_law_946 dL_law_947 dL_law_948 (by decide) hij ?_
  refine l_arg 949 3 C hbs hl dL_law_949 dL_law_950 dL_law_951 dL_law_952 dL_law_953 (by decide) hij ?_
  refine l_callC 954 C (ci := 7) [] dL_law_954 ml_L_114 hy_X8_plan (c_X8_plan hc) ⟨Nat.le_of_ble_eq_true rfl, Nat.le_of_ble_eq_true rfl⟩ rfl hl.1 rfl rfl (Nat.le_of_ble_eq_true rfl) rfl ?_
  refine l_aload 957 C dL_law_957 rfl (lv_at hl 2 rfl) ?_
  refine l_arg 958 1 C hbs hl dL_law_958 dL_law_959 dL_law_960 dL_law_961 dL_law_962 (by decide) hij ?_
  refine l_arg 963 2 C hbs hl dL_law_963 dL_law_964 dL_law_965 dL_law_966 dL_law_967 (by decide) hij ?_
  refine l_arg 968 3 C hbs hl dL_law_968 dL_law_969 dL_law_970 dL_law_971 dL_law_972 (by decide) hij ?_
  refine l_callM 973 C (ci := 8) [.int r] dL_law_973 ml_L_117 hy_X9_plan (c_X9_plan hm) ⟨Nat.le_of_ble_eq_true rfl, Nat.le_of_ble_eq_true rfl⟩ rfl hl.1 rfl rfl (Nat.le_of_ble_eq_true rfl) rfl ?_
  refine l_eqi 976 C dL_law_976 (by decide) ?_
  exact kk _ _ hJ
theorem case_25 {wc wm : zWd} {X : zLX} {Sc Sm : zMem} {ls : Array Slot} {l0 : Launch} {L i bs0 : Nat} {xs : Nat → Int32} {Inv : zMem → zMem → Prop} (C : zLK wc wm X l0 L xs) (hbs : match X with | (_, _, _, _, _, _, _, _, bs) => bs = bs0) (hl : lv_has ls 4 [(0, .ref bs0), (1, .ref (wc.2.2.1 0)), (2, .ref (wm.2.2.1 0)), (3, .int (nI i))]) (hij : i + 6 ≤ L) (hI : Inv Sc Sm) (hq : ∀ a b2 c3 : Int32, zIi Inv (f_X8_rest a b2 c3) (f_X9_rest a b2 c3)) (kk : ∀ Sc Sm, Inv Sc Sm → zL wc wm X Sc Sm 1415 ls []) : zL wc wm X Sc Sm 981 ls [] := by
  obtain ⟨r, Sc1, Sm1, hc, hm, hJ⟩ := hq (xs (i + 1)) (xs (i + 2)) (xs (i + 3)) Sc Sm hI
  refine l_aload 981 C dL_law_981 rfl (lv_at hl 1 rfl) ?_
  refine l_arg 982 1 C hbs hl dL_law_982 dL_law_983 dL_law_984 dL_law_985 dL_law_986 (by decide) hij ?_
  refine l_arg 987 2 C hbs hl dL_law_987 dL_law_988 dL_law_989 dL_law_990 dL_law_991 (by decide) hij ?_
  refine l_arg 992 3 C hbs hl dL_law_992 dL_law_993 dL_law_994 dL_law_995 dL_law_996 (by decide) hij ?_
  refine l_callC 997 C (ci := 7) [] dL_law_997 ml_L_118 hy_X8_rest (c_X8_rest hc) ⟨Nat.le_of_ble_eq_true rfl, Nat.le_of_ble_eq_true rfl⟩ rfl hl.1 rfl rfl (Nat.le_of_ble_eq_true rfl) rfl ?_
  refine l_aload 1000 C dL_law_1000 rfl (lv_at hl 2 rfl) ?_
  refine l_arg 1001 1 C hbs hl dL_law_1001 dL_law_1002 dL_law_1003 dL_law_1004 dL_law_1005 (by decide) hij ?_
  refine l_arg 1006 2 C hbs hl dL_law_1006 dL_law_1007 dL_law_1008 dL_law_1009 dL_law_1010 (by decide) hij ?_
  refine l_arg 1011 3 C hbs hl dL_law_1011 dL_law_1012 dL_law_1013 dL_law_1014 dL_law_1015 (by decide) hij ?_
  refine l_callM 1016 C (ci := 8) [.int r] dL_law_1016 ml_L_121 hy_X9_rest (c_X9_rest hm) ⟨Nat.le_of_ble_eq_true rfl, Nat.le_of_ble_eq_true rfl⟩ rfl hl.1 rfl rfl (Nat.le_of_ble_eq_true rfl) rfl ?_
  refine l_eqi 1019 C dL_law_1019 (by decide) ?_
  exact kk _ _ hJ
theorem case_26 {wc wm : zWd} {X : zLX} {Sc Sm : zMem} {ls : Array Slot} {l0 : Launch} {L i bs0 : Nat} {xs : Nat → Int32} {Inv : zMem → zMem → Prop} (C : zLK wc wm X l0 L xs) (hbs : match X with | (_, _, _, _, _, _, _, _, bs) => bs = bs0) (hl : lv_has ls 4 [(0, .ref bs0), (1, .ref (wc.2.2.1 0)), (2, .ref (wm.2.2.1 0)), (3, .int (nI i))]) (hij : i + 6 ≤ L) (hI : Inv Sc Sm) (hq : ∀ a b2 : Int32, zIi Inv (f_X8_meant a b2) (f_X9_meant a b2)) (kk : ∀ Sc Sm, Inv Sc Sm → zL wc wm X Sc Sm 1415 ls []) : zL wc wm X Sc Sm 1024 ls [] := by
  obtain ⟨r, Sc1, Sm1, hc, hm, hJ⟩ := hq (xs (i + 1)) (xs (i + 2)) Sc Sm hI
  refine l_aload 1024 C dL_law_1024 rfl (lv_at hl 1 rfl) ?_
  refine l_arg 1025 1 C hbs hl dL_law_1025 dL_law_1026 dL_law_1027 dL_law_1028 dL_law_1029 (by decide) hij ?_
  refine l_arg 1030 2 C hbs hl dL_law_1030 dL_law_1031 dL_law_1032 dL_law_1033 dL_law_1034 (by decide) hij ?_
  refine l_callC 1035 C (ci := 7) [] dL_law_1035 ml_L_122 hy_X8_meant (c_X8_meant hc) ⟨Nat.le_of_ble_eq_true rfl, Nat.le_of_ble_eq_true rfl⟩ rfl hl.1 rfl rfl (Nat.le_of_ble_eq_true rfl) rfl ?_
  refine l_aload 1038 C dL_law_1038 rfl (lv_at hl 2 rfl) ?_
  refine l_arg 1039 1 C hbs hl dL_law_1039 dL_law_1040 dL_law_1041 dL_law_1042 dL_law_1043 (by decide) hij ?_
  refine l_arg 1044 2 C hbs hl dL_law_1044 dL_law_1045 dL_law_1046 dL_law_1047 dL_law_1048 (by decide) hij ?_
  refine l_callM 1049 C (ci := 8) [.int r] dL_law_1049 ml_L_125 hy_X9_meant (c_X9_meant hm) ⟨Nat.le_of_ble_eq_true rfl, Nat.le_of_ble_eq_true rfl⟩ rfl hl.1 rfl rfl (Nat.le_of_ble_eq_true rfl) rfl ?_
  refine l_eqi 1052 C dL_law_1052 (by decide) ?_
  exact kk _ _ hJ
theorem case_27 {wc wm : zWd} {X : zLX} {Sc Sm : zMem} {ls : Array Slot} {l0 : Launch} {L i bs0 : Nat} {xs : Nat → Int32} {Inv : zMem → zMem → Prop} (C : zLK wc wm X l0 L xs) (hbs : match X with | (_, _, _, _, _, _, _, _, bs) => bs = bs0) (hl : lv_has ls 4 [(0, .ref bs0), (1, .ref (wc.2.2.1 0)), (2, .ref (wm.2.2.1 0)), (3, .int (nI i))]) (hij : i + 6 ≤ L) (hI : Inv Sc Sm) (hq : ∀ a b2 : Int32, zIi Inv (f_X8_kinds a b2) (f_X9_kinds a b2)) (kk : ∀ Sc Sm, Inv Sc Sm → zL wc wm X Sc Sm 1415 ls []) : zL wc wm X Sc Sm 1057 ls [] := by
  obtain ⟨r, Sc1, Sm1, hc, hm, hJ⟩ := hq (xs (i + 1)) (xs (i + 2)) Sc Sm hI
  refine l_aload 1057 C dL_law_1057 rfl (lv_at hl 1 rfl) ?_
  refine l_arg 1058 1 C hbs hl dL_law_1058 dL_law_1059 dL_law_1060 dL_law_1061 dL_law_1062 (by decide) hij ?_
  refine l_arg 1063 2 C hbs hl dL_law_1063 dL_law_1064 dL_law_1065 dL_law_1066 dL_law_1067 (by decide) hij ?_
  refine l_callC 1068 C (ci := 7) [] dL_law_1068 ml_L_126 hy_X8_kinds (c_X8_kinds hc) ⟨Nat.le_of_ble_eq_true rfl, Nat.le_of_ble_eq_true rfl⟩ rfl hl.1 rfl rfl (Nat.le_of_ble_eq_true rfl) rfl ?_
  refine l_aload 1071 C dL_law_1071 rfl (lv_at hl 2 rfl) ?_
  refine l_arg 1072 1 C hbs hl dL_law_1072 dL_law_1073 dL_law_1074 dL_law_1075 dL_law_1076 (by decide) hij ?_
  refine l_arg 1077 2 C hbs hl dL_law_1077 dL_law_1078 dL_law_1079 dL_law_1080 dL_law_1081 (by decide) hij ?_
  refine l_callM 1082 C (ci := 8) [.int r] dL_law_1082 ml_L_129 hy_X9_kinds (c_X9_kinds hm) ⟨Nat.le_of_ble_eq_true rfl, Nat.le_of_ble_eq_true rfl⟩ rfl hl.1 rfl rfl (Nat.le_of_ble_eq_true rfl) rfl ?_
  refine l_eqi 1085 C dL_law_1085 (by decide) ?_
  exact kk _ _ hJ
theorem case_28 {wc wm : zWd} {X : zLX} {Sc Sm : zMem} {ls : Array Slot} {l0 : Launch} {L i bs0 : Nat} {xs : Nat → Int32} {Inv : zMem → zMem → Prop} (C : zLK wc wm X l0 L xs) (hbs : match X with | (_, _, _, _, _, _, _, _, bs) => bs = bs0) (hl : lv_has ls 4 [(0, .ref bs0), (1, .ref (wc.2.2.1 0)), (2, .ref (wm.2.2.1 0)), (3, .int (nI i))]) (hij : i + 6 ≤ L) (hI : Inv Sc Sm) (hq : ∀ a b2 : Int32, zIi Inv (f_X8_test a b2) (f_X9_test a b2)) (kk : ∀ Sc Sm, Inv Sc Sm → zL wc wm X Sc Sm 1415 ls []) : zL wc wm X Sc Sm 1090 ls [] := by
  obtain ⟨r, Sc1, Sm1, hc, hm, hJ⟩ := hq (xs (i + 1)) (xs (i + 2)) Sc Sm hI
  refine l_aload 1090 C dL_law_1090 rfl (lv_at hl 1 rfl) ?_
  refine l_arg 1091 1 C hbs hl dL_law_1091 dL_law_1092 dL_law_1093 dL_law_1094 dL_law_1095 (by decide) hij ?_
  refine l_arg 1096 2 C hbs hl dL_law_1096 dL_law_1097 dL_law_1098 dL_law_1099 dL_law_1100 (by decide) hij ?_
  refine l_callC 1101 C (ci := 7) [] dL_law_1101 ml_L_130 hy_X8_test (c_X8_test hc) ⟨Nat.le_of_ble_eq_true rfl, Nat.le_of_ble_eq_true rfl⟩ rfl hl.1 rfl rfl (Nat.le_of_ble_eq_true rfl) rfl ?_
  refine l_aload 1104 C dL_law_1104 rfl (lv_at hl 2 rfl) ?_
  refine l_arg 1105 1 C hbs hl dL_law_1105 dL_law_1106 dL_law_1107 dL_law_1108 dL_law_1109 (by decide) hij ?_
  refine l_arg 1110 2 C hbs hl dL_law_1110 dL_law_1111 dL_law_1112 dL_law_1113 dL_law_1114 (by decide) hij ?_
  refine l_callM 1115 C (ci := 8) [.int r] dL_law_1115 ml_L_133 hy_X9_test (c_X9_test hm) ⟨Nat.le_of_ble_eq_true rfl, Nat.le_of_ble_eq_true rfl⟩ rfl hl.1 rfl rfl (Nat.le_of_ble_eq_true rfl) rfl ?_
  refine l_eqi 1118 C dL_law_1118 (by decide) ?_
  exact kk _ _ hJ
theorem case_29 {wc wm : zWd} {X : zLX} {Sc Sm : zMem} {ls : Array Slot} {l0 : Launch} {L i bs0 : Nat} {xs : Nat → Int32} {Inv : zMem → zMem → Prop} (C : zLK wc wm X l0 L xs) (hbs : match X with | (_, _, _, _, _, _, _, _, bs) => bs = bs0) (hl : lv_has ls 4 [(0, .ref bs0), (1, .ref (wc.2.2.1 0)), (2, .ref (wm.2.2.1 0)), (3, .int (nI i))]) (hij : i + 6 ≤ L) (hI : Inv Sc Sm) (hq : ∀ a : Int32, zIi Inv (f_X8_sets a) (f_X9_sets a)) (kk : ∀ Sc Sm, Inv Sc Sm → zL wc wm X Sc Sm 1415 ls []) : zL wc wm X Sc Sm 1123 ls [] := by
  obtain ⟨r, Sc1, Sm1, hc, hm, hJ⟩ := hq (xs (i + 1)) Sc Sm hI
  refine l_aload 1123 C dL_law_1123 rfl (lv_at hl 1 rfl) ?_
  refine l_arg 1124 1 C hbs hl dL_law_1124 dL_law_1125 dL_law_1126 dL_law_1127 dL_law_1128 (by decide) hij ?_
  refine l_callC 1129 C (ci := 7) [] dL_law_1129 ml_L_134 hy_X8_sets (c_X8_sets hc) ⟨Nat.le_of_ble_eq_true rfl, Nat.le_of_ble_eq_true rfl⟩ rfl hl.1 rfl rfl (Nat.le_of_ble_eq_true rfl) rfl ?_
  refine l_aload 1132 C dL_law_1132 rfl (lv_at hl 2 rfl) ?_
  refine l_arg 1133 1 C hbs hl dL_law_1133 dL_law_1134 dL_law_1135 dL_law_1136 dL_law_1137 (by decide) hij ?_
  refine l_callM 1138 C (ci := 8) [.int r] dL_law_1138 ml_L_137 hy_X9_sets (c_X9_sets hm) ⟨Nat.le_of_ble_eq_true rfl, Nat.le_of_ble_eq_true rfl⟩ rfl hl.1 rfl rfl (Nat.le_of_ble_eq_true rfl) rfl ?_
  refine l_eqi 1141 C dL_law_1141 (by decide) ?_
  exact kk _ _ hJ
theorem case_30 {wc wm : zWd} {X : zLX} {Sc Sm : zMem} {ls : Array Slot} {l0 : Launch} {L i bs0 : Nat} {xs : Nat → Int32} {Inv : zMem → zMem → Prop} (C : zLK wc wm X l0 L xs) (hbs : match X with | (_, _, _, _, _, _, _, _, bs) => bs = bs0) (hl : lv_has ls 4 [(0, .ref bs0), (1, .ref (wc.2.2.1 0)), (2, .ref (wm.2.2.1 0)), (3, .int (nI i))]) (hij : i + 6 ≤ L) (hI : Inv Sc Sm) (hq : ∀ a : Int32, zIi Inv (f_X8_sure a) (f_X9_sure a)) (kk : ∀ Sc Sm, Inv Sc Sm → zL wc wm X Sc Sm 1415 ls []) : zL wc wm X Sc Sm 1146 ls [] := by
  obtain ⟨r, Sc1, Sm1, hc, hm, hJ⟩ := hq (xs (i + 1)) Sc Sm hI
  refine l_aload 1146 C dL_law_1146 rfl (lv_at hl 1 rfl) ?_
  refine l_arg 1147 1 C hbs hl dL_law_1147 dL_law_1148 dL_law_1149 dL_law_1150 dL_law_1151 (by decide) hij ?_
  refine l_callC 1152 C (ci := 7) [] dL_law_1152 ml_L_138 hy_X8_sure (c_X8_sure hc) ⟨Nat.le_of_ble_eq_true rfl, Nat.le_of_ble_eq_true rfl⟩ rfl hl.1 rfl rfl (Nat.le_of_ble_eq_true rfl) rfl ?_
  refine l_aload 1155 C dL_law_1155 rfl (lv_at hl 2 rfl) ?_
  refine l_arg 1156 1 C hbs hl dL_law_1156 dL_law_1157 dL_law_1158 dL_law_1159 dL_law_1160 (by decide) hij ?_
  refine l_callM 1161 C (ci := 8) [.int r] dL_law_1161 ml_L_141 hy_X9_sure (c_X9_sure hm) ⟨Nat.le_of_ble_eq_true rfl, Nat.le_of_ble_eq_true rfl⟩ rfl hl.1 rfl rfl (Nat.le_of_ble_eq_true rfl) rfl ?_
  refine l_eqi 1164 C dL_law_1164 (by decide) ?_
  exact kk _ _ hJ
theorem case_31 {wc wm : zWd} {X : zLX} {Sc Sm : zMem} {ls : Array Slot} {l0 : Launch} {L i bs0 : Nat} {xs : Nat → Int32} {Inv : zMem → zMem → Prop} (C : zLK wc wm X l0 L xs) (hbs : match X with | (_, _, _, _, _, _, _, _, bs) => bs = bs0) (hl : lv_has ls 4 [(0, .ref bs0), (1, .ref (wc.2.2.1 0)), (2, .ref (wm.2.2.1 0)), (3, .int (nI i))]) (hij : i + 6 ≤ L) (hI : Inv Sc Sm) (hq : ∀ a : Int32, zIi Inv (f_X8_duel a) (f_X9_duel a)) (kk : ∀ Sc Sm, Inv Sc Sm → zL wc wm X Sc Sm 1415 ls []) : zL wc wm X Sc Sm 1169 ls [] := by
  obtain ⟨r, Sc1, Sm1, hc, hm, hJ⟩ := hq (xs (i + 1)) Sc Sm hI
  refine l_aload 1169 C dL_law_1169 rfl (lv_at hl 1 rfl) ?_
  refine l_arg 1170 1 C hbs hl dL_law_1170 dL_law_1171 dL_law_1172 dL_law_1173 dL_law_1174 (by decide) hij ?_
  refine l_callC 1175 C (ci := 7) [] dL_law_1175 ml_L_142 hy_X8_duel (c_X8_duel hc) ⟨Nat.le_of_ble_eq_true rfl, Nat.le_of_ble_eq_true rfl⟩ rfl hl.1 rfl rfl (Nat.le_of_ble_eq_true rfl) rfl ?_
  refine l_aload 1178 C dL_law_1178 rfl (lv_at hl 2 rfl) ?_
  refine l_arg 1179 1 C hbs hl dL_law_1179 dL_law_1180 dL_law_1181 dL_law_1182 dL_law_1183 (by decide) hij ?_
  refine l_callM 1184 C (ci := 8) [.int r] dL_law_1184 ml_L_145 hy_X9_duel (c_X9_duel hm) ⟨Nat.le_of_ble_eq_true rfl, Nat.le_of_ble_eq_true rfl⟩ rfl hl.1 rfl rfl (Nat.le_of_ble_eq_true rfl) rfl ?_
  refine l_eqi 1187 C dL_law_1187 (by decide) ?_
  exact kk _ _ hJ
theorem case_32 {wc wm : zWd} {X : zLX} {Sc Sm : zMem} {ls : Array Slot} {l0 : Launch} {L i bs0 : Nat} {xs : Nat → Int32} {Inv : zMem → zMem → Prop} (C : zLK wc wm X l0 L xs) (hbs : match X with | (_, _, _, _, _, _, _, _, bs) => bs = bs0) (hl : lv_has ls 4 [(0, .ref bs0), (1, .ref (wc.2.2.1 0)), (2, .ref (wm.2.2.1 0)), (3, .int (nI i))]) (hij : i + 6 ≤ L) (hI : Inv Sc Sm) (hq : ∀ a b2 c3 : Int32, zIi Inv (f_X8_odds a b2 c3) (f_X9_odds a b2 c3)) (kk : ∀ Sc Sm, Inv Sc Sm → zL wc wm X Sc Sm 1415 ls []) : zL wc wm X Sc Sm 1192 ls [] := by
  obtain ⟨r, Sc1, Sm1, hc, hm, hJ⟩ := hq (xs (i + 1)) (xs (i + 2)) (xs (i + 3)) Sc Sm hI
  refine l_aload 1192 C dL_law_1192 rfl (lv_at hl 1 rfl) ?_
  refine l_arg 1193 1 C hbs hl dL_law_1193 dL_law_1194 dL_law_1195 dL_law_1196 dL_law_1197 (by decide) hij ?_
  refine l_arg 1198 2 C hbs hl dL_law_1198 dL_law_1199 dL_law_1200 dL_law_1201 dL_law_1202 (by decide) hij ?_
  refine l_arg 1203 3 C hbs hl dL_law_1203 dL_law_1204 dL_law_1205 dL_law_1206 dL_law_1207 (by decide) hij ?_
  refine l_callC 1208 C (ci := 7) [] dL_law_1208 ml_L_146 hy_X8_odds (c_X8_odds hc) ⟨Nat.le_of_ble_eq_true rfl, Nat.le_of_ble_eq_true rfl⟩ rfl hl.1 rfl rfl (Nat.le_of_ble_eq_true rfl) rfl ?_
  refine l_aload 1211 C dL_law_1211 rfl (lv_at hl 2 rfl) ?_
  refine l_arg 1212 1 C hbs hl dL_law_1212 dL_law_1213 dL_law_1214 dL_law_1215 dL_law_1216 (by decide) hij ?_
  refine l_arg 1217 2 C hbs hl dL_law_1217 dL_law_1218 dL_law_1219 dL_law_1220 dL_law_1221 (by decide) hij ?_
  refine l_arg 1222 3 C hbs hl dL_law_1222 dL_law_1223 dL_law_1224 dL_law_1225 dL_law_1226 (by decide) hij ?_
  refine l_callM 1227 C (ci := 8) [.int r] dL_law_1227 ml_L_149 hy_X9_odds (c_X9_odds hm) ⟨Nat.le_of_ble_eq_true rfl, Nat.le_of_ble_eq_true rfl⟩ rfl hl.1 rfl rfl (Nat.le_of_ble_eq_true rfl) rfl ?_
  refine l_eqi 1230 C dL_law_1230 (by decide) ?_
  exact kk _ _ hJ
theorem case_33 {wc wm : zWd} {X : zLX} {Sc Sm : zMem} {ls : Array Slot} {l0 : Launch} {L i bs0 : Nat} {xs : Nat → Int32} {Inv : zMem → zMem → Prop} (C : zLK wc wm X l0 L xs) (hbs : match X with | (_, _, _, _, _, _, _, _, bs) => bs = bs0) (hl : lv_has ls 4 [(0, .ref bs0), (1, .ref (wc.2.2.1 0)), (2, .ref (wm.2.2.1 0)), (3, .int (nI i))]) (hij : i + 6 ≤ L) (hI : Inv Sc Sm) (hq : ∀ a b2 : Int32, zIi Inv (f_X8_mid a b2) (f_X9_mid a b2)) (kk : ∀ Sc Sm, Inv Sc Sm → zL wc wm X Sc Sm 1415 ls []) : zL wc wm X Sc Sm 1235 ls [] := by
  obtain ⟨r, Sc1, Sm1, hc, hm, hJ⟩ := hq (xs (i + 1)) (xs (i + 2)) Sc Sm hI
  refine l_aload 1235 C dL_law_1235 rfl (lv_at hl 1 rfl) ?_
  refine l_arg 1236 1 C hbs hl dL_law_1236 dL_law_1237 dL_law_1238 dL_law_1239 dL_law_1240 (by decide) hij ?_
  refine l_arg 1241 2 C hbs hl dL_law_1241 dL_law_1242 dL_law_1243 dL_law_1244 dL_law_1245 (by decide) hij ?_
  refine l_callC 1246 C (ci := 7) [] dL_law_1246 ml_L_150 hy_X8_mid (c_X8_mid hc) ⟨Nat.le_of_ble_eq_true rfl, Nat.le_of_ble_eq_true rfl⟩ rfl hl.1 rfl rfl (Nat.le_of_ble_eq_true rfl) rfl ?_
  refine l_aload 1249 C dL_law_1249 rfl (lv_at hl 2 rfl) ?_
  refine l_arg 1250 1 C hbs hl dL_law_1250 dL_law_1251 dL_law_1252 dL_law_1253 dL_law_1254 (by decide) hij ?_
  refine l_arg 1255 2 C hbs hl dL_law_1255 dL_law_1256 dL_law_1257 dL_law_1258 dL_law_1259 (by decide) hij ?_
  refine l_callM 1260 C (ci := 8) [.int r] dL_law_1260 ml_L_153 hy_X9_mid (c_X9_mid hm) ⟨Nat.le_of_ble_eq_true rfl, Nat.le_of_ble_eq_true rfl⟩ rfl hl.1 rfl rfl (Nat.le_of_ble_eq_true rfl) rfl ?_
  refine l_eqi 1263 C dL_law_1263 (by decide) ?_
  exact kk _ _ hJ
theorem case_34 {wc wm : zWd} {X : zLX} {Sc Sm : zMem} {ls : Array Slot} {l0 : Launch} {L i bs0 : Nat} {xs : Nat → Int32} {Inv : zMem → zMem → Prop} (C : zLK wc wm X l0 L xs) (hbs : match X with | (_, _, _, _, _, _, _, _, bs) => bs = bs0) (hl : lv_has ls 4 [(0, .ref bs0), (1, .ref (wc.2.2.1 0)), (2, .ref (wm.2.2.1 0)), (3, .int (nI i))]) (hij : i + 6 ≤ L) (hI : Inv Sc Sm) (hq : ∀ a b2 : Int32, zIi Inv (f_X8_lots a b2) (f_X9_lots a b2)) (kk : ∀ Sc Sm, Inv Sc Sm → zL wc wm X Sc Sm 1415 ls []) : zL wc wm X Sc Sm 1268 ls [] := by
  obtain ⟨r, Sc1, Sm1, hc, hm, hJ⟩ := hq (xs (i + 1)) (xs (i + 2)) Sc Sm hI
  refine l_aload 1268 C dL_law_1268 rfl (lv_at hl 1 rfl) ?_
  refine l_arg 1269 1 C hbs hl dL_law_1269 dL_law_1270 dL_law_1271 dL_law_1272 dL_law_1273 (by decide) hij ?_
  refine l_arg 1274 2 C hbs hl dL_law_1274 dL_law_1275 dL_law_1276 dL_law_1277 dL_law_1278 (by decide) hij ?_
  refine l_callC 1279 C (ci := 7) [] dL_law_1279 ml_L_154 hy_X8_lots (c_X8_lots hc) ⟨Nat.le_of_ble_eq_true rfl, Nat.le_of_ble_eq_true rfl⟩ rfl hl.1 rfl rfl (Nat.le_of_ble_eq_true rfl) rfl ?_
  refine l_aload 1282 C dL_law_1282 rfl (lv_at hl 2 rfl) ?_
  refine l_arg 1283 1 C hbs hl dL_law_1283 dL_law_1284 dL_law_1285 dL_law_1286 dL_law_1287 (by decide) hij ?_
  refine l_arg 1288 2 C hbs hl dL_law_1288 dL_law_1289 dL_law_1290 dL_law_1291 dL_law_1292 (by decide) hij ?_
  refine l_callM 1293 C (ci := 8) [.int r] dL_law_1293 ml_L_157 hy_X9_lots (c_X9_lots hm) ⟨Nat.le_of_ble_eq_true rfl, Nat.le_of_ble_eq_true rfl⟩ rfl hl.1 rfl rfl (Nat.le_of_ble_eq_true rfl) rfl ?_
  refine l_eqi 1296 C dL_law_1296 (by decide) ?_
  exact kk _ _ hJ
theorem case_35 {wc wm : zWd} {X : zLX} {Sc Sm : zMem} {ls : Array Slot} {l0 : Launch} {L i bs0 : Nat} {xs : Nat → Int32} {Inv : zMem → zMem → Prop} (C : zLK wc wm X l0 L xs) (hbs : match X with | (_, _, _, _, _, _, _, _, bs) => bs = bs0) (hl : lv_has ls 4 [(0, .ref bs0), (1, .ref (wc.2.2.1 0)), (2, .ref (wm.2.2.1 0)), (3, .int (nI i))]) (hij : i + 6 ≤ L) (hI : Inv Sc Sm) (hq : zIi Inv (f_X8_asked) (f_X9_asked)) (kk : ∀ Sc Sm, Inv Sc Sm → zL wc wm X Sc Sm 1415 ls []) : zL wc wm X Sc Sm 1301 ls [] := by
  obtain ⟨r, Sc1, Sm1, hc, hm, hJ⟩ := hq Sc Sm hI
  refine l_aload 1301 C dL_law_1301 rfl (lv_at hl 1 rfl) ?_
  refine l_callC 1302 C (ci := 7) [] dL_law_1302 ml_L_158 hy_X8_asked (c_X8_asked hc) ⟨Nat.le_of_ble_eq_true rfl, Nat.le_of_ble_eq_true rfl⟩ rfl hl.1 rfl rfl (Nat.le_of_ble_eq_true rfl) rfl ?_
  refine l_aload 1305 C dL_law_1305 rfl (lv_at hl 2 rfl) ?_
  refine l_callM 1306 C (ci := 8) [.int r] dL_law_1306 ml_L_161 hy_X9_asked (c_X9_asked hm) ⟨Nat.le_of_ble_eq_true rfl, Nat.le_of_ble_eq_true rfl⟩ rfl hl.1 rfl rfl (Nat.le_of_ble_eq_true rfl) rfl ?_
  refine l_eqi 1309 C dL_law_1309 (by decide) ?_
  exact kk _ _ hJ
theorem case_36 {wc wm : zWd} {X : zLX} {Sc Sm : zMem} {ls : Array Slot} {l0 : Launch} {L i bs0 : Nat} {xs : Nat → Int32} {Inv : zMem → zMem → Prop} (C : zLK wc wm X l0 L xs) (hbs : match X with | (_, _, _, _, _, _, _, _, bs) => bs = bs0) (hl : lv_has ls 4 [(0, .ref bs0), (1, .ref (wc.2.2.1 0)), (2, .ref (wm.2.2.1 0)), (3, .int (nI i))]) (hij : i + 6 ≤ L) (hI : Inv Sc Sm) (hq : zIl Inv (f_X8_upper) (f_X9_upper)) (kk : ∀ Sc Sm, Inv Sc Sm → zL wc wm X Sc Sm 1415 ls []) : zL wc wm X Sc Sm 1314 ls [] := by
  obtain ⟨r, Sc1, Sm1, hc, hm, hJ⟩ := hq Sc Sm hI
  refine l_aload 1314 C dL_law_1314 rfl (lv_at hl 1 rfl) ?_
  refine l_callC 1315 C (ci := 7) [] dL_law_1315 ml_L_162 hy_X8_upper (c_X8_upper hc) ⟨Nat.le_of_ble_eq_true rfl, Nat.le_of_ble_eq_true rfl⟩ rfl hl.1 rfl rfl (Nat.le_of_ble_eq_true rfl) rfl ?_
  refine l_aload 1318 C dL_law_1318 rfl (lv_at hl 2 rfl) ?_
  refine l_callM 1319 C (ci := 8) [.long r] dL_law_1319 ml_L_166 hy_X9_upper (c_X9_upper hm) ⟨Nat.le_of_ble_eq_true rfl, Nat.le_of_ble_eq_true rfl⟩ rfl hl.1 rfl rfl (Nat.le_of_ble_eq_true rfl) rfl ?_
  refine l_eql 1322 C dL_law_1322 dL_law_1323 (by decide) ?_
  exact kk _ _ hJ
theorem case_37 {wc wm : zWd} {X : zLX} {Sc Sm : zMem} {ls : Array Slot} {l0 : Launch} {L i bs0 : Nat} {xs : Nat → Int32} {Inv : zMem → zMem → Prop} (C : zLK wc wm X l0 L xs) (hbs : match X with | (_, _, _, _, _, _, _, _, bs) => bs = bs0) (hl : lv_has ls 4 [(0, .ref bs0), (1, .ref (wc.2.2.1 0)), (2, .ref (wm.2.2.1 0)), (3, .int (nI i))]) (hij : i + 6 ≤ L) (hI : Inv Sc Sm) (hq : zIl Inv (f_X8_lower) (f_X9_lower)) (kk : ∀ Sc Sm, Inv Sc Sm → zL wc wm X Sc Sm 1415 ls []) : zL wc wm X Sc Sm 1328 ls [] := by
  obtain ⟨r, Sc1, Sm1, hc, hm, hJ⟩ := hq Sc Sm hI
  refine l_aload 1328 C dL_law_1328 rfl (lv_at hl 1 rfl) ?_
  refine l_callC 1329 C (ci := 7) [] dL_law_1329 ml_L_167 hy_X8_lower (c_X8_lower hc) ⟨Nat.le_of_ble_eq_true rfl, Nat.le_of_ble_eq_true rfl⟩ rfl hl.1 rfl rfl (Nat.le_of_ble_eq_true rfl) rfl ?_
  refine l_aload 1332 C dL_law_1332 rfl (lv_at hl 2 rfl) ?_
  refine l_callM 1333 C (ci := 8) [.long r] dL_law_1333 ml_L_170 hy_X9_lower (c_X9_lower hm) ⟨Nat.le_of_ble_eq_true rfl, Nat.le_of_ble_eq_true rfl⟩ rfl hl.1 rfl rfl (Nat.le_of_ble_eq_true rfl) rfl ?_
  refine l_eql 1336 C dL_law_1336 dL_law_1337 (by decide) ?_
  exact kk _ _ hJ
theorem case_38 {wc wm : zWd} {X : zLX} {Sc Sm : zMem} {ls : Array Slot} {l0 : Launch} {L i bs0 : Nat} {xs : Nat → Int32} {Inv : zMem → zMem → Prop} (C : zLK wc wm X l0 L xs) (hbs : match X with | (_, _, _, _, _, _, _, _, bs) => bs = bs0) (hl : lv_has ls 4 [(0, .ref bs0), (1, .ref (wc.2.2.1 0)), (2, .ref (wm.2.2.1 0)), (3, .int (nI i))]) (hij : i + 6 ≤ L) (hI : Inv Sc Sm) (hq : ∀ a : Int32, zIi Inv (f_X8_count a) (f_X9_count a)) (kk : ∀ Sc Sm, Inv Sc Sm → zL wc wm X Sc Sm 1415 ls []) : zL wc wm X Sc Sm 1342 ls [] := by
  obtain ⟨r, Sc1, Sm1, hc, hm, hJ⟩ := hq (xs (i + 1)) Sc Sm hI
  refine l_aload 1342 C dL_law_1342 rfl (lv_at hl 1 rfl) ?_
  refine l_arg 1343 1 C hbs hl dL_law_1343 dL_law_1344 dL_law_1345 dL_law_1346 dL_law_1347 (by decide) hij ?_
  refine l_callC 1348 C (ci := 7) [] dL_law_1348 ml_L_171 hy_X8_count (c_X8_count hc) ⟨Nat.le_of_ble_eq_true rfl, Nat.le_of_ble_eq_true rfl⟩ rfl hl.1 rfl rfl (Nat.le_of_ble_eq_true rfl) rfl ?_
  refine l_aload 1351 C dL_law_1351 rfl (lv_at hl 2 rfl) ?_
  refine l_arg 1352 1 C hbs hl dL_law_1352 dL_law_1353 dL_law_1354 dL_law_1355 dL_law_1356 (by decide) hij ?_
  refine l_callM 1357 C (ci := 8) [.int r] dL_law_1357 ml_L_174 hy_X9_count (c_X9_count hm) ⟨Nat.le_of_ble_eq_true rfl, Nat.le_of_ble_eq_true rfl⟩ rfl hl.1 rfl rfl (Nat.le_of_ble_eq_true rfl) rfl ?_
  refine l_eqi 1360 C dL_law_1360 (by decide) ?_
  exact kk _ _ hJ
theorem case_39 {wc wm : zWd} {X : zLX} {Sc Sm : zMem} {ls : Array Slot} {l0 : Launch} {L i bs0 : Nat} {xs : Nat → Int32} {Inv : zMem → zMem → Prop} (C : zLK wc wm X l0 L xs) (hbs : match X with | (_, _, _, _, _, _, _, _, bs) => bs = bs0) (hl : lv_has ls 4 [(0, .ref bs0), (1, .ref (wc.2.2.1 0)), (2, .ref (wm.2.2.1 0)), (3, .int (nI i))]) (hij : i + 6 ≤ L) (hI : Inv Sc Sm) (hq : zIi Inv (f_X8_finding) (f_X9_finding)) (kk : ∀ Sc Sm, Inv Sc Sm → zL wc wm X Sc Sm 1415 ls []) : zL wc wm X Sc Sm 1365 ls [] := by
  obtain ⟨r, Sc1, Sm1, hc, hm, hJ⟩ := hq Sc Sm hI
  refine l_aload 1365 C dL_law_1365 rfl (lv_at hl 1 rfl) ?_
  refine l_callC 1366 C (ci := 7) [] dL_law_1366 ml_L_175 hy_X8_finding (c_X8_finding hc) ⟨Nat.le_of_ble_eq_true rfl, Nat.le_of_ble_eq_true rfl⟩ rfl hl.1 rfl rfl (Nat.le_of_ble_eq_true rfl) rfl ?_
  refine l_aload 1369 C dL_law_1369 rfl (lv_at hl 2 rfl) ?_
  refine l_callM 1370 C (ci := 8) [.int r] dL_law_1370 ml_L_178 hy_X9_finding (c_X9_finding hm) ⟨Nat.le_of_ble_eq_true rfl, Nat.le_of_ble_eq_true rfl⟩ rfl hl.1 rfl rfl (Nat.le_of_ble_eq_true rfl) rfl ?_
  refine l_eqi 1373 C dL_law_1373 (by decide) ?_
  exact kk _ _ hJ
theorem case_40 {wc wm : zWd} {X : zLX} {Sc Sm : zMem} {ls : Array Slot} {l0 : Launch} {L i bs0 : Nat} {xs : Nat → Int32} {Inv : zMem → zMem → Prop} (C : zLK wc wm X l0 L xs) (hbs : match X with | (_, _, _, _, _, _, _, _, bs) => bs = bs0) (hl : lv_has ls 4 [(0, .ref bs0), (1, .ref (wc.2.2.1 0)), (2, .ref (wm.2.2.1 0)), (3, .int (nI i))]) (hij : i + 6 ≤ L) (hI : Inv Sc Sm) (hq : ∀ a : Int32, zIi Inv (f_X8_findings a) (f_X9_findings a)) (kk : ∀ Sc Sm, Inv Sc Sm → zL wc wm X Sc Sm 1415 ls []) : zL wc wm X Sc Sm 1378 ls [] := by
  obtain ⟨r, Sc1, Sm1, hc, hm, hJ⟩ := hq (xs (i + 1)) Sc Sm hI
  refine l_aload 1378 C dL_law_1378 rfl (lv_at hl 1 rfl) ?_
  refine l_arg 1379 1 C hbs hl dL_law_1379 dL_law_1380 dL_law_1381 dL_law_1382 dL_law_1383 (by decide) hij ?_
  refine l_callC 1384 C (ci := 7) [] dL_law_1384 ml_L_179 hy_X8_findings (c_X8_findings hc) ⟨Nat.le_of_ble_eq_true rfl, Nat.le_of_ble_eq_true rfl⟩ rfl hl.1 rfl rfl (Nat.le_of_ble_eq_true rfl) rfl ?_
  refine l_aload 1387 C dL_law_1387 rfl (lv_at hl 2 rfl) ?_
  refine l_arg 1388 1 C hbs hl dL_law_1388 dL_law_1389 dL_law_1390 dL_law_1391 dL_law_1392 (by decide) hij ?_
  refine l_callM 1393 C (ci := 8) [.int r] dL_law_1393 ml_L_182 hy_X9_findings (c_X9_findings hm) ⟨Nat.le_of_ble_eq_true rfl, Nat.le_of_ble_eq_true rfl⟩ rfl hl.1 rfl rfl (Nat.le_of_ble_eq_true rfl) rfl ?_
  refine l_eqi 1396 C dL_law_1396 (by decide) ?_
  exact kk _ _ hJ
theorem case_41 {wc wm : zWd} {X : zLX} {Sc Sm : zMem} {ls : Array Slot} {l0 : Launch} {L i bs0 : Nat} {xs : Nat → Int32} {Inv : zMem → zMem → Prop} (C : zLK wc wm X l0 L xs) (hbs : match X with | (_, _, _, _, _, _, _, _, bs) => bs = bs0) (hl : lv_has ls 4 [(0, .ref bs0), (1, .ref (wc.2.2.1 0)), (2, .ref (wm.2.2.1 0)), (3, .int (nI i))]) (hij : i + 6 ≤ L) (hI : Inv Sc Sm) (hq : zIl Inv (f_X8_digest) (f_X9_digest)) (kk : ∀ Sc Sm, Inv Sc Sm → zL wc wm X Sc Sm 1415 ls []) : zL wc wm X Sc Sm 1401 ls [] := by
  obtain ⟨r, Sc1, Sm1, hc, hm, hJ⟩ := hq Sc Sm hI
  refine l_aload 1401 C dL_law_1401 rfl (lv_at hl 1 rfl) ?_
  refine l_callC 1402 C (ci := 7) [] dL_law_1402 ml_L_183 hy_X8_digest (c_X8_digest hc) ⟨Nat.le_of_ble_eq_true rfl, Nat.le_of_ble_eq_true rfl⟩ rfl hl.1 rfl rfl (Nat.le_of_ble_eq_true rfl) rfl ?_
  refine l_aload 1405 C dL_law_1405 rfl (lv_at hl 2 rfl) ?_
  refine l_callM 1406 C (ci := 8) [.long r] dL_law_1406 ml_L_186 hy_X9_digest (c_X9_digest hm) ⟨Nat.le_of_ble_eq_true rfl, Nat.le_of_ble_eq_true rfl⟩ rfl hl.1 rfl rfl (Nat.le_of_ble_eq_true rfl) rfl ?_
  refine l_eql 1409 C dL_law_1409 dL_law_1410 (by decide) ?_
  exact kk _ _ hJ
