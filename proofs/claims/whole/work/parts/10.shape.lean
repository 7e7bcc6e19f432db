def SH : List jC := [.inr (7, [some (some (some 1)), some (some (some 10)), some (some (some 19)), some (some (some 28)), some (some (some 29)), some (some (some 33)), some (some (some 37)), some (some (some 41)), some (some (some 49)), some (some (some 50)), some (some (some 51)), some (some (some 52)), none, none, none]), .inr (5, [some (some (some 2)), some (some (some 3)), some (some (some 4)), some (some (some 5)), none, none, none, some (some (some 6)), none, some (some (some 7)), some (some (some 8)), some (some (some 9)), none]), .inl (.int, 8), .inl (.int, 8), .inl (.int, 8), .inl (.int, 8), .inl (.char, 40), .inl (.int, 8), .inl (.int, 8), .inl (.int, 8), .inr (5, [some (some (some 11)), some (some (some 12)), some (some (some 13)), some (some (some 14)), none, none, none, some (some (some 15)), none, some (some (some 16)), some (some (some 17)), some (some (some 18)), none]), .inl (.int, 8), .inl (.int, 8), .inl (.int, 8), .inl (.int, 8), .inl (.char, 40), .inl (.int, 8), .inl (.int, 8), .inl (.int, 8), .inr (5, [some (some (some 20)), some (some (some 21)), some (some (some 22)), some (some (some 23)), none, none, none, some (some (some 24)), none, some (some (some 25)), some (some (some 26)), some (some (some 27)), none]), .inl (.int, 8), .inl (.int, 8), .inl (.int, 8), .inl (.int, 8), .inl (.char, 40), .inl (.int, 8), .inl (.int, 8), .inl (.int, 8), .inl (.boolean, 2), .inr (6, [some (some (some 1)), some (some (some 30)), some (some (some 31)), none, some (some (some 32)), none, none, none, none]), .inl (.char, 40), .inl (.int, 40), .inl (.long, 40), .inr (4, [some (some (some 1)), some (some (some 29)), some (some (some 34)), some (some (some 35)), some (some (some 36)), none]), .inl (.int, 5), .inl (.long, 800), .inl (.long, 800), .inr (1, [some (some (some 1)), some (some (some 33)), some (some (some 38)), some (some (some 39)), some (some (some 40)), none, none, none, none]), .inl (.int, 200), .inl (.int, 8), .inl (.int, 8), .inr (0, [some (some (some 1)), some (some (some 33)), some (some (some 42)), some (some (some 43)), some (some (some 44)), some (some (some 45)), some (some (some 46)), some (some (some 47)), some (some (some 48)), none, none, none, none, none, none]), .inl (.int, 256), .inl (.int, 256), .inl (.int, 256), .inl (.int, 256), .inl (.int, 256), .inl (.int, 256), .inl (.int, 8), .inr (3, [some (some (some 1)), some (some (some 33))]), .inr (2, [some none, some none]), .inl (.long, 9), .inl (.int, 40), .inr (8, [some (some (some 54)), some (some (some 55)), some (some (some 56)), some (some (some 57)), some none, some none, none, none, some (some (some 58)), none, some (some (some 59)), none, some (some (some 60)), some none, some (some (some 61)), some (some (some 62)), some (some (some 63)), none, none, some (some (some 64)), some (some (some 65)), some (some (some 66)), some (some (some 67)), none, some (some (some 68)), some (some (some 69)), some (some (some 70))]), .inl (.int, 101), .inl (.int, 202), .inl (.boolean, 2), .inl (.int, 3), .inl (.long, 64), .inl (.int, 128), .inl (.long, 6), .inl (.int, 8), .inl (.int, 8), .inl (.int, 200), .inl (.int, 256), .inl (.int, 256), .inl (.int, 256), .inl (.int, 256), .inl (.int, 8), .inl (.int, 40), .inl (.int, 40)]
theorem sh_0_0 : shO SH 0 0 = some (7, some (some (some 1))) := rfl
theorem sh_0_1 : shO SH 0 1 = some (7, some (some (some 10))) := rfl
theorem sh_0_2 : shO SH 0 2 = some (7, some (some (some 19))) := rfl
theorem sh_0_3 : shO SH 0 3 = some (7, some (some (some 28))) := rfl
theorem sh_0_4 : shO SH 0 4 = some (7, some (some (some 29))) := rfl
theorem sh_0_5 : shO SH 0 5 = some (7, some (some (some 33))) := rfl
theorem sh_0_6 : shO SH 0 6 = some (7, some (some (some 37))) := rfl
theorem sh_0_7 : shO SH 0 7 = some (7, some (some (some 41))) := rfl
theorem sh_0_8 : shO SH 0 8 = some (7, some (some (some 49))) := rfl
theorem sh_0_9 : shO SH 0 9 = some (7, some (some (some 50))) := rfl
theorem sh_0_10 : shO SH 0 10 = some (7, some (some (some 51))) := rfl
theorem sh_0_11 : shO SH 0 11 = some (7, some (some (some 52))) := rfl
theorem sh_0_12 : shO SH 0 12 = some (7, none) := rfl
theorem sh_0_13 : shO SH 0 13 = some (7, none) := rfl
theorem sh_0_14 : shO SH 0 14 = some (7, none) := rfl
theorem sh_1_0 : shO SH 1 0 = some (5, some (some (some 2))) := rfl
theorem sh_1_1 : shO SH 1 1 = some (5, some (some (some 3))) := rfl
theorem sh_1_2 : shO SH 1 2 = some (5, some (some (some 4))) := rfl
theorem sh_1_3 : shO SH 1 3 = some (5, some (some (some 5))) := rfl
theorem sh_1_4 : shO SH 1 4 = some (5, none) := rfl
theorem sh_1_5 : shO SH 1 5 = some (5, none) := rfl
theorem sh_1_6 : shO SH 1 6 = some (5, none) := rfl
theorem sh_1_7 : shO SH 1 7 = some (5, some (some (some 6))) := rfl
theorem sh_1_8 : shO SH 1 8 = some (5, none) := rfl
theorem sh_1_9 : shO SH 1 9 = some (5, some (some (some 7))) := rfl
theorem sh_1_10 : shO SH 1 10 = some (5, some (some (some 8))) := rfl
theorem sh_1_11 : shO SH 1 11 = some (5, some (some (some 9))) := rfl
theorem sh_1_12 : shO SH 1 12 = some (5, none) := rfl
theorem sa_2 : shA SH 2 = some (.int, 8) := rfl
theorem sa_3 : shA SH 3 = some (.int, 8) := rfl
theorem sa_4 : shA SH 4 = some (.int, 8) := rfl
theorem sa_5 : shA SH 5 = some (.int, 8) := rfl
theorem sa_6 : shA SH 6 = some (.char, 40) := rfl
theorem sa_7 : shA SH 7 = some (.int, 8) := rfl
theorem sa_8 : shA SH 8 = some (.int, 8) := rfl
theorem sa_9 : shA SH 9 = some (.int, 8) := rfl
theorem sh_10_0 : shO SH 10 0 = some (5, some (some (some 11))) := rfl
theorem sh_10_1 : shO SH 10 1 = some (5, some (some (some 12))) := rfl
theorem sh_10_2 : shO SH 10 2 = some (5, some (some (some 13))) := rfl
theorem sh_10_3 : shO SH 10 3 = some (5, some (some (some 14))) := rfl
theorem sh_10_4 : shO SH 10 4 = some (5, none) := rfl
theorem sh_10_5 : shO SH 10 5 = some (5, none) := rfl
theorem sh_10_6 : shO SH 10 6 = some (5, none) := rfl
theorem sh_10_7 : shO SH 10 7 = some (5, some (some (some 15))) := rfl
theorem sh_10_8 : shO SH 10 8 = some (5, none) := rfl
theorem sh_10_9 : shO SH 10 9 = some (5, some (some (some 16))) := rfl
theorem sh_10_10 : shO SH 10 10 = some (5, some (some (some 17))) := rfl
theorem sh_10_11 : shO SH 10 11 = some (5, some (some (some 18))) := rfl
theorem sh_10_12 : shO SH 10 12 = some (5, none) := rfl
theorem sa_11 : shA SH 11 = some (.int, 8) := rfl
theorem sa_12 : shA SH 12 = some (.int, 8) := rfl
theorem sa_13 : shA SH 13 = some (.int, 8) := rfl
theorem sa_14 : shA SH 14 = some (.int, 8) := rfl
theorem sa_15 : shA SH 15 = some (.char, 40) := rfl
theorem sa_16 : shA SH 16 = some (.int, 8) := rfl
theorem sa_17 : shA SH 17 = some (.int, 8) := rfl
theorem sa_18 : shA SH 18 = some (.int, 8) := rfl
theorem sh_19_0 : shO SH 19 0 = some (5, some (some (some 20))) := rfl
theorem sh_19_1 : shO SH 19 1 = some (5, some (some (some 21))) := rfl
theorem sh_19_2 : shO SH 19 2 = some (5, some (some (some 22))) := rfl
theorem sh_19_3 : shO SH 19 3 = some (5, some (some (some 23))) := rfl
theorem sh_19_4 : shO SH 19 4 = some (5, none) := rfl
theorem sh_19_5 : shO SH 19 5 = some (5, none) := rfl
theorem sh_19_6 : shO SH 19 6 = some (5, none) := rfl
theorem sh_19_7 : shO SH 19 7 = some (5, some (some (some 24))) := rfl
theorem sh_19_8 : shO SH 19 8 = some (5, none) := rfl
theorem sh_19_9 : shO SH 19 9 = some (5, some (some (some 25))) := rfl
theorem sh_19_10 : shO SH 19 10 = some (5, some (some (some 26))) := rfl
theorem sh_19_11 : shO SH 19 11 = some (5, some (some (some 27))) := rfl
theorem sh_19_12 : shO SH 19 12 = some (5, none) := rfl
theorem sa_20 : shA SH 20 = some (.int, 8) := rfl
theorem sa_21 : shA SH 21 = some (.int, 8) := rfl
theorem sa_22 : shA SH 22 = some (.int, 8) := rfl
theorem sa_23 : shA SH 23 = some (.int, 8) := rfl
theorem sa_24 : shA SH 24 = some (.char, 40) := rfl
theorem sa_25 : shA SH 25 = some (.int, 8) := rfl
theorem sa_26 : shA SH 26 = some (.int, 8) := rfl
theorem sa_27 : shA SH 27 = some (.int, 8) := rfl
theorem sa_28 : shA SH 28 = some (.boolean, 2) := rfl
theorem sh_29_0 : shO SH 29 0 = some (6, some (some (some 1))) := rfl
theorem sh_29_1 : shO SH 29 1 = some (6, some (some (some 30))) := rfl
theorem sh_29_2 : shO SH 29 2 = some (6, some (some (some 31))) := rfl
theorem sh_29_3 : shO SH 29 3 = some (6, none) := rfl
theorem sh_29_4 : shO SH 29 4 = some (6, some (some (some 32))) := rfl
theorem sh_29_5 : shO SH 29 5 = some (6, none) := rfl
theorem sh_29_6 : shO SH 29 6 = some (6, none) := rfl
theorem sh_29_7 : shO SH 29 7 = some (6, none) := rfl
theorem sh_29_8 : shO SH 29 8 = some (6, none) := rfl
theorem sa_30 : shA SH 30 = some (.char, 40) := rfl
theorem sa_31 : shA SH 31 = some (.int, 40) := rfl
theorem sa_32 : shA SH 32 = some (.long, 40) := rfl
theorem sh_33_0 : shO SH 33 0 = some (4, some (some (some 1))) := rfl
theorem sh_33_1 : shO SH 33 1 = some (4, some (some (some 29))) := rfl
theorem sh_33_2 : shO SH 33 2 = some (4, some (some (some 34))) := rfl
theorem sh_33_3 : shO SH 33 3 = some (4, some (some (some 35))) := rfl
theorem sh_33_4 : shO SH 33 4 = some (4, some (some (some 36))) := rfl
theorem sh_33_5 : shO SH 33 5 = some (4, none) := rfl
theorem sa_34 : shA SH 34 = some (.int, 5) := rfl
theorem sa_35 : shA SH 35 = some (.long, 800) := rfl
theorem sa_36 : shA SH 36 = some (.long, 800) := rfl
theorem sh_37_0 : shO SH 37 0 = some (1, some (some (some 1))) := rfl
theorem sh_37_1 : shO SH 37 1 = some (1, some (some (some 33))) := rfl
theorem sh_37_2 : shO SH 37 2 = some (1, some (some (some 38))) := rfl
theorem sh_37_3 : shO SH 37 3 = some (1, some (some (some 39))) := rfl
theorem sh_37_4 : shO SH 37 4 = some (1, some (some (some 40))) := rfl
theorem sh_37_5 : shO SH 37 5 = some (1, none) := rfl
theorem sh_37_6 : shO SH 37 6 = some (1, none) := rfl
theorem sh_37_7 : shO SH 37 7 = some (1, none) := rfl
theorem sh_37_8 : shO SH 37 8 = some (1, none) := rfl
theorem sa_38 : shA SH 38 = some (.int, 200) := rfl
theorem sa_39 : shA SH 39 = some (.int, 8) := rfl
theorem sa_40 : shA SH 40 = some (.int, 8) := rfl
theorem sh_41_0 : shO SH 41 0 = some (0, some (some (some 1))) := rfl
theorem sh_41_1 : shO SH 41 1 = some (0, some (some (some 33))) := rfl
theorem sh_41_2 : shO SH 41 2 = some (0, some (some (some 42))) := rfl
theorem sh_41_3 : shO SH 41 3 = some (0, some (some (some 43))) := rfl
theorem sh_41_4 : shO SH 41 4 = some (0, some (some (some 44))) := rfl
theorem sh_41_5 : shO SH 41 5 = some (0, some (some (some 45))) := rfl
theorem sh_41_6 : shO SH 41 6 = some (0, some (some (some 46))) := rfl
theorem sh_41_7 : shO SH 41 7 = some (0, some (some (some 47))) := rfl
theorem sh_41_8 : shO SH 41 8 = some (0, some (some (some 48))) := rfl
theorem sh_41_9 : shO SH 41 9 = some (0, none) := rfl
theorem sh_41_10 : shO SH 41 10 = some (0, none) := rfl
theorem sh_41_11 : shO SH 41 11 = some (0, none) := rfl
theorem sh_41_12 : shO SH 41 12 = some (0, none) := rfl
theorem sh_41_13 : shO SH 41 13 = some (0, none) := rfl
theorem sh_41_14 : shO SH 41 14 = some (0, none) := rfl
theorem sa_42 : shA SH 42 = some (.int, 256) := rfl
theorem sa_43 : shA SH 43 = some (.int, 256) := rfl
theorem sa_44 : shA SH 44 = some (.int, 256) := rfl
theorem sa_45 : shA SH 45 = some (.int, 256) := rfl
theorem sa_46 : shA SH 46 = some (.int, 256) := rfl
theorem sa_47 : shA SH 47 = some (.int, 256) := rfl
theorem sa_48 : shA SH 48 = some (.int, 8) := rfl
theorem sh_49_0 : shO SH 49 0 = some (3, some (some (some 1))) := rfl
theorem sh_49_1 : shO SH 49 1 = some (3, some (some (some 33))) := rfl
theorem sh_50_0 : shO SH 50 0 = some (2, some none) := rfl
theorem sh_50_1 : shO SH 50 1 = some (2, some none) := rfl
theorem sa_51 : shA SH 51 = some (.long, 9) := rfl
theorem sa_52 : shA SH 52 = some (.int, 40) := rfl
theorem sh_53_0 : shO SH 53 0 = some (8, some (some (some 54))) := rfl
theorem sh_53_1 : shO SH 53 1 = some (8, some (some (some 55))) := rfl
theorem sh_53_2 : shO SH 53 2 = some (8, some (some (some 56))) := rfl
theorem sh_53_3 : shO SH 53 3 = some (8, some (some (some 57))) := rfl
theorem sh_53_4 : shO SH 53 4 = some (8, some none) := rfl
theorem sh_53_5 : shO SH 53 5 = some (8, some none) := rfl
theorem sh_53_6 : shO SH 53 6 = some (8, none) := rfl
theorem sh_53_7 : shO SH 53 7 = some (8, none) := rfl
theorem sh_53_8 : shO SH 53 8 = some (8, some (some (some 58))) := rfl
theorem sh_53_9 : shO SH 53 9 = some (8, none) := rfl
theorem sh_53_10 : shO SH 53 10 = some (8, some (some (some 59))) := rfl
theorem sh_53_11 : shO SH 53 11 = some (8, none) := rfl
theorem sh_53_12 : shO SH 53 12 = some (8, some (some (some 60))) := rfl
theorem sh_53_13 : shO SH 53 13 = some (8, some none) := rfl
theorem sh_53_14 : shO SH 53 14 = some (8, some (some (some 61))) := rfl
theorem sh_53_15 : shO SH 53 15 = some (8, some (some (some 62))) := rfl
theorem sh_53_16 : shO SH 53 16 = some (8, some (some (some 63))) := rfl
theorem sh_53_17 : shO SH 53 17 = some (8, none) := rfl
theorem sh_53_18 : shO SH 53 18 = some (8, none) := rfl
theorem sh_53_19 : shO SH 53 19 = some (8, some (some (some 64))) := rfl
theorem sh_53_20 : shO SH 53 20 = some (8, some (some (some 65))) := rfl
theorem sh_53_21 : shO SH 53 21 = some (8, some (some (some 66))) := rfl
theorem sh_53_22 : shO SH 53 22 = some (8, some (some (some 67))) := rfl
theorem sh_53_23 : shO SH 53 23 = some (8, none) := rfl
theorem sh_53_24 : shO SH 53 24 = some (8, some (some (some 68))) := rfl
theorem sh_53_25 : shO SH 53 25 = some (8, some (some (some 69))) := rfl
theorem sh_53_26 : shO SH 53 26 = some (8, some (some (some 70))) := rfl
theorem sa_54 : shA SH 54 = some (.int, 101) := rfl
theorem sa_55 : shA SH 55 = some (.int, 202) := rfl
theorem sa_56 : shA SH 56 = some (.boolean, 2) := rfl
theorem sa_57 : shA SH 57 = some (.int, 3) := rfl
theorem sa_58 : shA SH 58 = some (.long, 64) := rfl
theorem sa_59 : shA SH 59 = some (.int, 128) := rfl
theorem sa_60 : shA SH 60 = some (.long, 6) := rfl
theorem sa_61 : shA SH 61 = some (.int, 8) := rfl
theorem sa_62 : shA SH 62 = some (.int, 8) := rfl
theorem sa_63 : shA SH 63 = some (.int, 200) := rfl
theorem sa_64 : shA SH 64 = some (.int, 256) := rfl
theorem sa_65 : shA SH 65 = some (.int, 256) := rfl
theorem sa_66 : shA SH 66 = some (.int, 256) := rfl
theorem sa_67 : shA SH 67 = some (.int, 256) := rfl
theorem sa_68 : shA SH 68 = some (.int, 8) := rfl
theorem sa_69 : shA SH 69 = some (.int, 40) := rfl
theorem sa_70 : shA SH 70 = some (.int, 40) := rfl
theorem uin_0 : ∀ w ∈ u_ws RX0 TX0 15, w ∈ TBW := fun w hw => List.mem_filter.mpr ⟨(by decide +kernel : ∀ w ∈ u_ws RX0 TX0 15, w ∈ lw_tbl) w hw, (by decide +kernel : ∀ w ∈ u_ws RX0 TX0 15, goodWord w = true) w hw⟩
theorem uin_1 : ∀ w ∈ u_ws RX1 TX1 9, w ∈ TBW := fun w hw => List.mem_filter.mpr ⟨(by decide +kernel : ∀ w ∈ u_ws RX1 TX1 9, w ∈ lw_tbl) w hw, (by decide +kernel : ∀ w ∈ u_ws RX1 TX1 9, goodWord w = true) w hw⟩
theorem uin_2 : ∀ w ∈ u_ws RX2 TX2 2, w ∈ TBW := fun w hw => List.mem_filter.mpr ⟨(by decide +kernel : ∀ w ∈ u_ws RX2 TX2 2, w ∈ lw_tbl) w hw, (by decide +kernel : ∀ w ∈ u_ws RX2 TX2 2, goodWord w = true) w hw⟩
theorem uin_3 : ∀ w ∈ u_ws RX3 TX3 2, w ∈ TBW := fun w hw => List.mem_filter.mpr ⟨(by decide +kernel : ∀ w ∈ u_ws RX3 TX3 2, w ∈ lw_tbl) w hw, (by decide +kernel : ∀ w ∈ u_ws RX3 TX3 2, goodWord w = true) w hw⟩
theorem uin_4 : ∀ w ∈ u_ws RX4 TX4 6, w ∈ TBW := fun w hw => List.mem_filter.mpr ⟨(by decide +kernel : ∀ w ∈ u_ws RX4 TX4 6, w ∈ lw_tbl) w hw, (by decide +kernel : ∀ w ∈ u_ws RX4 TX4 6, goodWord w = true) w hw⟩
theorem uin_5 : ∀ w ∈ u_ws RX5 TX5 13, w ∈ TBW := fun w hw => List.mem_filter.mpr ⟨(by decide +kernel : ∀ w ∈ u_ws RX5 TX5 13, w ∈ lw_tbl) w hw, (by decide +kernel : ∀ w ∈ u_ws RX5 TX5 13, goodWord w = true) w hw⟩
theorem uin_6 : ∀ w ∈ u_ws RX6 TX6 9, w ∈ TBW := fun w hw => List.mem_filter.mpr ⟨(by decide +kernel : ∀ w ∈ u_ws RX6 TX6 9, w ∈ lw_tbl) w hw, (by decide +kernel : ∀ w ∈ u_ws RX6 TX6 9, goodWord w = true) w hw⟩
theorem uin_7 : ∀ w ∈ u_ws RX7 TX7 15, w ∈ TBW := fun w hw => List.mem_filter.mpr ⟨(by decide +kernel : ∀ w ∈ u_ws RX7 TX7 15, w ∈ lw_tbl) w hw, (by decide +kernel : ∀ w ∈ u_ws RX7 TX7 15, goodWord w = true) w hw⟩
theorem uin_8 : ∀ w ∈ u_ws RX8 TX8 27, w ∈ TBW := fun w hw => List.mem_filter.mpr ⟨(by decide +kernel : ∀ w ∈ u_ws RX8 TX8 27, w ∈ lw_tbl) w hw, (by decide +kernel : ∀ w ∈ u_ws RX8 TX8 27, goodWord w = true) w hw⟩
