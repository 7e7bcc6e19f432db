theorem fl_RX0_102 : FL RX0 102 5 6 := ⟨RX5, TX5, 13, rfl, uin_5, by decide, Or.inr ⟨_, mNW 134 w_134 rfl⟩⟩
theorem fl_RX0_15 : FL RX0 15 0 3 := ⟨RX0, TX0, 15, rfl, uin_0, by decide, Or.inl (mTB 449 w_449 rfl)⟩
theorem fl_RX0_18 : FL RX0 18 0 4 := ⟨RX0, TX0, 15, rfl, uin_0, by decide, Or.inl (mTB 450 w_450 rfl)⟩
theorem fl_RX0_21 : FL RX0 21 0 5 := ⟨RX0, TX0, 15, rfl, uin_0, by decide, Or.inl (mTB 451 w_451 rfl)⟩
theorem fl_RX0_24 : FL RX0 24 0 6 := ⟨RX0, TX0, 15, rfl, uin_0, by decide, Or.inl (mTB 452 w_452 rfl)⟩
theorem fl_RX0_27 : FL RX0 27 0 7 := ⟨RX0, TX0, 15, rfl, uin_0, by decide, Or.inl (mTB 453 w_453 rfl)⟩
theorem fl_RX0_30 : FL RX0 30 0 8 := ⟨RX0, TX0, 15, rfl, uin_0, by decide, Or.inl (mTB 454 w_454 rfl)⟩
theorem fl_RX0_33 : FL RX0 33 0 14 := ⟨RX0, TX0, 15, rfl, uin_0, by decide, Or.inl (mTB 466 w_466 rfl)⟩
theorem fl_RX0_37 : FL RX0 37 0 0 := ⟨RX0, TX0, 15, rfl, uin_0, by decide, Or.inl (mTB 446 w_446 rfl)⟩
theorem fl_RX0_41 : FL RX0 41 0 1 := ⟨RX0, TX0, 15, rfl, uin_0, by decide, Or.inl (mTB 447 w_447 rfl)⟩
theorem fl_RX0_45 : FL RX0 45 5 4 := ⟨RX5, TX5, 13, rfl, uin_5, by decide, Or.inr ⟨_, mNW 126 w_126 rfl⟩⟩
theorem fl_RX0_58 : FL RX0 58 0 10 := ⟨RX0, TX0, 15, rfl, uin_0, by decide, Or.inl (mTB 458 w_458 rfl)⟩
theorem fl_RX0_70 : FL RX0 70 0 9 := ⟨RX0, TX0, 15, rfl, uin_0, by decide, Or.inl (mTB 456 w_456 rfl)⟩
theorem fl_RX0_89 : FL RX0 89 5 1 := ⟨RX5, TX5, 13, rfl, uin_5, by decide, Or.inr ⟨_, mNW 119 w_119 rfl⟩⟩
theorem fl_RX0_9 : FL RX0 9 0 2 := ⟨RX0, TX0, 15, rfl, uin_0, by decide, Or.inl (mTB 448 w_448 rfl)⟩
theorem fl_RX1_15 : FL RX1 15 1 3 := ⟨RX1, TX1, 9, rfl, uin_1, by decide, Or.inl (mTB 410 w_410 rfl)⟩
theorem fl_RX1_18 : FL RX1 18 1 4 := ⟨RX1, TX1, 9, rfl, uin_1, by decide, Or.inl (mTB 412 w_412 rfl)⟩
theorem fl_RX1_21 : FL RX1 21 1 8 := ⟨RX1, TX1, 9, rfl, uin_1, by decide, Or.inl (mTB 419 w_419 rfl)⟩
theorem fl_RX1_25 : FL RX1 25 1 0 := ⟨RX1, TX1, 9, rfl, uin_1, by decide, Or.inl (mTB 406 w_406 rfl)⟩
theorem fl_RX1_29 : FL RX1 29 1 1 := ⟨RX1, TX1, 9, rfl, uin_1, by decide, Or.inl (mTB 407 w_407 rfl)⟩
theorem fl_RX1_33 : FL RX1 33 1 5 := ⟨RX1, TX1, 9, rfl, uin_1, by decide, Or.inl (mTB 414 w_414 rfl)⟩
theorem fl_RX1_37 : FL RX1 37 1 6 := ⟨RX1, TX1, 9, rfl, uin_1, by decide, Or.inl (mTB 415 w_415 rfl)⟩
theorem fl_RX1_40 : FL RX1 40 1 7 := ⟨RX1, TX1, 9, rfl, uin_1, by decide, Or.inl (mTB 417 w_417 rfl)⟩
theorem fl_RX1_74 : FL RX1 74 5 4 := ⟨RX5, TX5, 13, rfl, uin_5, by decide, Or.inr ⟨_, mNW 128 w_128 rfl⟩⟩
theorem fl_RX1_82 : FL RX1 82 5 1 := ⟨RX5, TX5, 13, rfl, uin_5, by decide, Or.inr ⟨_, mNW 120 w_120 rfl⟩⟩
theorem fl_RX1_85 : FL RX1 85 5 2 := ⟨RX5, TX5, 13, rfl, uin_5, by decide, Or.inr ⟨_, mNW 122 w_122 rfl⟩⟩
theorem fl_RX1_88 : FL RX1 88 5 5 := ⟨RX5, TX5, 13, rfl, uin_5, by decide, Or.inr ⟨_, mNW 131 w_131 rfl⟩⟩
theorem fl_RX1_9 : FL RX1 9 1 2 := ⟨RX1, TX1, 9, rfl, uin_1, by decide, Or.inl (mTB 408 w_408 rfl)⟩
theorem fl_RX3_15 : FL RX3 15 3 1 := ⟨RX3, TX3, 2, rfl, uin_3, by decide, Or.inl (mTB 506 w_506 rfl)⟩
theorem fl_RX3_19 : FL RX3 19 5 12 := ⟨RX5, TX5, 13, rfl, uin_5, by decide, Or.inr ⟨_, mNW 147 w_147 rfl⟩⟩
theorem fl_RX3_29 : FL RX3 29 5 10 := ⟨RX5, TX5, 13, rfl, uin_5, by decide, Or.inr ⟨_, mNW 143 w_143 rfl⟩⟩
theorem fl_RX3_33 : FL RX3 33 5 11 := ⟨RX5, TX5, 13, rfl, uin_5, by decide, Or.inr ⟨_, mNW 145 w_145 rfl⟩⟩
theorem fl_RX3_36 : FL RX3 36 5 9 := ⟨RX5, TX5, 13, rfl, uin_5, by decide, Or.inr ⟨_, mNW 141 w_141 rfl⟩⟩
theorem fl_RX3_9 : FL RX3 9 3 0 := ⟨RX3, TX3, 2, rfl, uin_3, by decide, Or.inl (mTB 505 w_505 rfl)⟩
theorem fl_RX4_15 : FL RX4 15 4 3 := ⟨RX4, TX4, 6, rfl, uin_4, by decide, Or.inl (mTB 383 w_383 rfl)⟩
theorem fl_RX4_19 : FL RX4 19 4 4 := ⟨RX4, TX4, 6, rfl, uin_4, by decide, Or.inl (mTB 384 w_384 rfl)⟩
theorem fl_RX4_22 : FL RX4 22 4 5 := ⟨RX4, TX4, 6, rfl, uin_4, by decide, Or.inl (mTB 385 w_385 rfl)⟩
theorem fl_RX4_26 : FL RX4 26 4 0 := ⟨RX4, TX4, 6, rfl, uin_4, by decide, Or.inl (mTB 380 w_380 rfl)⟩
theorem fl_RX4_30 : FL RX4 30 4 1 := ⟨RX4, TX4, 6, rfl, uin_4, by decide, Or.inl (mTB 381 w_381 rfl)⟩
theorem fl_RX4_40 : FL RX4 40 6 8 := ⟨RX6, TX6, 9, rfl, uin_6, by decide, Or.inr ⟨_, mNW 351 w_351 rfl⟩⟩
theorem fl_RX4_9 : FL RX4 9 4 2 := ⟨RX4, TX4, 6, rfl, uin_4, by decide, Or.inl (mTB 382 w_382 rfl)⟩
theorem fl_RX5_15 : FL RX5 15 5 1 := ⟨RX5, TX5, 13, rfl, uin_5, by decide, Or.inl (mTB 118 w_118 rfl)⟩
theorem fl_RX5_18 : FL RX5 18 5 2 := ⟨RX5, TX5, 13, rfl, uin_5, by decide, Or.inl (mTB 121 w_121 rfl)⟩
theorem fl_RX5_21 : FL RX5 21 5 3 := ⟨RX5, TX5, 13, rfl, uin_5, by decide, Or.inl (mTB 123 w_123 rfl)⟩
theorem fl_RX5_24 : FL RX5 24 5 4 := ⟨RX5, TX5, 13, rfl, uin_5, by decide, Or.inl (mTB 125 w_125 rfl)⟩
theorem fl_RX5_28 : FL RX5 28 5 5 := ⟨RX5, TX5, 13, rfl, uin_5, by decide, Or.inl (mTB 129 w_129 rfl)⟩
theorem fl_RX5_31 : FL RX5 31 5 6 := ⟨RX5, TX5, 13, rfl, uin_5, by decide, Or.inl (mTB 132 w_132 rfl)⟩
theorem fl_RX5_34 : FL RX5 34 5 7 := ⟨RX5, TX5, 13, rfl, uin_5, by decide, Or.inl (mTB 135 w_135 rfl)⟩
theorem fl_RX5_38 : FL RX5 38 5 8 := ⟨RX5, TX5, 13, rfl, uin_5, by decide, Or.inl (mTB 137 w_137 rfl)⟩
theorem fl_RX5_41 : FL RX5 41 5 9 := ⟨RX5, TX5, 13, rfl, uin_5, by decide, Or.inl (mTB 140 w_140 rfl)⟩
theorem fl_RX5_44 : FL RX5 44 5 10 := ⟨RX5, TX5, 13, rfl, uin_5, by decide, Or.inl (mTB 142 w_142 rfl)⟩
theorem fl_RX5_47 : FL RX5 47 5 11 := ⟨RX5, TX5, 13, rfl, uin_5, by decide, Or.inl (mTB 144 w_144 rfl)⟩
theorem fl_RX5_50 : FL RX5 50 5 12 := ⟨RX5, TX5, 13, rfl, uin_5, by decide, Or.inl (mTB 146 w_146 rfl)⟩
theorem fl_RX5_9 : FL RX5 9 5 0 := ⟨RX5, TX5, 13, rfl, uin_5, by decide, Or.inl (mTB 117 w_117 rfl)⟩
theorem fl_RX6_122 : FL RX6 122 5 8 := ⟨RX5, TX5, 13, rfl, uin_5, by decide, Or.inr ⟨_, mNW 139 w_139 rfl⟩⟩
theorem fl_RX6_125 : FL RX6 125 6 5 := ⟨RX6, TX6, 9, rfl, uin_6, by decide, Or.inl (mTB 346 w_346 rfl)⟩
theorem fl_RX6_15 : FL RX6 15 6 2 := ⟨RX6, TX6, 9, rfl, uin_6, by decide, Or.inl (mTB 343 w_343 rfl)⟩
theorem fl_RX6_19 : FL RX6 19 6 4 := ⟨RX6, TX6, 9, rfl, uin_6, by decide, Or.inl (mTB 345 w_345 rfl)⟩
theorem fl_RX6_23 : FL RX6 23 6 0 := ⟨RX6, TX6, 9, rfl, uin_6, by decide, Or.inl (mTB 341 w_341 rfl)⟩
theorem fl_RX6_30 : FL RX6 30 6 6 := ⟨RX6, TX6, 9, rfl, uin_6, by decide, Or.inl (mTB 347 w_347 rfl)⟩
theorem fl_RX6_34 : FL RX6 34 6 3 := ⟨RX6, TX6, 9, rfl, uin_6, by decide, Or.inl (mTB 344 w_344 rfl)⟩
theorem fl_RX6_37 : FL RX6 37 6 7 := ⟨RX6, TX6, 9, rfl, uin_6, by decide, Or.inl (mTB 348 w_348 rfl)⟩
theorem fl_RX6_9 : FL RX6 9 6 1 := ⟨RX6, TX6, 9, rfl, uin_6, by decide, Or.inl (mTB 342 w_342 rfl)⟩
theorem fl_RX6_94 : FL RX6 94 5 7 := ⟨RX5, TX5, 13, rfl, uin_5, by decide, Or.inr ⟨_, mNW 136 w_136 rfl⟩⟩
theorem fl_RX7_10 : FL RX7 10 7 0 := ⟨RX7, TX7, 15, rfl, uin_7, by decide, Or.inl (mTB 527 w_527 rfl)⟩
theorem fl_RX7_104 : FL RX7 104 5 5 := ⟨RX5, TX5, 13, rfl, uin_5, by decide, Or.inr ⟨_, mNW 130 w_130 rfl⟩⟩
theorem fl_RX7_111 : FL RX7 111 5 6 := ⟨RX5, TX5, 13, rfl, uin_5, by decide, Or.inr ⟨_, mNW 133 w_133 rfl⟩⟩
theorem fl_RX7_115 : FL RX7 115 5 8 := ⟨RX5, TX5, 13, rfl, uin_5, by decide, Or.inr ⟨_, mNW 138 w_138 rfl⟩⟩
theorem fl_RX7_125 : FL RX7 125 6 7 := ⟨RX6, TX6, 9, rfl, uin_6, by decide, Or.inr ⟨_, mNW 349 w_349 rfl⟩⟩
theorem fl_RX7_142 : FL RX7 142 1 2 := ⟨RX1, TX1, 9, rfl, uin_1, by decide, Or.inr ⟨_, mNW 409 w_409 rfl⟩⟩
theorem fl_RX7_149 : FL RX7 149 1 3 := ⟨RX1, TX1, 9, rfl, uin_1, by decide, Or.inr ⟨_, mNW 411 w_411 rfl⟩⟩
theorem fl_RX7_152 : FL RX7 152 1 4 := ⟨RX1, TX1, 9, rfl, uin_1, by decide, Or.inr ⟨_, mNW 413 w_413 rfl⟩⟩
theorem fl_RX7_155 : FL RX7 155 1 6 := ⟨RX1, TX1, 9, rfl, uin_1, by decide, Or.inr ⟨_, mNW 416 w_416 rfl⟩⟩
theorem fl_RX7_158 : FL RX7 158 1 7 := ⟨RX1, TX1, 9, rfl, uin_1, by decide, Or.inr ⟨_, mNW 418 w_418 rfl⟩⟩
theorem fl_RX7_16 : FL RX7 16 7 1 := ⟨RX7, TX7, 15, rfl, uin_7, by decide, Or.inl (mTB 528 w_528 rfl)⟩
theorem fl_RX7_164 : FL RX7 164 0 11 := ⟨RX0, TX0, 15, rfl, uin_0, by decide, Or.inr ⟨_, mNW 461 w_461 rfl⟩⟩
theorem fl_RX7_167 : FL RX7 167 0 12 := ⟨RX0, TX0, 15, rfl, uin_0, by decide, Or.inr ⟨_, mNW 463 w_463 rfl⟩⟩
theorem fl_RX7_170 : FL RX7 170 0 10 := ⟨RX0, TX0, 15, rfl, uin_0, by decide, Or.inr ⟨_, mNW 459 w_459 rfl⟩⟩
theorem fl_RX7_173 : FL RX7 173 0 9 := ⟨RX0, TX0, 15, rfl, uin_0, by decide, Or.inr ⟨_, mNW 457 w_457 rfl⟩⟩
theorem fl_RX7_176 : FL RX7 176 0 13 := ⟨RX0, TX0, 15, rfl, uin_0, by decide, Or.inr ⟨_, mNW 465 w_465 rfl⟩⟩
theorem fl_RX7_179 : FL RX7 179 7 12 := ⟨RX7, TX7, 15, rfl, uin_7, by decide, Or.inl (mTB 539 w_539 rfl)⟩
theorem fl_RX7_182 : FL RX7 182 0 8 := ⟨RX0, TX0, 15, rfl, uin_0, by decide, Or.inr ⟨_, mNW 455 w_455 rfl⟩⟩
theorem fl_RX7_19 : FL RX7 19 7 2 := ⟨RX7, TX7, 15, rfl, uin_7, by decide, Or.inl (mTB 529 w_529 rfl)⟩
theorem fl_RX7_196 : FL RX7 196 5 3 := ⟨RX5, TX5, 13, rfl, uin_5, by decide, Or.inr ⟨_, mNW 124 w_124 rfl⟩⟩
theorem fl_RX7_210 : FL RX7 210 5 12 := ⟨RX5, TX5, 13, rfl, uin_5, by decide, Or.inr ⟨_, mNW 148 w_148 rfl⟩⟩
theorem fl_RX7_22 : FL RX7 22 7 3 := ⟨RX7, TX7, 15, rfl, uin_7, by decide, Or.inl (mTB 530 w_530 rfl)⟩
theorem fl_RX7_226 : FL RX7 226 2 0 := ⟨RX2, TX2, 2, rfl, uin_2, by decide, Or.inr ⟨_, mNW 519 w_519 rfl⟩⟩
theorem fl_RX7_230 : FL RX7 230 2 1 := ⟨RX2, TX2, 2, rfl, uin_2, by decide, Or.inr ⟨_, mNW 521 w_521 rfl⟩⟩
theorem fl_RX7_239 : FL RX7 239 7 13 := ⟨RX7, TX7, 15, rfl, uin_7, by decide, Or.inl (mTB 540 w_540 rfl)⟩
theorem fl_RX7_242 : FL RX7 242 7 14 := ⟨RX7, TX7, 15, rfl, uin_7, by decide, Or.inl (mTB 541 w_541 rfl)⟩
theorem fl_RX7_31 : FL RX7 31 7 4 := ⟨RX7, TX7, 15, rfl, uin_7, by decide, Or.inl (mTB 531 w_531 rfl)⟩
theorem fl_RX7_40 : FL RX7 40 7 5 := ⟨RX7, TX7, 15, rfl, uin_7, by decide, Or.inl (mTB 532 w_532 rfl)⟩
theorem fl_RX7_49 : FL RX7 49 7 6 := ⟨RX7, TX7, 15, rfl, uin_7, by decide, Or.inl (mTB 533 w_533 rfl)⟩
theorem fl_RX7_56 : FL RX7 56 7 7 := ⟨RX7, TX7, 15, rfl, uin_7, by decide, Or.inl (mTB 534 w_534 rfl)⟩
theorem fl_RX7_63 : FL RX7 63 7 8 := ⟨RX7, TX7, 15, rfl, uin_7, by decide, Or.inl (mTB 535 w_535 rfl)⟩
theorem fl_RX7_70 : FL RX7 70 7 9 := ⟨RX7, TX7, 15, rfl, uin_7, by decide, Or.inl (mTB 536 w_536 rfl)⟩
theorem fl_RX7_74 : FL RX7 74 7 10 := ⟨RX7, TX7, 15, rfl, uin_7, by decide, Or.inl (mTB 537 w_537 rfl)⟩
theorem fl_RX7_78 : FL RX7 78 7 11 := ⟨RX7, TX7, 15, rfl, uin_7, by decide, Or.inl (mTB 538 w_538 rfl)⟩
theorem fl_RX7_90 : FL RX7 90 5 4 := ⟨RX5, TX5, 13, rfl, uin_5, by decide, Or.inr ⟨_, mNW 127 w_127 rfl⟩⟩
theorem fl_RX8_114 : FL RX8 114 8 6 := ⟨RX8, TX8, 27, rfl, uin_8, by decide, Or.inl (mTB 884 w_884 rfl)⟩
theorem fl_RX8_124 : FL RX8 124 8 11 := ⟨RX8, TX8, 27, rfl, uin_8, by decide, Or.inl (mTB 889 w_889 rfl)⟩
theorem fl_RX8_127 : FL RX8 127 8 9 := ⟨RX8, TX8, 27, rfl, uin_8, by decide, Or.inl (mTB 887 w_887 rfl)⟩
theorem fl_RX8_13 : FL RX8 13 8 1 := ⟨RX8, TX8, 27, rfl, uin_8, by decide, Or.inl (mTB 879 w_879 rfl)⟩
theorem fl_RX8_143 : FL RX8 143 8 7 := ⟨RX8, TX8, 27, rfl, uin_8, by decide, Or.inl (mTB 885 w_885 rfl)⟩
theorem fl_RX8_16 : FL RX8 16 8 2 := ⟨RX8, TX8, 27, rfl, uin_8, by decide, Or.inl (mTB 880 w_880 rfl)⟩
theorem fl_RX8_166 : FL RX8 166 8 13 := ⟨RX8, TX8, 27, rfl, uin_8, by decide, Or.inl (mTB 891 w_891 rfl)⟩
theorem fl_RX8_181 : FL RX8 181 8 17 := ⟨RX8, TX8, 27, rfl, uin_8, by decide, Or.inl (mTB 895 w_895 rfl)⟩
theorem fl_RX8_184 : FL RX8 184 8 18 := ⟨RX8, TX8, 27, rfl, uin_8, by decide, Or.inl (mTB 896 w_896 rfl)⟩
theorem fl_RX8_20 : FL RX8 20 8 3 := ⟨RX8, TX8, 27, rfl, uin_8, by decide, Or.inl (mTB 881 w_881 rfl)⟩
theorem fl_RX8_219 : FL RX8 219 8 23 := ⟨RX8, TX8, 27, rfl, uin_8, by decide, Or.inl (mTB 901 w_901 rfl)⟩
theorem fl_RX8_23 : FL RX8 23 8 5 := ⟨RX8, TX8, 27, rfl, uin_8, by decide, Or.inl (mTB 883 w_883 rfl)⟩
theorem fl_RX8_27 : FL RX8 27 8 8 := ⟨RX8, TX8, 27, rfl, uin_8, by decide, Or.inl (mTB 886 w_886 rfl)⟩
theorem fl_RX8_31 : FL RX8 31 8 10 := ⟨RX8, TX8, 27, rfl, uin_8, by decide, Or.inl (mTB 888 w_888 rfl)⟩
theorem fl_RX8_34 : FL RX8 34 8 12 := ⟨RX8, TX8, 27, rfl, uin_8, by decide, Or.inl (mTB 890 w_890 rfl)⟩
theorem fl_RX8_37 : FL RX8 37 8 14 := ⟨RX8, TX8, 27, rfl, uin_8, by decide, Or.inl (mTB 892 w_892 rfl)⟩
theorem fl_RX8_40 : FL RX8 40 8 15 := ⟨RX8, TX8, 27, rfl, uin_8, by decide, Or.inl (mTB 893 w_893 rfl)⟩
theorem fl_RX8_43 : FL RX8 43 8 16 := ⟨RX8, TX8, 27, rfl, uin_8, by decide, Or.inl (mTB 894 w_894 rfl)⟩
theorem fl_RX8_46 : FL RX8 46 8 19 := ⟨RX8, TX8, 27, rfl, uin_8, by decide, Or.inl (mTB 897 w_897 rfl)⟩
theorem fl_RX8_49 : FL RX8 49 8 20 := ⟨RX8, TX8, 27, rfl, uin_8, by decide, Or.inl (mTB 898 w_898 rfl)⟩
theorem fl_RX8_52 : FL RX8 52 8 21 := ⟨RX8, TX8, 27, rfl, uin_8, by decide, Or.inl (mTB 899 w_899 rfl)⟩
theorem fl_RX8_55 : FL RX8 55 8 22 := ⟨RX8, TX8, 27, rfl, uin_8, by decide, Or.inl (mTB 900 w_900 rfl)⟩
theorem fl_RX8_58 : FL RX8 58 8 24 := ⟨RX8, TX8, 27, rfl, uin_8, by decide, Or.inl (mTB 902 w_902 rfl)⟩
theorem fl_RX8_61 : FL RX8 61 8 25 := ⟨RX8, TX8, 27, rfl, uin_8, by decide, Or.inl (mTB 903 w_903 rfl)⟩
theorem fl_RX8_64 : FL RX8 64 8 26 := ⟨RX8, TX8, 27, rfl, uin_8, by decide, Or.inl (mTB 904 w_904 rfl)⟩
theorem fl_RX8_67 : FL RX8 67 8 4 := ⟨RX8, TX8, 27, rfl, uin_8, by decide, Or.inl (mTB 882 w_882 rfl)⟩
theorem fl_RX8_7 : FL RX8 7 8 0 := ⟨RX8, TX8, 27, rfl, uin_8, by decide, Or.inl (mTB 878 w_878 rfl)⟩
theorem fp_RX0_15 : FP RX0 15 0 3 true (.array .int) := ⟨RX0, TX0, 15, rfl, uin_0, by decide, Or.inl (mTB 449 w_449 rfl), ⟨tyX0, tyX0_ok⟩, nmX0, rfl, by decide +kernel, fun _ => rfl⟩
theorem fp_RX0_18 : FP RX0 18 0 4 true (.array .int) := ⟨RX0, TX0, 15, rfl, uin_0, by decide, Or.inl (mTB 450 w_450 rfl), ⟨tyX0, tyX0_ok⟩, nmX0, rfl, by decide +kernel, fun _ => rfl⟩
theorem fp_RX0_21 : FP RX0 21 0 5 true (.array .int) := ⟨RX0, TX0, 15, rfl, uin_0, by decide, Or.inl (mTB 451 w_451 rfl), ⟨tyX0, tyX0_ok⟩, nmX0, rfl, by decide +kernel, fun _ => rfl⟩
theorem fp_RX0_24 : FP RX0 24 0 6 true (.array .int) := ⟨RX0, TX0, 15, rfl, uin_0, by decide, Or.inl (mTB 452 w_452 rfl), ⟨tyX0, tyX0_ok⟩, nmX0, rfl, by decide +kernel, fun _ => rfl⟩
theorem fp_RX0_27 : FP RX0 27 0 7 true (.array .int) := ⟨RX0, TX0, 15, rfl, uin_0, by decide, Or.inl (mTB 453 w_453 rfl), ⟨tyX0, tyX0_ok⟩, nmX0, rfl, by decide +kernel, fun _ => rfl⟩
theorem fp_RX0_30 : FP RX0 30 0 8 true (.array .int) := ⟨RX0, TX0, 15, rfl, uin_0, by decide, Or.inl (mTB 454 w_454 rfl), ⟨tyX0, tyX0_ok⟩, nmX0, rfl, by decide +kernel, fun _ => rfl⟩
theorem fp_RX0_33 : FP RX0 33 0 14 false .boolean := ⟨RX0, TX0, 15, rfl, uin_0, by decide, Or.inl (mTB 466 w_466 rfl), ⟨tyX0, tyX0_ok⟩, nmX0, rfl, by decide +kernel, fun h => by cases h⟩
theorem fp_RX0_37 : FP RX0 37 0 0 true (.object "OddBridge$Scene") := ⟨RX0, TX0, 15, rfl, uin_0, by decide, Or.inl (mTB 446 w_446 rfl), ⟨tyX0, tyX0_ok⟩, nmX0, rfl, by decide +kernel, fun _ => rfl⟩
theorem fp_RX0_41 : FP RX0 41 0 1 true (.object "OddBridge$Judge") := ⟨RX0, TX0, 15, rfl, uin_0, by decide, Or.inl (mTB 447 w_447 rfl), ⟨tyX0, tyX0_ok⟩, nmX0, rfl, by decide +kernel, fun _ => rfl⟩
theorem fp_RX0_58 : FP RX0 58 0 10 false .boolean := ⟨RX0, TX0, 15, rfl, uin_0, by decide, Or.inl (mTB 458 w_458 rfl), ⟨tyX0, tyX0_ok⟩, nmX0, rfl, by decide +kernel, fun h => by cases h⟩
theorem fp_RX0_61 : FP RX0 61 0 11 false .int := ⟨RX0, TX0, 15, rfl, uin_0, by decide, Or.inl (mTB 460 w_460 rfl), ⟨tyX0, tyX0_ok⟩, nmX0, rfl, by decide +kernel, fun h => by cases h⟩
theorem fp_RX0_64 : FP RX0 64 0 12 false .int := ⟨RX0, TX0, 15, rfl, uin_0, by decide, Or.inl (mTB 462 w_462 rfl), ⟨tyX0, tyX0_ok⟩, nmX0, rfl, by decide +kernel, fun h => by cases h⟩
theorem fp_RX0_67 : FP RX0 67 0 13 false .int := ⟨RX0, TX0, 15, rfl, uin_0, by decide, Or.inl (mTB 464 w_464 rfl), ⟨tyX0, tyX0_ok⟩, nmX0, rfl, by decide +kernel, fun h => by cases h⟩
theorem fp_RX0_70 : FP RX0 70 0 9 false .int := ⟨RX0, TX0, 15, rfl, uin_0, by decide, Or.inl (mTB 456 w_456 rfl), ⟨tyX0, tyX0_ok⟩, nmX0, rfl, by decide +kernel, fun h => by cases h⟩
theorem fp_RX0_9 : FP RX0 9 0 2 true (.array .int) := ⟨RX0, TX0, 15, rfl, uin_0, by decide, Or.inl (mTB 448 w_448 rfl), ⟨tyX0, tyX0_ok⟩, nmX0, rfl, by decide +kernel, fun _ => rfl⟩
theorem fp_RX1_15 : FP RX1 15 1 3 true (.array .int) := ⟨RX1, TX1, 9, rfl, uin_1, by decide, Or.inl (mTB 410 w_410 rfl), ⟨tyX1, tyX1_ok⟩, nmX1, rfl, by decide +kernel, fun _ => rfl⟩
theorem fp_RX1_18 : FP RX1 18 1 4 true (.array .int) := ⟨RX1, TX1, 9, rfl, uin_1, by decide, Or.inl (mTB 412 w_412 rfl), ⟨tyX1, tyX1_ok⟩, nmX1, rfl, by decide +kernel, fun _ => rfl⟩
theorem fp_RX1_21 : FP RX1 21 1 8 false .boolean := ⟨RX1, TX1, 9, rfl, uin_1, by decide, Or.inl (mTB 419 w_419 rfl), ⟨tyX1, tyX1_ok⟩, nmX1, rfl, by decide +kernel, fun h => by cases h⟩
theorem fp_RX1_25 : FP RX1 25 1 0 true (.object "OddBridge$Scene") := ⟨RX1, TX1, 9, rfl, uin_1, by decide, Or.inl (mTB 406 w_406 rfl), ⟨tyX1, tyX1_ok⟩, nmX1, rfl, by decide +kernel, fun _ => rfl⟩
theorem fp_RX1_29 : FP RX1 29 1 1 true (.object "OddBridge$Judge") := ⟨RX1, TX1, 9, rfl, uin_1, by decide, Or.inl (mTB 407 w_407 rfl), ⟨tyX1, tyX1_ok⟩, nmX1, rfl, by decide +kernel, fun _ => rfl⟩
theorem fp_RX1_33 : FP RX1 33 1 5 false .int := ⟨RX1, TX1, 9, rfl, uin_1, by decide, Or.inl (mTB 414 w_414 rfl), ⟨tyX1, tyX1_ok⟩, nmX1, rfl, by decide +kernel, fun h => by cases h⟩
theorem fp_RX1_37 : FP RX1 37 1 6 false .int := ⟨RX1, TX1, 9, rfl, uin_1, by decide, Or.inl (mTB 415 w_415 rfl), ⟨tyX1, tyX1_ok⟩, nmX1, rfl, by decide +kernel, fun h => by cases h⟩
theorem fp_RX1_40 : FP RX1 40 1 7 false .int := ⟨RX1, TX1, 9, rfl, uin_1, by decide, Or.inl (mTB 417 w_417 rfl), ⟨tyX1, tyX1_ok⟩, nmX1, rfl, by decide +kernel, fun h => by cases h⟩
theorem fp_RX1_9 : FP RX1 9 1 2 true (.array .int) := ⟨RX1, TX1, 9, rfl, uin_1, by decide, Or.inl (mTB 408 w_408 rfl), ⟨tyX1, tyX1_ok⟩, nmX1, rfl, by decide +kernel, fun _ => rfl⟩
theorem fp_RX2_13 : FP RX2 13 2 1 false .long := ⟨RX2, TX2, 2, rfl, uin_2, by decide, Or.inl (mTB 520 w_520 rfl), ⟨tyX2, tyX2_ok⟩, nmX2, rfl, by decide +kernel, fun h => by cases h⟩
theorem fp_RX2_7 : FP RX2 7 2 0 false .long := ⟨RX2, TX2, 2, rfl, uin_2, by decide, Or.inl (mTB 518 w_518 rfl), ⟨tyX2, tyX2_ok⟩, nmX2, rfl, by decide +kernel, fun h => by cases h⟩
theorem fp_RX3_15 : FP RX3 15 3 1 true (.object "OddBridge$Judge") := ⟨RX3, TX3, 2, rfl, uin_3, by decide, Or.inl (mTB 506 w_506 rfl), ⟨tyX3, tyX3_ok⟩, nmX3, rfl, by decide +kernel, fun _ => rfl⟩
theorem fp_RX3_9 : FP RX3 9 3 0 true (.object "OddBridge$Scene") := ⟨RX3, TX3, 2, rfl, uin_3, by decide, Or.inl (mTB 505 w_505 rfl), ⟨tyX3, tyX3_ok⟩, nmX3, rfl, by decide +kernel, fun _ => rfl⟩
theorem fp_RX4_15 : FP RX4 15 4 3 true (.array .long) := ⟨RX4, TX4, 6, rfl, uin_4, by decide, Or.inl (mTB 383 w_383 rfl), ⟨tyX4, tyX4_ok⟩, nmX4, rfl, by decide +kernel, fun _ => rfl⟩
theorem fp_RX4_19 : FP RX4 19 4 4 true (.array .long) := ⟨RX4, TX4, 6, rfl, uin_4, by decide, Or.inl (mTB 384 w_384 rfl), ⟨tyX4, tyX4_ok⟩, nmX4, rfl, by decide +kernel, fun _ => rfl⟩
theorem fp_RX4_22 : FP RX4 22 4 5 false .boolean := ⟨RX4, TX4, 6, rfl, uin_4, by decide, Or.inl (mTB 385 w_385 rfl), ⟨tyX4, tyX4_ok⟩, nmX4, rfl, by decide +kernel, fun h => by cases h⟩
theorem fp_RX4_26 : FP RX4 26 4 0 true (.object "OddBridge$Scene") := ⟨RX4, TX4, 6, rfl, uin_4, by decide, Or.inl (mTB 380 w_380 rfl), ⟨tyX4, tyX4_ok⟩, nmX4, rfl, by decide +kernel, fun _ => rfl⟩
theorem fp_RX4_30 : FP RX4 30 4 1 true (.object "OddBridge$Vow") := ⟨RX4, TX4, 6, rfl, uin_4, by decide, Or.inl (mTB 381 w_381 rfl), ⟨tyX4, tyX4_ok⟩, nmX4, rfl, by decide +kernel, fun _ => rfl⟩
theorem fp_RX4_9 : FP RX4 9 4 2 true (.array .int) := ⟨RX4, TX4, 6, rfl, uin_4, by decide, Or.inl (mTB 382 w_382 rfl), ⟨tyX4, tyX4_ok⟩, nmX4, rfl, by decide +kernel, fun _ => rfl⟩
theorem fp_RX5_15 : FP RX5 15 5 1 true (.array .int) := ⟨RX5, TX5, 13, rfl, uin_5, by decide, Or.inl (mTB 118 w_118 rfl), ⟨tyX5, tyX5_ok⟩, nmX5, rfl, by decide +kernel, fun _ => rfl⟩
theorem fp_RX5_18 : FP RX5 18 5 2 true (.array .int) := ⟨RX5, TX5, 13, rfl, uin_5, by decide, Or.inl (mTB 121 w_121 rfl), ⟨tyX5, tyX5_ok⟩, nmX5, rfl, by decide +kernel, fun _ => rfl⟩
theorem fp_RX5_21 : FP RX5 21 5 3 true (.array .int) := ⟨RX5, TX5, 13, rfl, uin_5, by decide, Or.inl (mTB 123 w_123 rfl), ⟨tyX5, tyX5_ok⟩, nmX5, rfl, by decide +kernel, fun _ => rfl⟩
theorem fp_RX5_24 : FP RX5 24 5 4 false .int := ⟨RX5, TX5, 13, rfl, uin_5, by decide, Or.inl (mTB 125 w_125 rfl), ⟨tyX5, tyX5_ok⟩, nmX5, rfl, by decide +kernel, fun h => by cases h⟩
theorem fp_RX5_28 : FP RX5 28 5 5 false .int := ⟨RX5, TX5, 13, rfl, uin_5, by decide, Or.inl (mTB 129 w_129 rfl), ⟨tyX5, tyX5_ok⟩, nmX5, rfl, by decide +kernel, fun h => by cases h⟩
theorem fp_RX5_31 : FP RX5 31 5 6 false .int := ⟨RX5, TX5, 13, rfl, uin_5, by decide, Or.inl (mTB 132 w_132 rfl), ⟨tyX5, tyX5_ok⟩, nmX5, rfl, by decide +kernel, fun h => by cases h⟩
theorem fp_RX5_34 : FP RX5 34 5 7 true (.array .char) := ⟨RX5, TX5, 13, rfl, uin_5, by decide, Or.inl (mTB 135 w_135 rfl), ⟨tyX5, tyX5_ok⟩, nmX5, rfl, by decide +kernel, fun _ => rfl⟩
theorem fp_RX5_38 : FP RX5 38 5 8 false .int := ⟨RX5, TX5, 13, rfl, uin_5, by decide, Or.inl (mTB 137 w_137 rfl), ⟨tyX5, tyX5_ok⟩, nmX5, rfl, by decide +kernel, fun h => by cases h⟩
theorem fp_RX5_41 : FP RX5 41 5 9 true (.array .int) := ⟨RX5, TX5, 13, rfl, uin_5, by decide, Or.inl (mTB 140 w_140 rfl), ⟨tyX5, tyX5_ok⟩, nmX5, rfl, by decide +kernel, fun _ => rfl⟩
theorem fp_RX5_44 : FP RX5 44 5 10 true (.array .int) := ⟨RX5, TX5, 13, rfl, uin_5, by decide, Or.inl (mTB 142 w_142 rfl), ⟨tyX5, tyX5_ok⟩, nmX5, rfl, by decide +kernel, fun _ => rfl⟩
theorem fp_RX5_47 : FP RX5 47 5 11 true (.array .int) := ⟨RX5, TX5, 13, rfl, uin_5, by decide, Or.inl (mTB 144 w_144 rfl), ⟨tyX5, tyX5_ok⟩, nmX5, rfl, by decide +kernel, fun _ => rfl⟩
theorem fp_RX5_50 : FP RX5 50 5 12 false .int := ⟨RX5, TX5, 13, rfl, uin_5, by decide, Or.inl (mTB 146 w_146 rfl), ⟨tyX5, tyX5_ok⟩, nmX5, rfl, by decide +kernel, fun h => by cases h⟩
theorem fp_RX5_9 : FP RX5 9 5 0 true (.array .int) := ⟨RX5, TX5, 13, rfl, uin_5, by decide, Or.inl (mTB 117 w_117 rfl), ⟨tyX5, tyX5_ok⟩, nmX5, rfl, by decide +kernel, fun _ => rfl⟩
theorem fp_RX6_125 : FP RX6 125 6 5 false .int := ⟨RX6, TX6, 9, rfl, uin_6, by decide, Or.inl (mTB 346 w_346 rfl), ⟨tyX6, tyX6_ok⟩, nmX6, rfl, by decide +kernel, fun h => by cases h⟩
theorem fp_RX6_15 : FP RX6 15 6 2 true (.array .int) := ⟨RX6, TX6, 9, rfl, uin_6, by decide, Or.inl (mTB 343 w_343 rfl), ⟨tyX6, tyX6_ok⟩, nmX6, rfl, by decide +kernel, fun _ => rfl⟩
theorem fp_RX6_19 : FP RX6 19 6 4 true (.array .long) := ⟨RX6, TX6, 9, rfl, uin_6, by decide, Or.inl (mTB 345 w_345 rfl), ⟨tyX6, tyX6_ok⟩, nmX6, rfl, by decide +kernel, fun _ => rfl⟩
theorem fp_RX6_23 : FP RX6 23 6 0 true (.object "OddBridge$Scene") := ⟨RX6, TX6, 9, rfl, uin_6, by decide, Or.inl (mTB 341 w_341 rfl), ⟨tyX6, tyX6_ok⟩, nmX6, rfl, by decide +kernel, fun _ => rfl⟩
theorem fp_RX6_30 : FP RX6 30 6 6 false .int := ⟨RX6, TX6, 9, rfl, uin_6, by decide, Or.inl (mTB 347 w_347 rfl), ⟨tyX6, tyX6_ok⟩, nmX6, rfl, by decide +kernel, fun h => by cases h⟩
theorem fp_RX6_34 : FP RX6 34 6 3 false .int := ⟨RX6, TX6, 9, rfl, uin_6, by decide, Or.inl (mTB 344 w_344 rfl), ⟨tyX6, tyX6_ok⟩, nmX6, rfl, by decide +kernel, fun h => by cases h⟩
theorem fp_RX6_37 : FP RX6 37 6 7 false .int := ⟨RX6, TX6, 9, rfl, uin_6, by decide, Or.inl (mTB 348 w_348 rfl), ⟨tyX6, tyX6_ok⟩, nmX6, rfl, by decide +kernel, fun h => by cases h⟩
theorem fp_RX6_40 : FP RX6 40 6 8 false .boolean := ⟨RX6, TX6, 9, rfl, uin_6, by decide, Or.inl (mTB 350 w_350 rfl), ⟨tyX6, tyX6_ok⟩, nmX6, rfl, by decide +kernel, fun h => by cases h⟩
theorem fp_RX6_9 : FP RX6 9 6 1 true (.array .char) := ⟨RX6, TX6, 9, rfl, uin_6, by decide, Or.inl (mTB 342 w_342 rfl), ⟨tyX6, tyX6_ok⟩, nmX6, rfl, by decide +kernel, fun _ => rfl⟩
theorem fp_RX7_10 : FP RX7 10 7 0 true (.object "OddBridge$Scene") := ⟨RX7, TX7, 15, rfl, uin_7, by decide, Or.inl (mTB 527 w_527 rfl), ⟨tyX7, tyX7_ok⟩, nmX7, rfl, by decide +kernel, fun _ => rfl⟩
theorem fp_RX7_104 : FP RX7 104 5 5 false .int := ⟨RX5, TX5, 13, rfl, uin_5, by decide, Or.inr ⟨rfl, _, mNW 130 w_130 rfl⟩, ⟨tyX5, tyX5_ok⟩, nmX5, rfl, by decide +kernel, fun h => by cases h⟩
theorem fp_RX7_107 : FP RX7 107 1 8 false .boolean := ⟨RX1, TX1, 9, rfl, uin_1, by decide, Or.inr ⟨rfl, _, mNW 420 w_420 rfl⟩, ⟨tyX1, tyX1_ok⟩, nmX1, rfl, by decide +kernel, fun h => by cases h⟩
theorem fp_RX7_111 : FP RX7 111 5 6 false .int := ⟨RX5, TX5, 13, rfl, uin_5, by decide, Or.inr ⟨rfl, _, mNW 133 w_133 rfl⟩, ⟨tyX5, tyX5_ok⟩, nmX5, rfl, by decide +kernel, fun h => by cases h⟩
theorem fp_RX7_114 : FP RX7 114 0 14 false .boolean := ⟨RX0, TX0, 15, rfl, uin_0, by decide, Or.inr ⟨rfl, _, mNW 467 w_467 rfl⟩, ⟨tyX0, tyX0_ok⟩, nmX0, rfl, by decide +kernel, fun h => by cases h⟩
theorem fp_RX7_115 : FP RX7 115 5 8 false .int := ⟨RX5, TX5, 13, rfl, uin_5, by decide, Or.inr ⟨rfl, _, mNW 138 w_138 rfl⟩, ⟨tyX5, tyX5_ok⟩, nmX5, rfl, by decide +kernel, fun h => by cases h⟩
theorem fp_RX7_16 : FP RX7 16 7 1 true (.object "OddBridge$Scene") := ⟨RX7, TX7, 15, rfl, uin_7, by decide, Or.inl (mTB 528 w_528 rfl), ⟨tyX7, tyX7_ok⟩, nmX7, rfl, by decide +kernel, fun _ => rfl⟩
theorem fp_RX7_179 : FP RX7 179 7 12 false .int := ⟨RX7, TX7, 15, rfl, uin_7, by decide, Or.inl (mTB 539 w_539 rfl), ⟨tyX7, tyX7_ok⟩, nmX7, rfl, by decide +kernel, fun h => by cases h⟩
theorem fp_RX7_19 : FP RX7 19 7 2 true (.object "OddBridge$Scene") := ⟨RX7, TX7, 15, rfl, uin_7, by decide, Or.inl (mTB 529 w_529 rfl), ⟨tyX7, tyX7_ok⟩, nmX7, rfl, by decide +kernel, fun _ => rfl⟩
theorem fp_RX7_210 : FP RX7 210 5 12 false .int := ⟨RX5, TX5, 13, rfl, uin_5, by decide, Or.inr ⟨rfl, _, mNW 148 w_148 rfl⟩, ⟨tyX5, tyX5_ok⟩, nmX5, rfl, by decide +kernel, fun h => by cases h⟩
theorem fp_RX7_22 : FP RX7 22 7 3 true (.array .boolean) := ⟨RX7, TX7, 15, rfl, uin_7, by decide, Or.inl (mTB 530 w_530 rfl), ⟨tyX7, tyX7_ok⟩, nmX7, rfl, by decide +kernel, fun _ => rfl⟩
theorem fp_RX7_239 : FP RX7 239 7 13 false .int := ⟨RX7, TX7, 15, rfl, uin_7, by decide, Or.inl (mTB 540 w_540 rfl), ⟨tyX7, tyX7_ok⟩, nmX7, rfl, by decide +kernel, fun h => by cases h⟩
theorem fp_RX7_242 : FP RX7 242 7 14 false .int := ⟨RX7, TX7, 15, rfl, uin_7, by decide, Or.inl (mTB 541 w_541 rfl), ⟨tyX7, tyX7_ok⟩, nmX7, rfl, by decide +kernel, fun h => by cases h⟩
theorem fp_RX7_253 : FP RX7 253 4 5 false .boolean := ⟨RX4, TX4, 6, rfl, uin_4, by decide, Or.inr ⟨rfl, _, mNW 386 w_386 rfl⟩, ⟨tyX4, tyX4_ok⟩, nmX4, rfl, by decide +kernel, fun h => by cases h⟩
theorem fp_RX7_31 : FP RX7 31 7 4 true (.object "OddBridge$Vow") := ⟨RX7, TX7, 15, rfl, uin_7, by decide, Or.inl (mTB 531 w_531 rfl), ⟨tyX7, tyX7_ok⟩, nmX7, rfl, by decide +kernel, fun _ => rfl⟩
theorem fp_RX7_40 : FP RX7 40 7 5 true (.object "OddBridge$Judge") := ⟨RX7, TX7, 15, rfl, uin_7, by decide, Or.inl (mTB 532 w_532 rfl), ⟨tyX7, tyX7_ok⟩, nmX7, rfl, by decide +kernel, fun _ => rfl⟩
theorem fp_RX7_49 : FP RX7 49 7 6 true (.object "OddBridge$Feast") := ⟨RX7, TX7, 15, rfl, uin_7, by decide, Or.inl (mTB 533 w_533 rfl), ⟨tyX7, tyX7_ok⟩, nmX7, rfl, by decide +kernel, fun _ => rfl⟩
theorem fp_RX7_56 : FP RX7 56 7 7 true (.object "OddBridge$Crossing") := ⟨RX7, TX7, 15, rfl, uin_7, by decide, Or.inl (mTB 534 w_534 rfl), ⟨tyX7, tyX7_ok⟩, nmX7, rfl, by decide +kernel, fun _ => rfl⟩
theorem fp_RX7_63 : FP RX7 63 7 8 true (.object "OddBridge$Hearing") := ⟨RX7, TX7, 15, rfl, uin_7, by decide, Or.inl (mTB 535 w_535 rfl), ⟨tyX7, tyX7_ok⟩, nmX7, rfl, by decide +kernel, fun _ => rfl⟩
theorem fp_RX7_70 : FP RX7 70 7 9 true (.object "OddBridge$Fraction") := ⟨RX7, TX7, 15, rfl, uin_7, by decide, Or.inl (mTB 536 w_536 rfl), ⟨tyX7, tyX7_ok⟩, nmX7, rfl, by decide +kernel, fun _ => rfl⟩
theorem fp_RX7_74 : FP RX7 74 7 10 true (.array .long) := ⟨RX7, TX7, 15, rfl, uin_7, by decide, Or.inl (mTB 537 w_537 rfl), ⟨tyX7, tyX7_ok⟩, nmX7, rfl, by decide +kernel, fun _ => rfl⟩
theorem fp_RX7_78 : FP RX7 78 7 11 true (.array .int) := ⟨RX7, TX7, 15, rfl, uin_7, by decide, Or.inl (mTB 538 w_538 rfl), ⟨tyX7, tyX7_ok⟩, nmX7, rfl, by decide +kernel, fun _ => rfl⟩
theorem fp_RX8_114 : FP RX8 114 8 6 false .int := ⟨RX8, TX8, 27, rfl, uin_8, by decide, Or.inl (mTB 884 w_884 rfl), ⟨tyX8, tyX8_ok⟩, nmX8, rfl, by decide +kernel, fun h => by cases h⟩
theorem fp_RX8_124 : FP RX8 124 8 11 false .int := ⟨RX8, TX8, 27, rfl, uin_8, by decide, Or.inl (mTB 889 w_889 rfl), ⟨tyX8, tyX8_ok⟩, nmX8, rfl, by decide +kernel, fun h => by cases h⟩
theorem fp_RX8_127 : FP RX8 127 8 9 false .int := ⟨RX8, TX8, 27, rfl, uin_8, by decide, Or.inl (mTB 887 w_887 rfl), ⟨tyX8, tyX8_ok⟩, nmX8, rfl, by decide +kernel, fun h => by cases h⟩
theorem fp_RX8_13 : FP RX8 13 8 1 true (.array .int) := ⟨RX8, TX8, 27, rfl, uin_8, by decide, Or.inl (mTB 879 w_879 rfl), ⟨tyX8, tyX8_ok⟩, nmX8, rfl, by decide +kernel, fun _ => rfl⟩
theorem fp_RX8_143 : FP RX8 143 8 7 false .int := ⟨RX8, TX8, 27, rfl, uin_8, by decide, Or.inl (mTB 885 w_885 rfl), ⟨tyX8, tyX8_ok⟩, nmX8, rfl, by decide +kernel, fun h => by cases h⟩
theorem fp_RX8_16 : FP RX8 16 8 2 true (.array .boolean) := ⟨RX8, TX8, 27, rfl, uin_8, by decide, Or.inl (mTB 880 w_880 rfl), ⟨tyX8, tyX8_ok⟩, nmX8, rfl, by decide +kernel, fun _ => rfl⟩
theorem fp_RX8_166 : FP RX8 166 8 13 false .long := ⟨RX8, TX8, 27, rfl, uin_8, by decide, Or.inl (mTB 891 w_891 rfl), ⟨tyX8, tyX8_ok⟩, nmX8, rfl, by decide +kernel, fun h => by cases h⟩
theorem fp_RX8_181 : FP RX8 181 8 17 false .int := ⟨RX8, TX8, 27, rfl, uin_8, by decide, Or.inl (mTB 895 w_895 rfl), ⟨tyX8, tyX8_ok⟩, nmX8, rfl, by decide +kernel, fun h => by cases h⟩
theorem fp_RX8_184 : FP RX8 184 8 18 false .int := ⟨RX8, TX8, 27, rfl, uin_8, by decide, Or.inl (mTB 896 w_896 rfl), ⟨tyX8, tyX8_ok⟩, nmX8, rfl, by decide +kernel, fun h => by cases h⟩
theorem fp_RX8_20 : FP RX8 20 8 3 true (.array .int) := ⟨RX8, TX8, 27, rfl, uin_8, by decide, Or.inl (mTB 881 w_881 rfl), ⟨tyX8, tyX8_ok⟩, nmX8, rfl, by decide +kernel, fun _ => rfl⟩
theorem fp_RX8_219 : FP RX8 219 8 23 false .int := ⟨RX8, TX8, 27, rfl, uin_8, by decide, Or.inl (mTB 901 w_901 rfl), ⟨tyX8, tyX8_ok⟩, nmX8, rfl, by decide +kernel, fun h => by cases h⟩
theorem fp_RX8_23 : FP RX8 23 8 5 false .long := ⟨RX8, TX8, 27, rfl, uin_8, by decide, Or.inl (mTB 883 w_883 rfl), ⟨tyX8, tyX8_ok⟩, nmX8, rfl, by decide +kernel, fun h => by cases h⟩
theorem fp_RX8_27 : FP RX8 27 8 8 true (.array .long) := ⟨RX8, TX8, 27, rfl, uin_8, by decide, Or.inl (mTB 886 w_886 rfl), ⟨tyX8, tyX8_ok⟩, nmX8, rfl, by decide +kernel, fun _ => rfl⟩
theorem fp_RX8_31 : FP RX8 31 8 10 true (.array .int) := ⟨RX8, TX8, 27, rfl, uin_8, by decide, Or.inl (mTB 888 w_888 rfl), ⟨tyX8, tyX8_ok⟩, nmX8, rfl, by decide +kernel, fun _ => rfl⟩
theorem fp_RX8_34 : FP RX8 34 8 12 true (.array .long) := ⟨RX8, TX8, 27, rfl, uin_8, by decide, Or.inl (mTB 890 w_890 rfl), ⟨tyX8, tyX8_ok⟩, nmX8, rfl, by decide +kernel, fun _ => rfl⟩
theorem fp_RX8_37 : FP RX8 37 8 14 true (.array .int) := ⟨RX8, TX8, 27, rfl, uin_8, by decide, Or.inl (mTB 892 w_892 rfl), ⟨tyX8, tyX8_ok⟩, nmX8, rfl, by decide +kernel, fun _ => rfl⟩
theorem fp_RX8_40 : FP RX8 40 8 15 true (.array .int) := ⟨RX8, TX8, 27, rfl, uin_8, by decide, Or.inl (mTB 893 w_893 rfl), ⟨tyX8, tyX8_ok⟩, nmX8, rfl, by decide +kernel, fun _ => rfl⟩
theorem fp_RX8_43 : FP RX8 43 8 16 true (.array .int) := ⟨RX8, TX8, 27, rfl, uin_8, by decide, Or.inl (mTB 894 w_894 rfl), ⟨tyX8, tyX8_ok⟩, nmX8, rfl, by decide +kernel, fun _ => rfl⟩
theorem fp_RX8_46 : FP RX8 46 8 19 true (.array .int) := ⟨RX8, TX8, 27, rfl, uin_8, by decide, Or.inl (mTB 897 w_897 rfl), ⟨tyX8, tyX8_ok⟩, nmX8, rfl, by decide +kernel, fun _ => rfl⟩
theorem fp_RX8_49 : FP RX8 49 8 20 true (.array .int) := ⟨RX8, TX8, 27, rfl, uin_8, by decide, Or.inl (mTB 898 w_898 rfl), ⟨tyX8, tyX8_ok⟩, nmX8, rfl, by decide +kernel, fun _ => rfl⟩
theorem fp_RX8_52 : FP RX8 52 8 21 true (.array .int) := ⟨RX8, TX8, 27, rfl, uin_8, by decide, Or.inl (mTB 899 w_899 rfl), ⟨tyX8, tyX8_ok⟩, nmX8, rfl, by decide +kernel, fun _ => rfl⟩
theorem fp_RX8_55 : FP RX8 55 8 22 true (.array .int) := ⟨RX8, TX8, 27, rfl, uin_8, by decide, Or.inl (mTB 900 w_900 rfl), ⟨tyX8, tyX8_ok⟩, nmX8, rfl, by decide +kernel, fun _ => rfl⟩
theorem fp_RX8_58 : FP RX8 58 8 24 true (.array .int) := ⟨RX8, TX8, 27, rfl, uin_8, by decide, Or.inl (mTB 902 w_902 rfl), ⟨tyX8, tyX8_ok⟩, nmX8, rfl, by decide +kernel, fun _ => rfl⟩
theorem fp_RX8_61 : FP RX8 61 8 25 true (.array .int) := ⟨RX8, TX8, 27, rfl, uin_8, by decide, Or.inl (mTB 903 w_903 rfl), ⟨tyX8, tyX8_ok⟩, nmX8, rfl, by decide +kernel, fun _ => rfl⟩
theorem fp_RX8_64 : FP RX8 64 8 26 true (.array .int) := ⟨RX8, TX8, 27, rfl, uin_8, by decide, Or.inl (mTB 904 w_904 rfl), ⟨tyX8, tyX8_ok⟩, nmX8, rfl, by decide +kernel, fun _ => rfl⟩
theorem fp_RX8_67 : FP RX8 67 8 4 false .long := ⟨RX8, TX8, 27, rfl, uin_8, by decide, Or.inl (mTB 882 w_882 rfl), ⟨tyX8, tyX8_ok⟩, nmX8, rfl, by decide +kernel, fun h => by cases h⟩
theorem fp_RX8_7 : FP RX8 7 8 0 true (.array .int) := ⟨RX8, TX8, 27, rfl, uin_8, by decide, Or.inl (mTB 878 w_878 rfl), ⟨tyX8, tyX8_ok⟩, nmX8, rfl, by decide +kernel, fun _ => rfl⟩
theorem lk_RJ0_335 : Lnk RJ0 335 yJ0_coder_7d493 := Or.inl (mTB 243 w_243 rfl)
theorem lk_RJ0_492 : Lnk RJ0 492 yJ0_isLatin1_aae02 := Or.inl (mTB 233 w_233 rfl)
theorem lk_RJ0_505 : Lnk RJ0 505 yJ0_length_8abf5 := Or.inl (mTB 239 w_239 rfl)
theorem lk_RJ0_633 : Lnk RJ0 633 yJ0_indexOf_7cf53 := Or.inl (mTB 229 w_229 rfl)
theorem lk_RJ0_637 : Lnk RJ0 637 yJ1_indexOf_4cfef := Or.inl (mTB 247 w_247 rfl)
theorem lk_RJ1_88 : Lnk RJ1 88 yJ1_canEncode_9a6ad := Or.inl (mTB 250 w_250 rfl)
theorem lk_RJ1_95 : Lnk RJ1 95 yJ1_indexOfChar_4cfef := Or.inl (mTB 259 w_259 rfl)
theorem lk_RL_101 : Lnk RL 101 yX8_part := Or.inl (mTB 1205 w_1205 rfl)
theorem lk_RL_102 : Lnk RL 102 yX7_image := Or.inl (mTB 834 w_834 rfl)
theorem lk_RL_105 : Lnk RL 105 yX8_image := Or.inl (mTB 1209 w_1209 rfl)
theorem lk_RL_106 : Lnk RL 106 yX7_from := Or.inl (mTB 849 w_849 rfl)
theorem lk_RL_109 : Lnk RL 109 yX8_from := Or.inl (mTB 1213 w_1213 rfl)
theorem lk_RL_110 : Lnk RL 110 yX7_status := Or.inl (mTB 853 w_853 rfl)
theorem lk_RL_113 : Lnk RL 113 yX8_status := Or.inl (mTB 1217 w_1217 rfl)
theorem lk_RL_114 : Lnk RL 114 yX7_count := Or.inl (mTB 857 w_857 rfl)
theorem lk_RL_117 : Lnk RL 117 yX8_count := Or.inl (mTB 1222 w_1222 rfl)
theorem lk_RL_118 : Lnk RL 118 yX7_digest := Or.inl (mTB 861 w_861 rfl)
theorem lk_RL_12 : Lnk RL 12 yX8_init := Or.inl (mTB 874 w_874 rfl)
theorem lk_RL_122 : Lnk RL 122 yX8_digest := Or.inl (mTB 1226 w_1226 rfl)
theorem lk_RL_13 : Lnk RL 13 yX7_walker := Or.inl (mTB 573 w_573 rfl)
theorem lk_RL_17 : Lnk RL 17 yX8_walker := Or.inl (mTB 960 w_960 rfl)
theorem lk_RL_18 : Lnk RL 18 yX7_put := Or.inl (mTB 596 w_596 rfl)
theorem lk_RL_22 : Lnk RL 22 yX8_put := Or.inl (mTB 982 w_982 rfl)
theorem lk_RL_23 : Lnk RL 23 yX7_write := Or.inl (mTB 600 w_600 rfl)
theorem lk_RL_27 : Lnk RL 27 yX8_write := Or.inl (mTB 1011 w_1011 rfl)
theorem lk_RL_28 : Lnk RL 28 yX7_erase := Or.inl (mTB 609 w_609 rfl)
theorem lk_RL_32 : Lnk RL 32 yX8_erase := Or.inl (mTB 1016 w_1016 rfl)
theorem lk_RL_33 : Lnk RL 33 yX7_fault := Or.inl (mTB 613 w_613 rfl)
theorem lk_RL_36 : Lnk RL 36 yX8_fault := Or.inl (mTB 1020 w_1020 rfl)
theorem lk_RL_37 : Lnk RL 37 yX7_brings := Or.inl (mTB 617 w_617 rfl)
theorem lk_RL_40 : Lnk RL 40 yX8_brings := Or.inl (mTB 987 w_987 rfl)
theorem lk_RL_41 : Lnk RL 41 yX7_well := Or.inl (mTB 633 w_633 rfl)
theorem lk_RL_44 : Lnk RL 44 yX8_well := Or.inl (mTB 1068 w_1068 rfl)
theorem lk_RL_45 : Lnk RL 45 yX7_on := Or.inl (mTB 665 w_665 rfl)
theorem lk_RL_48 : Lnk RL 48 yX8_on := Or.inl (mTB 1077 w_1077 rfl)
theorem lk_RL_49 : Lnk RL 49 yX7_stepped := Or.inl (mTB 700 w_700 rfl)
theorem lk_RL_52 : Lnk RL 52 yX8_stepped := Or.inl (mTB 1104 w_1104 rfl)
theorem lk_RL_53 : Lnk RL 53 yX7_faulty := Or.inl (mTB 708 w_708 rfl)
theorem lk_RL_56 : Lnk RL 56 yX8_faulty := Or.inl (mTB 1112 w_1112 rfl)
theorem lk_RL_57 : Lnk RL 57 yX7_least := Or.inl (mTB 712 w_712 rfl)
theorem lk_RL_60 : Lnk RL 60 yX8_least := Or.inl (mTB 1116 w_1116 rfl)
theorem lk_RL_61 : Lnk RL 61 yX7_row := Or.inl (mTB 740 w_740 rfl)
theorem lk_RL_64 : Lnk RL 64 yX8_row := Or.inl (mTB 1146 w_1146 rfl)
theorem lk_RL_65 : Lnk RL 65 yX7_toll := Or.inl (mTB 744 w_744 rfl)
theorem lk_RL_68 : Lnk RL 68 yX8_toll := Or.inl (mTB 1150 w_1150 rfl)
theorem lk_RL_69 : Lnk RL 69 yX7_doubt := Or.inl (mTB 765 w_765 rfl)
theorem lk_RL_72 : Lnk RL 72 yX8_doubt := Or.inl (mTB 1163 w_1163 rfl)
theorem lk_RL_73 : Lnk RL 73 yX7_odd := Or.inl (mTB 769 w_769 rfl)
theorem lk_RL_76 : Lnk RL 76 yX8_odd := Or.inl (mTB 1167 w_1167 rfl)
theorem lk_RL_77 : Lnk RL 77 yX7_home := Or.inl (mTB 775 w_775 rfl)
theorem lk_RL_80 : Lnk RL 80 yX8_home := Or.inl (mTB 1171 w_1171 rfl)
theorem lk_RL_81 : Lnk RL 81 yX7_say := Or.inl (mTB 787 w_787 rfl)
theorem lk_RL_84 : Lnk RL 84 yX8_say := Or.inl (mTB 1176 w_1176 rfl)
theorem lk_RL_85 : Lnk RL 85 yX7_hush := Or.inl (mTB 795 w_795 rfl)
theorem lk_RL_88 : Lnk RL 88 yX8_hush := Or.inl (mTB 1185 w_1185 rfl)
theorem lk_RL_89 : Lnk RL 89 yX7_dispute := Or.inl (mTB 799 w_799 rfl)
theorem lk_RL_9 : Lnk RL 9 yX7_init := Or.inl (mTB 105 w_105 rfl)
theorem lk_RL_93 : Lnk RL 93 yX8_dispute := Or.inl (mTB 1189 w_1189 rfl)
theorem lk_RL_94 : Lnk RL 94 yX7_lied := Or.inl (mTB 813 w_813 rfl)
theorem lk_RL_97 : Lnk RL 97 yX8_lied := Or.inl (mTB 1201 w_1201 rfl)
theorem lk_RL_98 : Lnk RL 98 yX7_part := Or.inl (mTB 830 w_830 rfl)
theorem lk_RX0_51 : Lnk RX0 51 yX0_lookAtCompany := Or.inl (mTB 720 w_720 rfl)
theorem lk_RX0_55 : Lnk RX0 55 yX0_lookAtLeft := Or.inl (mTB 728 w_728 rfl)
theorem lk_RX0_73 : Lnk RX0 73 yX0_lineUp := Or.inl (mTB 736 w_736 rfl)
theorem lk_RX0_76 : Lnk RX0 76 yX4_isWell := Or.inr ⟨_, mNW 724 w_724 rfl⟩
theorem lk_RX0_82 : Lnk RX0 82 yX4_isOdd := Or.inr ⟨_, mNW 725 w_725 rfl⟩
theorem lk_RX0_86 : Lnk RX0 86 yX7_holds := Or.inr ⟨_, mNW 726 w_726 rfl⟩
theorem lk_RX0_98 : Lnk RX0 98 yX0_tryFirst := Or.inl (mTB 732 w_732 rfl)
theorem lk_RX1_43 : Lnk RX1 43 yJ7_fill_53178 := Or.inl (mTB 673 w_673 rfl)
theorem lk_RX1_49 : Lnk RX1 49 yX1_bestSteps := Or.inl (mTB 676 w_676 rfl)
theorem lk_RX1_53 : Lnk RX1 53 yX1_step := Or.inl (mTB 696 w_696 rfl)
theorem lk_RX1_57 : Lnk RX1 57 yX1_mayStep := Or.inl (mTB 680 w_680 rfl)
theorem lk_RX1_60 : Lnk RX1 60 yX1_aheadOfWall := Or.inl (mTB 685 w_685 rfl)
theorem lk_RX1_63 : Lnk RX1 63 yJ6_bitCount_0f7a4 := Or.inl (mTB 689 w_689 rfl)
theorem lk_RX1_68 : Lnk RX1 68 yX4_isWell := Or.inr ⟨_, mNW 695 w_695 rfl⟩
theorem lk_RX1_79 : Lnk RX1 79 yX7_holds := Or.inr ⟨_, mNW 684 w_684 rfl⟩
theorem lk_RX2_16 : Lnk RX2 16 yX2_commonDivisor := Or.inl (mTB 762 w_762 rfl)
theorem lk_RX3_25 : Lnk RX3 25 yX7_holds := Or.inr ⟨_, mNW 811 w_811 rfl⟩
theorem lk_RX3_39 : Lnk RX3 39 yX3_onBut := Or.inl (mTB 807 w_807 rfl)
theorem lk_RX3_43 : Lnk RX3 43 yX4_isWell := Or.inr ⟨_, mNW 812 w_812 rfl⟩
theorem lk_RX3_48 : Lnk RX3 48 yX3_allWellBut := Or.inl (mTB 821 w_821 rfl)
theorem lk_RX3_52 : Lnk RX3 52 yJ6_bitCount_0f7a4 := Or.inl (mTB 829 w_829 rfl)
theorem lk_RX4_34 : Lnk RX4 34 yJ7_fill_d0a16 := Or.inl (mTB 641 w_641 rfl)
theorem lk_RX4_45 : Lnk RX4 45 yX4_isOdd := Or.inl (mTB 644 w_644 rfl)
theorem lk_RX4_51 : Lnk RX4 51 yX5_sumBrought := Or.inr ⟨_, mNW 648 w_648 rfl⟩
theorem lk_RX4_57 : Lnk RX4 57 yX6_value := Or.inr ⟨_, mNW 649 w_649 rfl⟩
theorem lk_RX5_59 : Lnk RX5 59 yX7_holds := Or.inr ⟨_, mNW 628 w_628 rfl⟩
theorem lk_RX6_103 : Lnk RX6 103 yX6_readDigits := Or.inl (mTB 318 w_318 rfl)
theorem lk_RX6_106 : Lnk RX6 106 yX6_readOpened := Or.inl (mTB 330 w_330 rfl)
theorem lk_RX6_111 : Lnk RX6 111 yJ0_indexOf_0f7a4 := Or.inl (mTB 225 w_225 rfl)
theorem lk_RX6_117 : Lnk RX6 117 yX6_signAt := Or.inl (mTB 221 w_221 rfl)
theorem lk_RX6_128 : Lnk RX6 128 yX6_push := Or.inl (mTB 653 w_653 rfl)
theorem lk_RX6_132 : Lnk RX6 132 yX6_pop := Or.inl (mTB 657 w_657 rfl)
theorem lk_RX6_136 : Lnk RX6 136 yX6_work := Or.inl (mTB 661 w_661 rfl)
theorem lk_RX6_27 : Lnk RX6 27 yX6_read := Or.inl (mTB 184 w_184 rfl)
theorem lk_RX6_44 : Lnk RX6 44 yX6_readValue := Or.inl (mTB 188 w_188 rfl)
theorem lk_RX6_48 : Lnk RX6 48 yX6_nextSign := Or.inl (mTB 217 w_217 rfl)
theorem lk_RX6_52 : Lnk RX6 52 yX6_setFlaw := Or.inl (mTB 322 w_322 rfl)
theorem lk_RX6_56 : Lnk RX6 56 yX6_readBoth := Or.inl (mTB 192 w_192 rfl)
theorem lk_RX6_61 : Lnk RX6 61 yX6_take := Or.inl (mTB 213 w_213 rfl)
theorem lk_RX6_65 : Lnk RX6 65 yX6_addSign := Or.inl (mTB 326 w_326 rfl)
theorem lk_RX6_69 : Lnk RX6 69 yX6_readHeld := Or.inl (mTB 196 w_196 rfl)
theorem lk_RX6_74 : Lnk RX6 74 yX6_readSum := Or.inl (mTB 200 w_200 rfl)
theorem lk_RX6_79 : Lnk RX6 79 yX6_readTerm := Or.inl (mTB 204 w_204 rfl)
theorem lk_RX6_84 : Lnk RX6 84 yX6_readUnit := Or.inl (mTB 208 w_208 rfl)
theorem lk_RX6_91 : Lnk RX6 91 yX6_readBareUnit := Or.inl (mTB 311 w_311 rfl)
theorem lk_RX6_99 : Lnk RX6 99 yX6_isDigit := Or.inl (mTB 315 w_315 rfl)
theorem lk_RX7_101 : Lnk RX7 101 yX7_forgetWhatFollows := Or.inl (mTB 592 w_592 rfl)
theorem lk_RX7_118 : Lnk RX7 118 yX5_addLetter := Or.inr ⟨_, mNW 604 w_604 rfl⟩
theorem lk_RX7_122 : Lnk RX7 122 yX6_read := Or.inr ⟨_, mNW 608 w_608 rfl⟩
theorem lk_RX7_128 : Lnk RX7 128 yX7_isSetOf := Or.inl (mTB 621 w_621 rfl)
theorem lk_RX7_132 : Lnk RX7 132 yX5_sumBrought := Or.inr ⟨_, mNW 624 w_624 rfl⟩
theorem lk_RX7_136 : Lnk RX7 136 yX4_isWell := Or.inr ⟨_, mNW 637 w_637 rfl⟩
theorem lk_RX7_139 : Lnk RX7 139 yX1_goThrough := Or.inr ⟨_, mNW 669 w_669 rfl⟩
theorem lk_RX7_145 : Lnk RX7 145 yX7_isWalker := Or.inl (mTB 704 w_704 rfl)
theorem lk_RX7_161 : Lnk RX7 161 yX0_plan := Or.inr ⟨_, mNW 716 w_716 rfl⟩
theorem lk_RX7_185 : Lnk RX7 185 yX7_refuseAsNo := Or.inl (mTB 748 w_748 rfl)
theorem lk_RX7_188 : Lnk RX7 188 yX7_spreadStops := Or.inl (mTB 752 w_752 rfl)
theorem lk_RX7_192 : Lnk RX7 192 yX2_become := Or.inr ⟨_, mNW 758 w_758 rfl⟩
theorem lk_RX7_199 : Lnk RX7 199 yX7_holds := Or.inl (mTB 773 w_773 rfl)
theorem lk_RX7_204 : Lnk RX7 204 yX7_waysHome := Or.inl (mTB 779 w_779 rfl)
theorem lk_RX7_207 : Lnk RX7 207 yX7_fewestHome := Or.inl (mTB 784 w_784 rfl)
theorem lk_RX7_213 : Lnk RX7 213 yX5_addSaid := Or.inr ⟨_, mNW 791 w_791 rfl⟩
theorem lk_RX7_216 : Lnk RX7 216 yX3_minutesUnwell := Or.inr ⟨_, mNW 803 w_803 rfl⟩
theorem lk_RX7_220 : Lnk RX7 220 yX3_eachAlone := Or.inr ⟨_, mNW 817 w_817 rfl⟩
theorem lk_RX7_223 : Lnk RX7 223 yX3_fewestLiars := Or.inr ⟨_, mNW 825 w_825 rfl⟩
theorem lk_RX7_233 : Lnk RX7 233 yX7_imageAt := Or.inl (mTB 838 w_838 rfl)
theorem lk_RX7_237 : Lnk RX7 237 yX5_become := Or.inr ⟨_, mNW 842 w_842 rfl⟩
theorem lk_RX7_247 : Lnk RX7 247 yX5_addedTo := Or.inr ⟨_, mNW 866 w_866 rfl⟩
theorem lk_RX7_256 : Lnk RX7 256 yJ7_fill_d0a16 := Or.inl (mTB 756 w_756 rfl)
theorem lk_RX7_264 : Lnk RX7 264 yJ7_fill_53178 := Or.inl (mTB 783 w_783 rfl)
theorem lk_RX7_28 : Lnk RX7 28 yX6_init := Or.inr ⟨_, mNW 180 w_180 rfl⟩
theorem lk_RX7_37 : Lnk RX7 37 yX4_init := Or.inr ⟨_, mNW 376 w_376 rfl⟩
theorem lk_RX7_46 : Lnk RX7 46 yX1_init := Or.inr ⟨_, mNW 402 w_402 rfl⟩
theorem lk_RX7_55 : Lnk RX7 55 yX0_init := Or.inr ⟨_, mNW 442 w_442 rfl⟩
theorem lk_RX7_62 : Lnk RX7 62 yX3_init := Or.inr ⟨_, mNW 501 w_501 rfl⟩
theorem lk_RX7_69 : Lnk RX7 69 yX2_init := Or.inr ⟨_, mNW 514 w_514 rfl⟩
theorem lk_RX7_82 : Lnk RX7 82 yX7_isWithin := Or.inl (mTB 577 w_577 rfl)
theorem lk_RX7_86 : Lnk RX7 86 yX7_refuseAsBad := Or.inl (mTB 580 w_580 rfl)
theorem lk_RX7_9 : Lnk RX7 9 yX5_init := Or.inr ⟨_, mNW 113 w_113 rfl⟩
theorem lk_RX7_94 : Lnk RX7 94 yX7_refuseAsFull := Or.inl (mTB 584 w_584 rfl)
theorem lk_RX7_97 : Lnk RX7 97 yX5_addWalker := Or.inr ⟨_, mNW 588 w_588 rfl⟩
theorem lk_RX8_100 : Lnk RX8 100 yX8_bringsOf := Or.inl (mTB 1008 w_1008 rfl)
theorem lk_RX8_103 : Lnk RX8 103 yX8_isSet := Or.inl (mTB 991 w_991 rfl)
theorem lk_RX8_109 : Lnk RX8 109 yX8_broughtBy := Or.inl (mTB 1000 w_1000 rfl)
theorem lk_RX8_118 : Lnk RX8 118 yX8_textLong := Or.inl (mTB 1032 w_1032 rfl)
theorem lk_RX8_121 : Lnk RX8 121 yX8_charAt := Or.inl (mTB 1036 w_1036 rfl)
theorem lk_RX8_130 : Lnk RX8 130 yX8_rank := Or.inl (mTB 1061 w_1061 rfl)
theorem lk_RX8_133 : Lnk RX8 133 yX8_workOut := Or.inl (mTB 1064 w_1064 rfl)
theorem lk_RX8_140 : Lnk RX8 140 yX8_isFigure := Or.inl (mTB 1040 w_1040 rfl)
theorem lk_RX8_148 : Lnk RX8 148 yX8_ahead := Or.inl (mTB 1028 w_1028 rfl)
theorem lk_RX8_151 : Lnk RX8 151 yX8_digits := Or.inl (mTB 1045 w_1045 rfl)
theorem lk_RX8_155 : Lnk RX8 155 yX8_stands := Or.inl (mTB 1050 w_1050 rfl)
theorem lk_RX8_159 : Lnk RX8 159 yX8_letterOf := Or.inl (mTB 1054 w_1054 rfl)
theorem lk_RX8_162 : Lnk RX8 162 yX8_workDown := Or.inl (mTB 1057 w_1057 rfl)
theorem lk_RX8_169 : Lnk RX8 169 yX8_reads := Or.inl (mTB 1024 w_1024 rfl)
theorem lk_RX8_175 : Lnk RX8 175 yX8_isWell := Or.inl (mTB 1073 w_1073 rfl)
theorem lk_RX8_179 : Lnk RX8 179 yX8_ahead_ := Or.inl (mTB 1100 w_1100 rfl)
theorem lk_RX8_187 : Lnk RX8 187 yX8_onNow := Or.inl (mTB 1085 w_1085 rfl)
theorem lk_RX8_190 : Lnk RX8 190 yX8_mayStep := Or.inl (mTB 1089 w_1089 rfl)
theorem lk_RX8_193 : Lnk RX8 193 yX8_manyIn := Or.inl (mTB 1093 w_1093 rfl)
theorem lk_RX8_196 : Lnk RX8 196 yX8_isWellOn := Or.inl (mTB 1096 w_1096 rfl)
theorem lk_RX8_200 : Lnk RX8 200 yX8_celebrate := Or.inl (mTB 1081 w_1081 rfl)
theorem lk_RX8_203 : Lnk RX8 203 yX8_isWalker := Or.inl (mTB 1108 w_1108 rfl)
theorem lk_RX8_207 : Lnk RX8 207 yX8_findPrices := Or.inl (mTB 1129 w_1129 rfl)
theorem lk_RX8_210 : Lnk RX8 210 yX8_mayGo := Or.inl (mTB 1134 w_1134 rfl)
theorem lk_RX8_213 : Lnk RX8 213 yX8_timeOf := Or.inl (mTB 1138 w_1138 rfl)
theorem lk_RX8_216 : Lnk RX8 216 yX8_findLeast := Or.inl (mTB 1125 w_1125 rfl)
theorem lk_RX8_222 : Lnk RX8 222 yX8_isNext := Or.inl (mTB 1142 w_1142 rfl)
theorem lk_RX8_227 : Lnk RX8 227 yX8_layRow := Or.inl (mTB 1121 w_1121 rfl)
theorem lk_RX8_232 : Lnk RX8 232 yX8_no := Or.inl (mTB 1155 w_1155 rfl)
theorem lk_RX8_235 : Lnk RX8 235 yX8_tells := Or.inl (mTB 1159 w_1159 rfl)
theorem lk_RX8_243 : Lnk RX8 243 yX8_said := Or.inl (mTB 1181 w_1181 rfl)
theorem lk_RX8_246 : Lnk RX8 246 yX8_onBy := Or.inl (mTB 1197 w_1197 rfl)
theorem lk_RX8_249 : Lnk RX8 249 yX8_disputeOf := Or.inl (mTB 1193 w_1193 rfl)
theorem lk_RX8_259 : Lnk RX8 259 yX8_sums := Or.inl (mTB 1232 w_1232 rfl)
theorem lk_RX8_70 : Lnk RX8 70 yX8_walkers := Or.inl (mTB 974 w_974 rfl)
theorem lk_RX8_74 : Lnk RX8 74 yX8_in := Or.inl (mTB 965 w_965 rfl)
theorem lk_RX8_78 : Lnk RX8 78 yX8_all := Or.inl (mTB 995 w_995 rfl)
theorem lk_RX8_87 : Lnk RX8 87 yX8_bad := Or.inl (mTB 970 w_970 rfl)
theorem lk_RX8_91 : Lnk RX8 91 yX8_full := Or.inl (mTB 978 w_978 rfl)
theorem lk_RX8_96 : Lnk RX8 96 yX8_of := Or.inl (mTB 1004 w_1004 rfl)
theorem ca_J0_coder_7d493 : Cal yJ0_coder_7d493 cJ0_coder_7d493 1 (Option.some Jvm.ClassFile.FieldType.byte) 0 := ⟨mTB 246 w_246 rfl, mTB 88 w_88 rfl, by decide +kernel, by decide +kernel, by decide +kernel⟩
theorem ca_J0_indexOf_0f7a4 : Cal yJ0_indexOf_0f7a4 cJ0_indexOf_0f7a4 2 (Option.some Jvm.ClassFile.FieldType.int) 1 := ⟨mTB 228 w_228 rfl, mTB 88 w_88 rfl, by decide +kernel, by decide +kernel, by decide +kernel⟩
theorem ca_J0_indexOf_7cf53 : Cal yJ0_indexOf_7cf53 cJ0_indexOf_7cf53 3 (Option.some Jvm.ClassFile.FieldType.int) 2 := ⟨mTB 232 w_232 rfl, mTB 88 w_88 rfl, by decide +kernel, by decide +kernel, by decide +kernel⟩
theorem ca_J0_isLatin1_aae02 : Cal yJ0_isLatin1_aae02 cJ0_isLatin1_aae02 1 (Option.some Jvm.ClassFile.FieldType.boolean) 0 := ⟨mTB 236 w_236 rfl, mTB 88 w_88 rfl, by decide +kernel, by decide +kernel, by decide +kernel⟩
theorem ca_J0_length_8abf5 : Cal yJ0_length_8abf5 cJ0_length_8abf5 1 (Option.some Jvm.ClassFile.FieldType.int) 0 := ⟨mTB 242 w_242 rfl, mTB 88 w_88 rfl, by decide +kernel, by decide +kernel, by decide +kernel⟩
theorem ca_J1_canEncode_9a6ad : Cal yJ1_canEncode_9a6ad cJ1_canEncode_9a6ad 1 (Option.some Jvm.ClassFile.FieldType.boolean) 1 := ⟨mTB 252 w_252 rfl, mTB 89 w_89 rfl, by decide +kernel, by decide +kernel, by decide +kernel⟩
theorem ca_J1_indexOfChar_4cfef : Cal yJ1_indexOfChar_4cfef cJ1_indexOfChar_4cfef 6 (Option.some Jvm.ClassFile.FieldType.int) 4 := ⟨mTB 261 w_261 rfl, mTB 89 w_89 rfl, by decide +kernel, by decide +kernel, by decide +kernel⟩
theorem ca_J1_indexOf_4cfef : Cal yJ1_indexOf_4cfef cJ1_indexOf_4cfef 4 (Option.some Jvm.ClassFile.FieldType.int) 4 := ⟨mTB 249 w_249 rfl, mTB 89 w_89 rfl, by decide +kernel, by decide +kernel, by decide +kernel⟩
theorem ca_J6_bitCount_0f7a4 : Cal yJ6_bitCount_0f7a4 cJ6_bitCount_0f7a4 1 (Option.some Jvm.ClassFile.FieldType.int) 1 := ⟨mTB 691 w_691 rfl, mTB 101 w_101 rfl, by decide +kernel, by decide +kernel, by decide +kernel⟩
theorem ca_J7_fill_53178 : Cal yJ7_fill_53178 cJ7_fill_53178 4 (Option.none : Option Jvm.ClassFile.FieldType) 2 := ⟨mTB 675 w_675 rfl, mTB 100 w_100 rfl, by decide +kernel, by decide +kernel, by decide +kernel⟩
theorem ca_J7_fill_d0a16 : Cal yJ7_fill_d0a16 cJ7_fill_d0a16 5 (Option.none : Option Jvm.ClassFile.FieldType) 2 := ⟨mTB 643 w_643 rfl, mTB 100 w_100 rfl, by decide +kernel, by decide +kernel, by decide +kernel⟩
theorem ca_X0_init : Cal yX0_init cX0_init 3 (Option.none : Option Jvm.ClassFile.FieldType) 2 := ⟨mTB 444 w_444 rfl, mTB 96 w_96 rfl, by decide +kernel, by decide +kernel, by decide +kernel⟩
theorem ca_X0_lineUp : Cal yX0_lineUp cX0_lineUp 5 (Option.none : Option Jvm.ClassFile.FieldType) 1 := ⟨mTB 739 w_739 rfl, mTB 96 w_96 rfl, by decide +kernel, by decide +kernel, by decide +kernel⟩
theorem ca_X0_lookAtCompany : Cal yX0_lookAtCompany cX0_lookAtCompany 3 (Option.none : Option Jvm.ClassFile.FieldType) 1 := ⟨mTB 723 w_723 rfl, mTB 96 w_96 rfl, by decide +kernel, by decide +kernel, by decide +kernel⟩
theorem ca_X0_lookAtLeft : Cal yX0_lookAtLeft cX0_lookAtLeft 5 (Option.none : Option Jvm.ClassFile.FieldType) 1 := ⟨mTB 731 w_731 rfl, mTB 96 w_96 rfl, by decide +kernel, by decide +kernel, by decide +kernel⟩
theorem ca_X0_plan : Cal yX0_plan cX0_plan 3 (Option.none : Option Jvm.ClassFile.FieldType) 0 := ⟨mTB 719 w_719 rfl, mTB 96 w_96 rfl, by decide +kernel, by decide +kernel, by decide +kernel⟩
theorem ca_X0_tryFirst : Cal yX0_tryFirst cX0_tryFirst 8 (Option.none : Option Jvm.ClassFile.FieldType) 2 := ⟨mTB 735 w_735 rfl, mTB 96 w_96 rfl, by decide +kernel, by decide +kernel, by decide +kernel⟩
theorem ca_X1_aheadOfWall : Cal yX1_aheadOfWall cX1_aheadOfWall 4 (Option.some Jvm.ClassFile.FieldType.int) 1 := ⟨mTB 688 w_688 rfl, mTB 95 w_95 rfl, by decide +kernel, by decide +kernel, by decide +kernel⟩
theorem ca_X1_bestSteps : Cal yX1_bestSteps cX1_bestSteps 9 (Option.some Jvm.ClassFile.FieldType.int) 1 := ⟨mTB 679 w_679 rfl, mTB 95 w_95 rfl, by decide +kernel, by decide +kernel, by decide +kernel⟩
theorem ca_X1_goThrough : Cal yX1_goThrough cX1_goThrough 3 (Option.none : Option Jvm.ClassFile.FieldType) 0 := ⟨mTB 672 w_672 rfl, mTB 95 w_95 rfl, by decide +kernel, by decide +kernel, by decide +kernel⟩
theorem ca_X1_init : Cal yX1_init cX1_init 3 (Option.none : Option Jvm.ClassFile.FieldType) 2 := ⟨mTB 404 w_404 rfl, mTB 95 w_95 rfl, by decide +kernel, by decide +kernel, by decide +kernel⟩
theorem ca_X1_mayStep : Cal yX1_mayStep cX1_mayStep 6 (Option.some Jvm.ClassFile.FieldType.int) 1 := ⟨mTB 683 w_683 rfl, mTB 95 w_95 rfl, by decide +kernel, by decide +kernel, by decide +kernel⟩
theorem ca_X1_step : Cal yX1_step cX1_step 4 (Option.none : Option Jvm.ClassFile.FieldType) 2 := ⟨mTB 699 w_699 rfl, mTB 95 w_95 rfl, by decide +kernel, by decide +kernel, by decide +kernel⟩
theorem ca_X2_become : Cal yX2_become cX2_become 7 (Option.none : Option Jvm.ClassFile.FieldType) 2 := ⟨mTB 761 w_761 rfl, mTB 98 w_98 rfl, by decide +kernel, by decide +kernel, by decide +kernel⟩
theorem ca_X2_commonDivisor : Cal yX2_commonDivisor cX2_commonDivisor 11 (Option.some Jvm.ClassFile.FieldType.long) 2 := ⟨mTB 764 w_764 rfl, mTB 98 w_98 rfl, by decide +kernel, by decide +kernel, by decide +kernel⟩
theorem ca_X2_init : Cal yX2_init cX2_init 1 (Option.none : Option Jvm.ClassFile.FieldType) 0 := ⟨mTB 516 w_516 rfl, mTB 98 w_98 rfl, by decide +kernel, by decide +kernel, by decide +kernel⟩
theorem ca_X3_allWellBut : Cal yX3_allWellBut cX3_allWellBut 3 (Option.some Jvm.ClassFile.FieldType.boolean) 1 := ⟨mTB 824 w_824 rfl, mTB 97 w_97 rfl, by decide +kernel, by decide +kernel, by decide +kernel⟩
theorem ca_X3_eachAlone : Cal yX3_eachAlone cX3_eachAlone 3 (Option.some Jvm.ClassFile.FieldType.int) 0 := ⟨mTB 820 w_820 rfl, mTB 97 w_97 rfl, by decide +kernel, by decide +kernel, by decide +kernel⟩
theorem ca_X3_fewestLiars : Cal yX3_fewestLiars cX3_fewestLiars 3 (Option.some Jvm.ClassFile.FieldType.int) 0 := ⟨mTB 828 w_828 rfl, mTB 97 w_97 rfl, by decide +kernel, by decide +kernel, by decide +kernel⟩
theorem ca_X3_init : Cal yX3_init cX3_init 3 (Option.none : Option Jvm.ClassFile.FieldType) 2 := ⟨mTB 503 w_503 rfl, mTB 97 w_97 rfl, by decide +kernel, by decide +kernel, by decide +kernel⟩
theorem ca_X3_minutesUnwell : Cal yX3_minutesUnwell cX3_minutesUnwell 5 (Option.some Jvm.ClassFile.FieldType.long) 1 := ⟨mTB 806 w_806 rfl, mTB 97 w_97 rfl, by decide +kernel, by decide +kernel, by decide +kernel⟩
theorem ca_X3_onBut : Cal yX3_onBut cX3_onBut 5 (Option.some Jvm.ClassFile.FieldType.int) 2 := ⟨mTB 810 w_810 rfl, mTB 97 w_97 rfl, by decide +kernel, by decide +kernel, by decide +kernel⟩
theorem ca_X4_init : Cal yX4_init cX4_init 3 (Option.none : Option Jvm.ClassFile.FieldType) 2 := ⟨mTB 378 w_378 rfl, mTB 94 w_94 rfl, by decide +kernel, by decide +kernel, by decide +kernel⟩
theorem ca_X4_isOdd : Cal yX4_isOdd cX4_isOdd 5 (Option.some Jvm.ClassFile.FieldType.boolean) 3 := ⟨mTB 647 w_647 rfl, mTB 94 w_94 rfl, by decide +kernel, by decide +kernel, by decide +kernel⟩
theorem ca_X4_isWell : Cal yX4_isWell cX4_isWell 7 (Option.some Jvm.ClassFile.FieldType.boolean) 2 := ⟨mTB 640 w_640 rfl, mTB 94 w_94 rfl, by decide +kernel, by decide +kernel, by decide +kernel⟩
theorem ca_X5_addLetter : Cal yX5_addLetter cX5_addLetter 2 (Option.none : Option Jvm.ClassFile.FieldType) 1 := ⟨mTB 607 w_607 rfl, mTB 86 w_86 rfl, by decide +kernel, by decide +kernel, by decide +kernel⟩
theorem ca_X5_addSaid : Cal yX5_addSaid cX5_addSaid 4 (Option.none : Option Jvm.ClassFile.FieldType) 3 := ⟨mTB 794 w_794 rfl, mTB 86 w_86 rfl, by decide +kernel, by decide +kernel, by decide +kernel⟩
theorem ca_X5_addWalker : Cal yX5_addWalker cX5_addWalker 4 (Option.none : Option Jvm.ClassFile.FieldType) 3 := ⟨mTB 591 w_591 rfl, mTB 86 w_86 rfl, by decide +kernel, by decide +kernel, by decide +kernel⟩
theorem ca_X5_addedTo : Cal yX5_addedTo cX5_addedTo 6 (Option.some Jvm.ClassFile.FieldType.long) 1 := ⟨mTB 869 w_869 rfl, mTB 86 w_86 rfl, by decide +kernel, by decide +kernel, by decide +kernel⟩
theorem ca_X5_become : Cal yX5_become cX5_become 2 (Option.none : Option Jvm.ClassFile.FieldType) 1 := ⟨mTB 845 w_845 rfl, mTB 86 w_86 rfl, by decide +kernel, by decide +kernel, by decide +kernel⟩
theorem ca_X5_init : Cal yX5_init cX5_init 1 (Option.none : Option Jvm.ClassFile.FieldType) 0 := ⟨mTB 115 w_115 rfl, mTB 86 w_86 rfl, by decide +kernel, by decide +kernel, by decide +kernel⟩
theorem ca_X5_sumBrought : Cal yX5_sumBrought cX5_sumBrought 6 (Option.some Jvm.ClassFile.FieldType.int) 2 := ⟨mTB 627 w_627 rfl, mTB 86 w_86 rfl, by decide +kernel, by decide +kernel, by decide +kernel⟩
theorem ca_X6_addSign : Cal yX6_addSign cX6_addSign 3 (Option.none : Option Jvm.ClassFile.FieldType) 2 := ⟨mTB 329 w_329 rfl, mTB 87 w_87 rfl, by decide +kernel, by decide +kernel, by decide +kernel⟩
theorem ca_X6_init : Cal yX6_init cX6_init 2 (Option.none : Option Jvm.ClassFile.FieldType) 1 := ⟨mTB 182 w_182 rfl, mTB 87 w_87 rfl, by decide +kernel, by decide +kernel, by decide +kernel⟩
theorem ca_X6_isDigit : Cal yX6_isDigit cX6_isDigit 1 (Option.some Jvm.ClassFile.FieldType.boolean) 1 := ⟨mTB 317 w_317 rfl, mTB 87 w_87 rfl, by decide +kernel, by decide +kernel, by decide +kernel⟩
theorem ca_X6_nextSign : Cal yX6_nextSign cX6_nextSign 1 (Option.some Jvm.ClassFile.FieldType.int) 0 := ⟨mTB 220 w_220 rfl, mTB 87 w_87 rfl, by decide +kernel, by decide +kernel, by decide +kernel⟩
theorem ca_X6_pop : Cal yX6_pop cX6_pop 1 (Option.some Jvm.ClassFile.FieldType.long) 0 := ⟨mTB 660 w_660 rfl, mTB 87 w_87 rfl, by decide +kernel, by decide +kernel, by decide +kernel⟩
theorem ca_X6_push : Cal yX6_push cX6_push 3 (Option.none : Option Jvm.ClassFile.FieldType) 1 := ⟨mTB 656 w_656 rfl, mTB 87 w_87 rfl, by decide +kernel, by decide +kernel, by decide +kernel⟩
theorem ca_X6_read : Cal yX6_read cX6_read 1 (Option.none : Option Jvm.ClassFile.FieldType) 0 := ⟨mTB 187 w_187 rfl, mTB 87 w_87 rfl, by decide +kernel, by decide +kernel, by decide +kernel⟩
theorem ca_X6_readBareUnit : Cal yX6_readBareUnit cX6_readBareUnit 3 (Option.none : Option Jvm.ClassFile.FieldType) 1 := ⟨mTB 314 w_314 rfl, mTB 87 w_87 rfl, by decide +kernel, by decide +kernel, by decide +kernel⟩
theorem ca_X6_readBoth : Cal yX6_readBoth cX6_readBoth 3 (Option.none : Option Jvm.ClassFile.FieldType) 1 := ⟨mTB 195 w_195 rfl, mTB 87 w_87 rfl, by decide +kernel, by decide +kernel, by decide +kernel⟩
theorem ca_X6_readDigits : Cal yX6_readDigits cX6_readDigits 3 (Option.none : Option Jvm.ClassFile.FieldType) 0 := ⟨mTB 321 w_321 rfl, mTB 87 w_87 rfl, by decide +kernel, by decide +kernel, by decide +kernel⟩
theorem ca_X6_readHeld : Cal yX6_readHeld cX6_readHeld 3 (Option.none : Option Jvm.ClassFile.FieldType) 1 := ⟨mTB 199 w_199 rfl, mTB 87 w_87 rfl, by decide +kernel, by decide +kernel, by decide +kernel⟩
theorem ca_X6_readOpened : Cal yX6_readOpened cX6_readOpened 2 (Option.none : Option Jvm.ClassFile.FieldType) 1 := ⟨mTB 333 w_333 rfl, mTB 87 w_87 rfl, by decide +kernel, by decide +kernel, by decide +kernel⟩
theorem ca_X6_readSum : Cal yX6_readSum cX6_readSum 4 (Option.none : Option Jvm.ClassFile.FieldType) 1 := ⟨mTB 203 w_203 rfl, mTB 87 w_87 rfl, by decide +kernel, by decide +kernel, by decide +kernel⟩
theorem ca_X6_readTerm : Cal yX6_readTerm cX6_readTerm 4 (Option.none : Option Jvm.ClassFile.FieldType) 1 := ⟨mTB 207 w_207 rfl, mTB 87 w_87 rfl, by decide +kernel, by decide +kernel, by decide +kernel⟩
theorem ca_X6_readUnit : Cal yX6_readUnit cX6_readUnit 6 (Option.none : Option Jvm.ClassFile.FieldType) 1 := ⟨mTB 211 w_211 rfl, mTB 87 w_87 rfl, by decide +kernel, by decide +kernel, by decide +kernel⟩
theorem ca_X6_readValue : Cal yX6_readValue cX6_readValue 3 (Option.none : Option Jvm.ClassFile.FieldType) 1 := ⟨mTB 191 w_191 rfl, mTB 87 w_87 rfl, by decide +kernel, by decide +kernel, by decide +kernel⟩
theorem ca_X6_setFlaw : Cal yX6_setFlaw cX6_setFlaw 3 (Option.none : Option Jvm.ClassFile.FieldType) 2 := ⟨mTB 325 w_325 rfl, mTB 87 w_87 rfl, by decide +kernel, by decide +kernel, by decide +kernel⟩
theorem ca_X6_signAt : Cal yX6_signAt cX6_signAt 2 (Option.some Jvm.ClassFile.FieldType.int) 1 := ⟨mTB 224 w_224 rfl, mTB 87 w_87 rfl, by decide +kernel, by decide +kernel, by decide +kernel⟩
theorem ca_X6_take : Cal yX6_take cX6_take 3 (Option.some Jvm.ClassFile.FieldType.int) 1 := ⟨mTB 216 w_216 rfl, mTB 87 w_87 rfl, by decide +kernel, by decide +kernel, by decide +kernel⟩
theorem ca_X6_value : Cal yX6_value cX6_value 8 (Option.some Jvm.ClassFile.FieldType.long) 2 := ⟨mTB 652 w_652 rfl, mTB 87 w_87 rfl, by decide +kernel, by decide +kernel, by decide +kernel⟩
theorem ca_X6_work : Cal yX6_work cX6_work 5 (Option.some Jvm.ClassFile.FieldType.long) 3 := ⟨mTB 663 w_663 rfl, mTB 87 w_87 rfl, by decide +kernel, by decide +kernel, by decide +kernel⟩
theorem ca_X7_brings : Cal yX7_brings cX7_brings 3 (Option.some Jvm.ClassFile.FieldType.int) 2 := ⟨mTB 620 w_620 rfl, mTB 85 w_85 rfl, by decide +kernel, by decide +kernel, by decide +kernel⟩
theorem ca_X7_count : Cal yX7_count cX7_count 2 (Option.some Jvm.ClassFile.FieldType.int) 1 := ⟨mTB 860 w_860 rfl, mTB 85 w_85 rfl, by decide +kernel, by decide +kernel, by decide +kernel⟩
theorem ca_X7_digest : Cal yX7_digest cX7_digest 3 (Option.some Jvm.ClassFile.FieldType.long) 0 := ⟨mTB 864 w_864 rfl, mTB 85 w_85 rfl, by decide +kernel, by decide +kernel, by decide +kernel⟩
theorem ca_X7_dispute : Cal yX7_dispute cX7_dispute 2 (Option.some Jvm.ClassFile.FieldType.long) 1 := ⟨mTB 802 w_802 rfl, mTB 85 w_85 rfl, by decide +kernel, by decide +kernel, by decide +kernel⟩
theorem ca_X7_doubt : Cal yX7_doubt cX7_doubt 4 (Option.some Jvm.ClassFile.FieldType.int) 2 := ⟨mTB 768 w_768 rfl, mTB 85 w_85 rfl, by decide +kernel, by decide +kernel, by decide +kernel⟩
theorem ca_X7_erase : Cal yX7_erase cX7_erase 2 (Option.some Jvm.ClassFile.FieldType.int) 0 := ⟨mTB 612 w_612 rfl, mTB 85 w_85 rfl, by decide +kernel, by decide +kernel, by decide +kernel⟩
theorem ca_X7_fault : Cal yX7_fault cX7_fault 1 (Option.some Jvm.ClassFile.FieldType.int) 0 := ⟨mTB 616 w_616 rfl, mTB 85 w_85 rfl, by decide +kernel, by decide +kernel, by decide +kernel⟩
theorem ca_X7_faulty : Cal yX7_faulty cX7_faulty 2 (Option.some Jvm.ClassFile.FieldType.int) 1 := ⟨mTB 711 w_711 rfl, mTB 85 w_85 rfl, by decide +kernel, by decide +kernel, by decide +kernel⟩
theorem ca_X7_fewestHome : Cal yX7_fewestHome cX7_fewestHome 4 (Option.some Jvm.ClassFile.FieldType.int) 2 := ⟨mTB 786 w_786 rfl, mTB 85 w_85 rfl, by decide +kernel, by decide +kernel, by decide +kernel⟩
theorem ca_X7_forgetWhatFollows : Cal yX7_forgetWhatFollows cX7_forgetWhatFollows 1 (Option.none : Option Jvm.ClassFile.FieldType) 0 := ⟨mTB 595 w_595 rfl, mTB 85 w_85 rfl, by decide +kernel, by decide +kernel, by decide +kernel⟩
theorem ca_X7_from : Cal yX7_from cX7_from 2 (Option.some Jvm.ClassFile.FieldType.int) 1 := ⟨mTB 852 w_852 rfl, mTB 85 w_85 rfl, by decide +kernel, by decide +kernel, by decide +kernel⟩
theorem ca_X7_holds : Cal yX7_holds cX7_holds 2 (Option.some Jvm.ClassFile.FieldType.boolean) 2 := ⟨mTB 630 w_630 rfl, mTB 85 w_85 rfl, by decide +kernel, by decide +kernel, by decide +kernel⟩
theorem ca_X7_home : Cal yX7_home cX7_home 4 (Option.some Jvm.ClassFile.FieldType.int) 3 := ⟨mTB 778 w_778 rfl, mTB 85 w_85 rfl, by decide +kernel, by decide +kernel, by decide +kernel⟩
theorem ca_X7_hush : Cal yX7_hush cX7_hush 2 (Option.some Jvm.ClassFile.FieldType.int) 0 := ⟨mTB 798 w_798 rfl, mTB 85 w_85 rfl, by decide +kernel, by decide +kernel, by decide +kernel⟩
theorem ca_X7_image : Cal yX7_image cX7_image 2 (Option.some Jvm.ClassFile.FieldType.int) 1 := ⟨mTB 837 w_837 rfl, mTB 85 w_85 rfl, by decide +kernel, by decide +kernel, by decide +kernel⟩
theorem ca_X7_imageAt : Cal yX7_imageAt cX7_imageAt 2 (Option.some (Jvm.ClassFile.FieldType.object "OddBridge$Scene")) 1 := ⟨mTB 841 w_841 rfl, mTB 85 w_85 rfl, by decide +kernel, by decide +kernel, by decide +kernel⟩
theorem ca_X7_init : Cal yX7_init cX7_init 1 (Option.none : Option Jvm.ClassFile.FieldType) 0 := ⟨mTB 107 w_107 rfl, mTB 85 w_85 rfl, by decide +kernel, by decide +kernel, by decide +kernel⟩
theorem ca_X7_isSetOf : Cal yX7_isSetOf cX7_isSetOf 2 (Option.some Jvm.ClassFile.FieldType.boolean) 2 := ⟨mTB 623 w_623 rfl, mTB 85 w_85 rfl, by decide +kernel, by decide +kernel, by decide +kernel⟩
theorem ca_X7_isWalker : Cal yX7_isWalker cX7_isWalker 2 (Option.some Jvm.ClassFile.FieldType.boolean) 1 := ⟨mTB 707 w_707 rfl, mTB 85 w_85 rfl, by decide +kernel, by decide +kernel, by decide +kernel⟩
theorem ca_X7_isWithin : Cal yX7_isWithin cX7_isWithin 3 (Option.some Jvm.ClassFile.FieldType.boolean) 3 := ⟨mTB 579 w_579 rfl, mTB 85 w_85 rfl, by decide +kernel, by decide +kernel, by decide +kernel⟩
theorem ca_X7_least : Cal yX7_least cX7_least 2 (Option.some Jvm.ClassFile.FieldType.int) 1 := ⟨mTB 715 w_715 rfl, mTB 85 w_85 rfl, by decide +kernel, by decide +kernel, by decide +kernel⟩
theorem ca_X7_lied : Cal yX7_lied cX7_lied 2 (Option.some Jvm.ClassFile.FieldType.int) 1 := ⟨mTB 816 w_816 rfl, mTB 85 w_85 rfl, by decide +kernel, by decide +kernel, by decide +kernel⟩
theorem ca_X7_odd : Cal yX7_odd cX7_odd 13 (Option.some Jvm.ClassFile.FieldType.int) 1 := ⟨mTB 772 w_772 rfl, mTB 85 w_85 rfl, by decide +kernel, by decide +kernel, by decide +kernel⟩
theorem ca_X7_on : Cal yX7_on cX7_on 2 (Option.some Jvm.ClassFile.FieldType.int) 1 := ⟨mTB 668 w_668 rfl, mTB 85 w_85 rfl, by decide +kernel, by decide +kernel, by decide +kernel⟩
theorem ca_X7_part : Cal yX7_part cX7_part 2 (Option.some Jvm.ClassFile.FieldType.long) 1 := ⟨mTB 833 w_833 rfl, mTB 85 w_85 rfl, by decide +kernel, by decide +kernel, by decide +kernel⟩
theorem ca_X7_put : Cal yX7_put cX7_put 4 (Option.some Jvm.ClassFile.FieldType.int) 2 := ⟨mTB 599 w_599 rfl, mTB 85 w_85 rfl, by decide +kernel, by decide +kernel, by decide +kernel⟩
theorem ca_X7_refuseAsBad : Cal yX7_refuseAsBad cX7_refuseAsBad 1 (Option.some Jvm.ClassFile.FieldType.int) 0 := ⟨mTB 583 w_583 rfl, mTB 85 w_85 rfl, by decide +kernel, by decide +kernel, by decide +kernel⟩
theorem ca_X7_refuseAsFull : Cal yX7_refuseAsFull cX7_refuseAsFull 1 (Option.some Jvm.ClassFile.FieldType.int) 0 := ⟨mTB 587 w_587 rfl, mTB 85 w_85 rfl, by decide +kernel, by decide +kernel, by decide +kernel⟩
theorem ca_X7_refuseAsNo : Cal yX7_refuseAsNo cX7_refuseAsNo 1 (Option.some Jvm.ClassFile.FieldType.int) 0 := ⟨mTB 751 w_751 rfl, mTB 85 w_85 rfl, by decide +kernel, by decide +kernel, by decide +kernel⟩
theorem ca_X7_row : Cal yX7_row cX7_row 2 (Option.some Jvm.ClassFile.FieldType.int) 1 := ⟨mTB 743 w_743 rfl, mTB 85 w_85 rfl, by decide +kernel, by decide +kernel, by decide +kernel⟩
theorem ca_X7_say : Cal yX7_say cX7_say 5 (Option.some Jvm.ClassFile.FieldType.int) 3 := ⟨mTB 790 w_790 rfl, mTB 85 w_85 rfl, by decide +kernel, by decide +kernel, by decide +kernel⟩
theorem ca_X7_spreadStops : Cal yX7_spreadStops cX7_spreadStops 7 (Option.some Jvm.ClassFile.FieldType.long) 2 := ⟨mTB 755 w_755 rfl, mTB 85 w_85 rfl, by decide +kernel, by decide +kernel, by decide +kernel⟩
theorem ca_X7_status : Cal yX7_status cX7_status 2 (Option.some Jvm.ClassFile.FieldType.int) 1 := ⟨mTB 856 w_856 rfl, mTB 85 w_85 rfl, by decide +kernel, by decide +kernel, by decide +kernel⟩
theorem ca_X7_stepped : Cal yX7_stepped cX7_stepped 3 (Option.some Jvm.ClassFile.FieldType.int) 2 := ⟨mTB 703 w_703 rfl, mTB 85 w_85 rfl, by decide +kernel, by decide +kernel, by decide +kernel⟩
theorem ca_X7_toll : Cal yX7_toll cX7_toll 8 (Option.some Jvm.ClassFile.FieldType.int) 2 := ⟨mTB 747 w_747 rfl, mTB 85 w_85 rfl, by decide +kernel, by decide +kernel, by decide +kernel⟩
theorem ca_X7_walker : Cal yX7_walker cX7_walker 5 (Option.some Jvm.ClassFile.FieldType.int) 3 := ⟨mTB 576 w_576 rfl, mTB 85 w_85 rfl, by decide +kernel, by decide +kernel, by decide +kernel⟩
theorem ca_X7_waysHome : Cal yX7_waysHome cX7_waysHome 5 (Option.some Jvm.ClassFile.FieldType.int) 2 := ⟨mTB 782 w_782 rfl, mTB 85 w_85 rfl, by decide +kernel, by decide +kernel, by decide +kernel⟩
theorem ca_X7_well : Cal yX7_well cX7_well 3 (Option.some Jvm.ClassFile.FieldType.int) 2 := ⟨mTB 636 w_636 rfl, mTB 85 w_85 rfl, by decide +kernel, by decide +kernel, by decide +kernel⟩
theorem ca_X7_write : Cal yX7_write cX7_write 2 (Option.some Jvm.ClassFile.FieldType.int) 1 := ⟨mTB 603 w_603 rfl, mTB 85 w_85 rfl, by decide +kernel, by decide +kernel, by decide +kernel⟩
theorem ca_X8_ahead : Cal yX8_ahead cX8_ahead 1 (Option.some Jvm.ClassFile.FieldType.int) 0 := ⟨mTB 1031 w_1031 rfl, mTB 99 w_99 rfl, by decide +kernel, by decide +kernel, by decide +kernel⟩
theorem ca_X8_ahead_ : Cal yX8_ahead_ cX8_ahead_ 6 (Option.some Jvm.ClassFile.FieldType.int) 2 := ⟨mTB 1103 w_1103 rfl, mTB 99 w_99 rfl, by decide +kernel, by decide +kernel, by decide +kernel⟩
theorem ca_X8_all : Cal yX8_all cX8_all 1 (Option.some Jvm.ClassFile.FieldType.int) 0 := ⟨mTB 998 w_998 rfl, mTB 99 w_99 rfl, by decide +kernel, by decide +kernel, by decide +kernel⟩
theorem ca_X8_bad : Cal yX8_bad cX8_bad 2 (Option.some Jvm.ClassFile.FieldType.int) 1 := ⟨mTB 973 w_973 rfl, mTB 99 w_99 rfl, by decide +kernel, by decide +kernel, by decide +kernel⟩
theorem ca_X8_brings : Cal yX8_brings cX8_brings 3 (Option.some Jvm.ClassFile.FieldType.int) 2 := ⟨mTB 990 w_990 rfl, mTB 99 w_99 rfl, by decide +kernel, by decide +kernel, by decide +kernel⟩
theorem ca_X8_bringsOf : Cal yX8_bringsOf cX8_bringsOf 2 (Option.some Jvm.ClassFile.FieldType.int) 2 := ⟨mTB 1010 w_1010 rfl, mTB 99 w_99 rfl, by decide +kernel, by decide +kernel, by decide +kernel⟩
theorem ca_X8_broughtBy : Cal yX8_broughtBy cX8_broughtBy 5 (Option.some Jvm.ClassFile.FieldType.int) 2 := ⟨mTB 1003 w_1003 rfl, mTB 99 w_99 rfl, by decide +kernel, by decide +kernel, by decide +kernel⟩
theorem ca_X8_celebrate : Cal yX8_celebrate cX8_celebrate 7 (Option.none : Option Jvm.ClassFile.FieldType) 0 := ⟨mTB 1084 w_1084 rfl, mTB 99 w_99 rfl, by decide +kernel, by decide +kernel, by decide +kernel⟩
theorem ca_X8_charAt : Cal yX8_charAt cX8_charAt 2 (Option.some Jvm.ClassFile.FieldType.int) 1 := ⟨mTB 1039 w_1039 rfl, mTB 99 w_99 rfl, by decide +kernel, by decide +kernel, by decide +kernel⟩
theorem ca_X8_count : Cal yX8_count cX8_count 2 (Option.some Jvm.ClassFile.FieldType.int) 1 := ⟨mTB 1225 w_1225 rfl, mTB 99 w_99 rfl, by decide +kernel, by decide +kernel, by decide +kernel⟩
theorem ca_X8_digest : Cal yX8_digest cX8_digest 3 (Option.some Jvm.ClassFile.FieldType.long) 0 := ⟨mTB 1229 w_1229 rfl, mTB 99 w_99 rfl, by decide +kernel, by decide +kernel, by decide +kernel⟩
theorem ca_X8_digits : Cal yX8_digits cX8_digits 4 (Option.some Jvm.ClassFile.FieldType.long) 0 := ⟨mTB 1048 w_1048 rfl, mTB 99 w_99 rfl, by decide +kernel, by decide +kernel, by decide +kernel⟩
theorem ca_X8_dispute : Cal yX8_dispute cX8_dispute 2 (Option.some Jvm.ClassFile.FieldType.long) 1 := ⟨mTB 1192 w_1192 rfl, mTB 99 w_99 rfl, by decide +kernel, by decide +kernel, by decide +kernel⟩
theorem ca_X8_disputeOf : Cal yX8_disputeOf cX8_disputeOf 5 (Option.some Jvm.ClassFile.FieldType.long) 1 := ⟨mTB 1196 w_1196 rfl, mTB 99 w_99 rfl, by decide +kernel, by decide +kernel, by decide +kernel⟩
theorem ca_X8_doubt : Cal yX8_doubt cX8_doubt 4 (Option.some Jvm.ClassFile.FieldType.int) 2 := ⟨mTB 1166 w_1166 rfl, mTB 99 w_99 rfl, by decide +kernel, by decide +kernel, by decide +kernel⟩
theorem ca_X8_erase : Cal yX8_erase cX8_erase 2 (Option.some Jvm.ClassFile.FieldType.int) 0 := ⟨mTB 1019 w_1019 rfl, mTB 99 w_99 rfl, by decide +kernel, by decide +kernel, by decide +kernel⟩
theorem ca_X8_fault : Cal yX8_fault cX8_fault 2 (Option.some Jvm.ClassFile.FieldType.int) 0 := ⟨mTB 1023 w_1023 rfl, mTB 99 w_99 rfl, by decide +kernel, by decide +kernel, by decide +kernel⟩
theorem ca_X8_faulty : Cal yX8_faulty cX8_faulty 2 (Option.some Jvm.ClassFile.FieldType.int) 1 := ⟨mTB 1115 w_1115 rfl, mTB 99 w_99 rfl, by decide +kernel, by decide +kernel, by decide +kernel⟩
theorem ca_X8_findLeast : Cal yX8_findLeast cX8_findLeast 8 (Option.none : Option Jvm.ClassFile.FieldType) 0 := ⟨mTB 1128 w_1128 rfl, mTB 99 w_99 rfl, by decide +kernel, by decide +kernel, by decide +kernel⟩
theorem ca_X8_findPrices : Cal yX8_findPrices cX8_findPrices 2 (Option.none : Option Jvm.ClassFile.FieldType) 0 := ⟨mTB 1132 w_1132 rfl, mTB 99 w_99 rfl, by decide +kernel, by decide +kernel, by decide +kernel⟩
theorem ca_X8_from : Cal yX8_from cX8_from 3 (Option.some Jvm.ClassFile.FieldType.int) 1 := ⟨mTB 1216 w_1216 rfl, mTB 99 w_99 rfl, by decide +kernel, by decide +kernel, by decide +kernel⟩
theorem ca_X8_full : Cal yX8_full cX8_full 1 (Option.some Jvm.ClassFile.FieldType.int) 0 := ⟨mTB 981 w_981 rfl, mTB 99 w_99 rfl, by decide +kernel, by decide +kernel, by decide +kernel⟩
theorem ca_X8_home : Cal yX8_home cX8_home 6 (Option.some Jvm.ClassFile.FieldType.int) 3 := ⟨mTB 1174 w_1174 rfl, mTB 99 w_99 rfl, by decide +kernel, by decide +kernel, by decide +kernel⟩
theorem ca_X8_hush : Cal yX8_hush cX8_hush 2 (Option.some Jvm.ClassFile.FieldType.int) 0 := ⟨mTB 1188 w_1188 rfl, mTB 99 w_99 rfl, by decide +kernel, by decide +kernel, by decide +kernel⟩
theorem ca_X8_image : Cal yX8_image cX8_image 3 (Option.some Jvm.ClassFile.FieldType.int) 1 := ⟨mTB 1212 w_1212 rfl, mTB 99 w_99 rfl, by decide +kernel, by decide +kernel, by decide +kernel⟩
theorem ca_X8_in : Cal yX8_in cX8_in 6 (Option.some Jvm.ClassFile.FieldType.boolean) 3 := ⟨mTB 967 w_967 rfl, mTB 99 w_99 rfl, by decide +kernel, by decide +kernel, by decide +kernel⟩
theorem ca_X8_init : Cal yX8_init cX8_init 1 (Option.none : Option Jvm.ClassFile.FieldType) 0 := ⟨mTB 876 w_876 rfl, mTB 99 w_99 rfl, by decide +kernel, by decide +kernel, by decide +kernel⟩
theorem ca_X8_isFigure : Cal yX8_isFigure cX8_isFigure 1 (Option.some Jvm.ClassFile.FieldType.boolean) 1 := ⟨mTB 1042 w_1042 rfl, mTB 99 w_99 rfl, by decide +kernel, by decide +kernel, by decide +kernel⟩
theorem ca_X8_isNext : Cal yX8_isNext cX8_isNext 4 (Option.some Jvm.ClassFile.FieldType.boolean) 2 := ⟨mTB 1145 w_1145 rfl, mTB 99 w_99 rfl, by decide +kernel, by decide +kernel, by decide +kernel⟩
theorem ca_X8_isSet : Cal yX8_isSet cX8_isSet 2 (Option.some Jvm.ClassFile.FieldType.boolean) 1 := ⟨mTB 994 w_994 rfl, mTB 99 w_99 rfl, by decide +kernel, by decide +kernel, by decide +kernel⟩
theorem ca_X8_isWalker : Cal yX8_isWalker cX8_isWalker 2 (Option.some Jvm.ClassFile.FieldType.boolean) 1 := ⟨mTB 1111 w_1111 rfl, mTB 99 w_99 rfl, by decide +kernel, by decide +kernel, by decide +kernel⟩
theorem ca_X8_isWell : Cal yX8_isWell cX8_isWell 6 (Option.some Jvm.ClassFile.FieldType.boolean) 3 := ⟨mTB 1076 w_1076 rfl, mTB 99 w_99 rfl, by decide +kernel, by decide +kernel, by decide +kernel⟩
theorem ca_X8_isWellOn : Cal yX8_isWellOn cX8_isWellOn 4 (Option.some Jvm.ClassFile.FieldType.boolean) 2 := ⟨mTB 1099 w_1099 rfl, mTB 99 w_99 rfl, by decide +kernel, by decide +kernel, by decide +kernel⟩
theorem ca_X8_layRow : Cal yX8_layRow cX8_layRow 3 (Option.some Jvm.ClassFile.FieldType.boolean) 0 := ⟨mTB 1124 w_1124 rfl, mTB 99 w_99 rfl, by decide +kernel, by decide +kernel, by decide +kernel⟩
theorem ca_X8_least : Cal yX8_least cX8_least 2 (Option.some Jvm.ClassFile.FieldType.int) 1 := ⟨mTB 1119 w_1119 rfl, mTB 99 w_99 rfl, by decide +kernel, by decide +kernel, by decide +kernel⟩
theorem ca_X8_letterOf : Cal yX8_letterOf cX8_letterOf 1 (Option.some Jvm.ClassFile.FieldType.int) 1 := ⟨mTB 1056 w_1056 rfl, mTB 99 w_99 rfl, by decide +kernel, by decide +kernel, by decide +kernel⟩
theorem ca_X8_lied : Cal yX8_lied cX8_lied 6 (Option.some Jvm.ClassFile.FieldType.int) 1 := ⟨mTB 1204 w_1204 rfl, mTB 99 w_99 rfl, by decide +kernel, by decide +kernel, by decide +kernel⟩
theorem ca_X8_manyIn : Cal yX8_manyIn cX8_manyIn 3 (Option.some Jvm.ClassFile.FieldType.int) 1 := ⟨mTB 1095 w_1095 rfl, mTB 99 w_99 rfl, by decide +kernel, by decide +kernel, by decide +kernel⟩
theorem ca_X8_mayGo : Cal yX8_mayGo cX8_mayGo 3 (Option.some Jvm.ClassFile.FieldType.boolean) 2 := ⟨mTB 1137 w_1137 rfl, mTB 99 w_99 rfl, by decide +kernel, by decide +kernel, by decide +kernel⟩
theorem ca_X8_mayStep : Cal yX8_mayStep cX8_mayStep 5 (Option.some Jvm.ClassFile.FieldType.int) 1 := ⟨mTB 1092 w_1092 rfl, mTB 99 w_99 rfl, by decide +kernel, by decide +kernel, by decide +kernel⟩
theorem ca_X8_no : Cal yX8_no cX8_no 1 (Option.some Jvm.ClassFile.FieldType.int) 0 := ⟨mTB 1158 w_1158 rfl, mTB 99 w_99 rfl, by decide +kernel, by decide +kernel, by decide +kernel⟩
theorem ca_X8_odd : Cal yX8_odd cX8_odd 10 (Option.some Jvm.ClassFile.FieldType.int) 1 := ⟨mTB 1170 w_1170 rfl, mTB 99 w_99 rfl, by decide +kernel, by decide +kernel, by decide +kernel⟩
theorem ca_X8_of : Cal yX8_of cX8_of 3 (Option.some Jvm.ClassFile.FieldType.int) 2 := ⟨mTB 1007 w_1007 rfl, mTB 99 w_99 rfl, by decide +kernel, by decide +kernel, by decide +kernel⟩
theorem ca_X8_on : Cal yX8_on cX8_on 2 (Option.some Jvm.ClassFile.FieldType.int) 1 := ⟨mTB 1080 w_1080 rfl, mTB 99 w_99 rfl, by decide +kernel, by decide +kernel, by decide +kernel⟩
theorem ca_X8_onBy : Cal yX8_onBy cX8_onBy 6 (Option.some Jvm.ClassFile.FieldType.int) 2 := ⟨mTB 1200 w_1200 rfl, mTB 99 w_99 rfl, by decide +kernel, by decide +kernel, by decide +kernel⟩
theorem ca_X8_onNow : Cal yX8_onNow cX8_onNow 3 (Option.some Jvm.ClassFile.FieldType.int) 0 := ⟨mTB 1088 w_1088 rfl, mTB 99 w_99 rfl, by decide +kernel, by decide +kernel, by decide +kernel⟩
theorem ca_X8_part : Cal yX8_part cX8_part 2 (Option.some Jvm.ClassFile.FieldType.long) 1 := ⟨mTB 1208 w_1208 rfl, mTB 99 w_99 rfl, by decide +kernel, by decide +kernel, by decide +kernel⟩
theorem ca_X8_put : Cal yX8_put cX8_put 4 (Option.some Jvm.ClassFile.FieldType.int) 2 := ⟨mTB 985 w_985 rfl, mTB 99 w_99 rfl, by decide +kernel, by decide +kernel, by decide +kernel⟩
theorem ca_X8_rank : Cal yX8_rank cX8_rank 1 (Option.some Jvm.ClassFile.FieldType.int) 1 := ⟨mTB 1063 w_1063 rfl, mTB 99 w_99 rfl, by decide +kernel, by decide +kernel, by decide +kernel⟩
theorem ca_X8_reads : Cal yX8_reads cX8_reads 5 (Option.some Jvm.ClassFile.FieldType.boolean) 0 := ⟨mTB 1027 w_1027 rfl, mTB 99 w_99 rfl, by decide +kernel, by decide +kernel, by decide +kernel⟩
theorem ca_X8_row : Cal yX8_row cX8_row 2 (Option.some Jvm.ClassFile.FieldType.int) 1 := ⟨mTB 1149 w_1149 rfl, mTB 99 w_99 rfl, by decide +kernel, by decide +kernel, by decide +kernel⟩
theorem ca_X8_said : Cal yX8_said cX8_said 1 (Option.some Jvm.ClassFile.FieldType.int) 0 := ⟨mTB 1184 w_1184 rfl, mTB 99 w_99 rfl, by decide +kernel, by decide +kernel, by decide +kernel⟩
theorem ca_X8_say : Cal yX8_say cX8_say 5 (Option.some Jvm.ClassFile.FieldType.int) 3 := ⟨mTB 1179 w_1179 rfl, mTB 99 w_99 rfl, by decide +kernel, by decide +kernel, by decide +kernel⟩
theorem ca_X8_stands : Cal yX8_stands cX8_stands 5 (Option.none : Option Jvm.ClassFile.FieldType) 1 := ⟨mTB 1053 w_1053 rfl, mTB 99 w_99 rfl, by decide +kernel, by decide +kernel, by decide +kernel⟩
theorem ca_X8_status : Cal yX8_status cX8_status 2 (Option.some Jvm.ClassFile.FieldType.int) 1 := ⟨mTB 1220 w_1220 rfl, mTB 99 w_99 rfl, by decide +kernel, by decide +kernel, by decide +kernel⟩
theorem ca_X8_stepped : Cal yX8_stepped cX8_stepped 3 (Option.some Jvm.ClassFile.FieldType.int) 2 := ⟨mTB 1107 w_1107 rfl, mTB 99 w_99 rfl, by decide +kernel, by decide +kernel, by decide +kernel⟩
theorem ca_X8_sums : Cal yX8_sums cX8_sums 8 (Option.some Jvm.ClassFile.FieldType.long) 3 := ⟨mTB 1235 w_1235 rfl, mTB 99 w_99 rfl, by decide +kernel, by decide +kernel, by decide +kernel⟩
theorem ca_X8_tells : Cal yX8_tells cX8_tells 11 (Option.some Jvm.ClassFile.FieldType.int) 2 := ⟨mTB 1162 w_1162 rfl, mTB 99 w_99 rfl, by decide +kernel, by decide +kernel, by decide +kernel⟩
theorem ca_X8_textLong : Cal yX8_textLong cX8_textLong 1 (Option.some Jvm.ClassFile.FieldType.int) 0 := ⟨mTB 1035 w_1035 rfl, mTB 99 w_99 rfl, by decide +kernel, by decide +kernel, by decide +kernel⟩
theorem ca_X8_timeOf : Cal yX8_timeOf cX8_timeOf 4 (Option.some Jvm.ClassFile.FieldType.int) 1 := ⟨mTB 1141 w_1141 rfl, mTB 99 w_99 rfl, by decide +kernel, by decide +kernel, by decide +kernel⟩
theorem ca_X8_toll : Cal yX8_toll cX8_toll 13 (Option.some Jvm.ClassFile.FieldType.int) 2 := ⟨mTB 1153 w_1153 rfl, mTB 99 w_99 rfl, by decide +kernel, by decide +kernel, by decide +kernel⟩
theorem ca_X8_walker : Cal yX8_walker cX8_walker 5 (Option.some Jvm.ClassFile.FieldType.int) 3 := ⟨mTB 963 w_963 rfl, mTB 99 w_99 rfl, by decide +kernel, by decide +kernel, by decide +kernel⟩
theorem ca_X8_walkers : Cal yX8_walkers cX8_walkers 1 (Option.some Jvm.ClassFile.FieldType.int) 0 := ⟨mTB 977 w_977 rfl, mTB 99 w_99 rfl, by decide +kernel, by decide +kernel, by decide +kernel⟩
theorem ca_X8_well : Cal yX8_well cX8_well 3 (Option.some Jvm.ClassFile.FieldType.int) 2 := ⟨mTB 1071 w_1071 rfl, mTB 99 w_99 rfl, by decide +kernel, by decide +kernel, by decide +kernel⟩
theorem ca_X8_workDown : Cal yX8_workDown cX8_workDown 2 (Option.none : Option Jvm.ClassFile.FieldType) 1 := ⟨mTB 1060 w_1060 rfl, mTB 99 w_99 rfl, by decide +kernel, by decide +kernel, by decide +kernel⟩
theorem ca_X8_workOut : Cal yX8_workOut cX8_workOut 7 (Option.none : Option Jvm.ClassFile.FieldType) 0 := ⟨mTB 1067 w_1067 rfl, mTB 99 w_99 rfl, by decide +kernel, by decide +kernel, by decide +kernel⟩
theorem ca_X8_write : Cal yX8_write cX8_write 2 (Option.some Jvm.ClassFile.FieldType.int) 1 := ⟨mTB 1014 w_1014 rfl, mTB 99 w_99 rfl, by decide +kernel, by decide +kernel, by decide +kernel⟩
theorem st_X7_fewestHome : Cond.static yX7_fewestHome ∈ TBW := mTB 785 w_785 rfl
theorem st_X7_holds : Cond.static yX7_holds ∈ TBW := mTB 629 w_629 rfl
theorem st_X7_isSetOf : Cond.static yX7_isSetOf ∈ TBW := mTB 622 w_622 rfl
theorem st_X7_isWithin : Cond.static yX7_isWithin ∈ TBW := mTB 578 w_578 rfl
theorem st_X2_commonDivisor : Cond.static yX2_commonDivisor ∈ TBW := mTB 763 w_763 rfl
theorem st_X6_isDigit : Cond.static yX6_isDigit ∈ TBW := mTB 316 w_316 rfl
theorem st_X6_work : Cond.static yX6_work ∈ TBW := mTB 662 w_662 rfl
theorem st_X8_bringsOf : Cond.static yX8_bringsOf ∈ TBW := mTB 1009 w_1009 rfl
theorem st_X8_in : Cond.static yX8_in ∈ TBW := mTB 966 w_966 rfl
theorem st_X8_isFigure : Cond.static yX8_isFigure ∈ TBW := mTB 1041 w_1041 rfl
theorem st_X8_letterOf : Cond.static yX8_letterOf ∈ TBW := mTB 1055 w_1055 rfl
theorem st_X8_manyIn : Cond.static yX8_manyIn ∈ TBW := mTB 1094 w_1094 rfl
theorem st_X8_rank : Cond.static yX8_rank ∈ TBW := mTB 1062 w_1062 rfl
theorem st_J6_bitCount_0f7a4 : Cond.static yJ6_bitCount_0f7a4 ∈ TBW := mTB 690 w_690 rfl
theorem st_J1_canEncode_9a6ad : Cond.static yJ1_canEncode_9a6ad ∈ TBW := mTB 251 w_251 rfl
theorem st_J1_indexOf_4cfef : Cond.static yJ1_indexOf_4cfef ∈ TBW := mTB 248 w_248 rfl
theorem st_J1_indexOfChar_4cfef : Cond.static yJ1_indexOfChar_4cfef ∈ TBW := mTB 260 w_260 rfl
theorem st_J7_fill_53178 : Cond.static yJ7_fill_53178 ∈ TBW := mTB 674 w_674 rfl
theorem st_J7_fill_d0a16 : Cond.static yJ7_fill_d0a16 ∈ TBW := mTB 642 w_642 rfl
theorem vi_X7_brings : Cond.instanceMethod yX7_brings ∈ TBW ∧ Cond.selects yX7_brings.cls yX7_brings yX7_brings ∈ TBW := ⟨mTB 618 w_618 rfl, mTB 619 w_619 rfl⟩
theorem vi_X7_count : Cond.instanceMethod yX7_count ∈ TBW ∧ Cond.selects yX7_count.cls yX7_count yX7_count ∈ TBW := ⟨mTB 858 w_858 rfl, mTB 859 w_859 rfl⟩
theorem vi_X7_digest : Cond.instanceMethod yX7_digest ∈ TBW ∧ Cond.selects yX7_digest.cls yX7_digest yX7_digest ∈ TBW := ⟨mTB 862 w_862 rfl, mTB 863 w_863 rfl⟩
theorem vi_X7_dispute : Cond.instanceMethod yX7_dispute ∈ TBW ∧ Cond.selects yX7_dispute.cls yX7_dispute yX7_dispute ∈ TBW := ⟨mTB 800 w_800 rfl, mTB 801 w_801 rfl⟩
theorem vi_X7_doubt : Cond.instanceMethod yX7_doubt ∈ TBW ∧ Cond.selects yX7_doubt.cls yX7_doubt yX7_doubt ∈ TBW := ⟨mTB 766 w_766 rfl, mTB 767 w_767 rfl⟩
theorem vi_X7_erase : Cond.instanceMethod yX7_erase ∈ TBW ∧ Cond.selects yX7_erase.cls yX7_erase yX7_erase ∈ TBW := ⟨mTB 610 w_610 rfl, mTB 611 w_611 rfl⟩
theorem vi_X7_fault : Cond.instanceMethod yX7_fault ∈ TBW ∧ Cond.selects yX7_fault.cls yX7_fault yX7_fault ∈ TBW := ⟨mTB 614 w_614 rfl, mTB 615 w_615 rfl⟩
theorem vi_X7_faulty : Cond.instanceMethod yX7_faulty ∈ TBW ∧ Cond.selects yX7_faulty.cls yX7_faulty yX7_faulty ∈ TBW := ⟨mTB 709 w_709 rfl, mTB 710 w_710 rfl⟩
theorem vi_X7_forgetWhatFollows : Cond.instanceMethod yX7_forgetWhatFollows ∈ TBW ∧ Cond.selects yX7_forgetWhatFollows.cls yX7_forgetWhatFollows yX7_forgetWhatFollows ∈ TBW := ⟨mTB 594 w_594 rfl, mTB 18 w_18 rfl⟩
theorem vi_X7_from : Cond.instanceMethod yX7_from ∈ TBW ∧ Cond.selects yX7_from.cls yX7_from yX7_from ∈ TBW := ⟨mTB 850 w_850 rfl, mTB 851 w_851 rfl⟩
theorem vi_X7_home : Cond.instanceMethod yX7_home ∈ TBW ∧ Cond.selects yX7_home.cls yX7_home yX7_home ∈ TBW := ⟨mTB 776 w_776 rfl, mTB 777 w_777 rfl⟩
theorem vi_X7_hush : Cond.instanceMethod yX7_hush ∈ TBW ∧ Cond.selects yX7_hush.cls yX7_hush yX7_hush ∈ TBW := ⟨mTB 796 w_796 rfl, mTB 797 w_797 rfl⟩
theorem vi_X7_image : Cond.instanceMethod yX7_image ∈ TBW ∧ Cond.selects yX7_image.cls yX7_image yX7_image ∈ TBW := ⟨mTB 835 w_835 rfl, mTB 836 w_836 rfl⟩
theorem vi_X7_imageAt : Cond.instanceMethod yX7_imageAt ∈ TBW ∧ Cond.selects yX7_imageAt.cls yX7_imageAt yX7_imageAt ∈ TBW := ⟨mTB 840 w_840 rfl, mTB 47 w_47 rfl⟩
theorem vi_X7_isWalker : Cond.instanceMethod yX7_isWalker ∈ TBW ∧ Cond.selects yX7_isWalker.cls yX7_isWalker yX7_isWalker ∈ TBW := ⟨mTB 706 w_706 rfl, mTB 31 w_31 rfl⟩
theorem vi_X7_least : Cond.instanceMethod yX7_least ∈ TBW ∧ Cond.selects yX7_least.cls yX7_least yX7_least ∈ TBW := ⟨mTB 713 w_713 rfl, mTB 714 w_714 rfl⟩
theorem vi_X7_lied : Cond.instanceMethod yX7_lied ∈ TBW ∧ Cond.selects yX7_lied.cls yX7_lied yX7_lied ∈ TBW := ⟨mTB 814 w_814 rfl, mTB 815 w_815 rfl⟩
theorem vi_X7_odd : Cond.instanceMethod yX7_odd ∈ TBW ∧ Cond.selects yX7_odd.cls yX7_odd yX7_odd ∈ TBW := ⟨mTB 770 w_770 rfl, mTB 771 w_771 rfl⟩
theorem vi_X7_on : Cond.instanceMethod yX7_on ∈ TBW ∧ Cond.selects yX7_on.cls yX7_on yX7_on ∈ TBW := ⟨mTB 666 w_666 rfl, mTB 667 w_667 rfl⟩
theorem vi_X7_part : Cond.instanceMethod yX7_part ∈ TBW ∧ Cond.selects yX7_part.cls yX7_part yX7_part ∈ TBW := ⟨mTB 831 w_831 rfl, mTB 832 w_832 rfl⟩
theorem vi_X7_put : Cond.instanceMethod yX7_put ∈ TBW ∧ Cond.selects yX7_put.cls yX7_put yX7_put ∈ TBW := ⟨mTB 597 w_597 rfl, mTB 598 w_598 rfl⟩
theorem vi_X7_refuseAsBad : Cond.instanceMethod yX7_refuseAsBad ∈ TBW ∧ Cond.selects yX7_refuseAsBad.cls yX7_refuseAsBad yX7_refuseAsBad ∈ TBW := ⟨mTB 582 w_582 rfl, mTB 15 w_15 rfl⟩
theorem vi_X7_refuseAsFull : Cond.instanceMethod yX7_refuseAsFull ∈ TBW ∧ Cond.selects yX7_refuseAsFull.cls yX7_refuseAsFull yX7_refuseAsFull ∈ TBW := ⟨mTB 586 w_586 rfl, mTB 16 w_16 rfl⟩
theorem vi_X7_refuseAsNo : Cond.instanceMethod yX7_refuseAsNo ∈ TBW ∧ Cond.selects yX7_refuseAsNo.cls yX7_refuseAsNo yX7_refuseAsNo ∈ TBW := ⟨mTB 750 w_750 rfl, mTB 37 w_37 rfl⟩
theorem vi_X7_row : Cond.instanceMethod yX7_row ∈ TBW ∧ Cond.selects yX7_row.cls yX7_row yX7_row ∈ TBW := ⟨mTB 741 w_741 rfl, mTB 742 w_742 rfl⟩
theorem vi_X7_say : Cond.instanceMethod yX7_say ∈ TBW ∧ Cond.selects yX7_say.cls yX7_say yX7_say ∈ TBW := ⟨mTB 788 w_788 rfl, mTB 789 w_789 rfl⟩
theorem vi_X7_spreadStops : Cond.instanceMethod yX7_spreadStops ∈ TBW ∧ Cond.selects yX7_spreadStops.cls yX7_spreadStops yX7_spreadStops ∈ TBW := ⟨mTB 754 w_754 rfl, mTB 38 w_38 rfl⟩
theorem vi_X7_status : Cond.instanceMethod yX7_status ∈ TBW ∧ Cond.selects yX7_status.cls yX7_status yX7_status ∈ TBW := ⟨mTB 854 w_854 rfl, mTB 855 w_855 rfl⟩
theorem vi_X7_stepped : Cond.instanceMethod yX7_stepped ∈ TBW ∧ Cond.selects yX7_stepped.cls yX7_stepped yX7_stepped ∈ TBW := ⟨mTB 701 w_701 rfl, mTB 702 w_702 rfl⟩
theorem vi_X7_toll : Cond.instanceMethod yX7_toll ∈ TBW ∧ Cond.selects yX7_toll.cls yX7_toll yX7_toll ∈ TBW := ⟨mTB 745 w_745 rfl, mTB 746 w_746 rfl⟩
theorem vi_X7_walker : Cond.instanceMethod yX7_walker ∈ TBW ∧ Cond.selects yX7_walker.cls yX7_walker yX7_walker ∈ TBW := ⟨mTB 574 w_574 rfl, mTB 575 w_575 rfl⟩
theorem vi_X7_waysHome : Cond.instanceMethod yX7_waysHome ∈ TBW ∧ Cond.selects yX7_waysHome.cls yX7_waysHome yX7_waysHome ∈ TBW := ⟨mTB 781 w_781 rfl, mTB 40 w_40 rfl⟩
theorem vi_X7_well : Cond.instanceMethod yX7_well ∈ TBW ∧ Cond.selects yX7_well.cls yX7_well yX7_well ∈ TBW := ⟨mTB 634 w_634 rfl, mTB 635 w_635 rfl⟩
theorem vi_X7_write : Cond.instanceMethod yX7_write ∈ TBW ∧ Cond.selects yX7_write.cls yX7_write yX7_write ∈ TBW := ⟨mTB 601 w_601 rfl, mTB 602 w_602 rfl⟩
theorem vi_X0_lineUp : Cond.instanceMethod yX0_lineUp ∈ TBW ∧ Cond.selects yX0_lineUp.cls yX0_lineUp yX0_lineUp ∈ TBW := ⟨mTB 738 w_738 rfl, mTB 36 w_36 rfl⟩
theorem vi_X0_lookAtCompany : Cond.instanceMethod yX0_lookAtCompany ∈ TBW ∧ Cond.selects yX0_lookAtCompany.cls yX0_lookAtCompany yX0_lookAtCompany ∈ TBW := ⟨mTB 722 w_722 rfl, mTB 33 w_33 rfl⟩
theorem vi_X0_lookAtLeft : Cond.instanceMethod yX0_lookAtLeft ∈ TBW ∧ Cond.selects yX0_lookAtLeft.cls yX0_lookAtLeft yX0_lookAtLeft ∈ TBW := ⟨mTB 730 w_730 rfl, mTB 34 w_34 rfl⟩
theorem vi_X0_plan : Cond.instanceMethod yX0_plan ∈ TBW ∧ Cond.selects yX0_plan.cls yX0_plan yX0_plan ∈ TBW := ⟨mTB 718 w_718 rfl, mTB 32 w_32 rfl⟩
theorem vi_X0_tryFirst : Cond.instanceMethod yX0_tryFirst ∈ TBW ∧ Cond.selects yX0_tryFirst.cls yX0_tryFirst yX0_tryFirst ∈ TBW := ⟨mTB 734 w_734 rfl, mTB 35 w_35 rfl⟩
theorem vi_X1_aheadOfWall : Cond.instanceMethod yX1_aheadOfWall ∈ TBW ∧ Cond.selects yX1_aheadOfWall.cls yX1_aheadOfWall yX1_aheadOfWall ∈ TBW := ⟨mTB 687 w_687 rfl, mTB 29 w_29 rfl⟩
theorem vi_X1_bestSteps : Cond.instanceMethod yX1_bestSteps ∈ TBW ∧ Cond.selects yX1_bestSteps.cls yX1_bestSteps yX1_bestSteps ∈ TBW := ⟨mTB 678 w_678 rfl, mTB 27 w_27 rfl⟩
theorem vi_X1_goThrough : Cond.instanceMethod yX1_goThrough ∈ TBW ∧ Cond.selects yX1_goThrough.cls yX1_goThrough yX1_goThrough ∈ TBW := ⟨mTB 671 w_671 rfl, mTB 26 w_26 rfl⟩
theorem vi_X1_mayStep : Cond.instanceMethod yX1_mayStep ∈ TBW ∧ Cond.selects yX1_mayStep.cls yX1_mayStep yX1_mayStep ∈ TBW := ⟨mTB 682 w_682 rfl, mTB 28 w_28 rfl⟩
theorem vi_X1_step : Cond.instanceMethod yX1_step ∈ TBW ∧ Cond.selects yX1_step.cls yX1_step yX1_step ∈ TBW := ⟨mTB 698 w_698 rfl, mTB 30 w_30 rfl⟩
theorem vi_X2_become : Cond.instanceMethod yX2_become ∈ TBW ∧ Cond.selects yX2_become.cls yX2_become yX2_become ∈ TBW := ⟨mTB 760 w_760 rfl, mTB 39 w_39 rfl⟩
theorem vi_X3_allWellBut : Cond.instanceMethod yX3_allWellBut ∈ TBW ∧ Cond.selects yX3_allWellBut.cls yX3_allWellBut yX3_allWellBut ∈ TBW := ⟨mTB 823 w_823 rfl, mTB 45 w_45 rfl⟩
theorem vi_X3_eachAlone : Cond.instanceMethod yX3_eachAlone ∈ TBW ∧ Cond.selects yX3_eachAlone.cls yX3_eachAlone yX3_eachAlone ∈ TBW := ⟨mTB 819 w_819 rfl, mTB 44 w_44 rfl⟩
theorem vi_X3_fewestLiars : Cond.instanceMethod yX3_fewestLiars ∈ TBW ∧ Cond.selects yX3_fewestLiars.cls yX3_fewestLiars yX3_fewestLiars ∈ TBW := ⟨mTB 827 w_827 rfl, mTB 46 w_46 rfl⟩
theorem vi_X3_minutesUnwell : Cond.instanceMethod yX3_minutesUnwell ∈ TBW ∧ Cond.selects yX3_minutesUnwell.cls yX3_minutesUnwell yX3_minutesUnwell ∈ TBW := ⟨mTB 805 w_805 rfl, mTB 42 w_42 rfl⟩
theorem vi_X3_onBut : Cond.instanceMethod yX3_onBut ∈ TBW ∧ Cond.selects yX3_onBut.cls yX3_onBut yX3_onBut ∈ TBW := ⟨mTB 809 w_809 rfl, mTB 43 w_43 rfl⟩
theorem vi_X4_isOdd : Cond.instanceMethod yX4_isOdd ∈ TBW ∧ Cond.selects yX4_isOdd.cls yX4_isOdd yX4_isOdd ∈ TBW := ⟨mTB 646 w_646 rfl, mTB 22 w_22 rfl⟩
theorem vi_X4_isWell : Cond.instanceMethod yX4_isWell ∈ TBW ∧ Cond.selects yX4_isWell.cls yX4_isWell yX4_isWell ∈ TBW := ⟨mTB 639 w_639 rfl, mTB 21 w_21 rfl⟩
theorem vi_X5_addLetter : Cond.instanceMethod yX5_addLetter ∈ TBW ∧ Cond.selects yX5_addLetter.cls yX5_addLetter yX5_addLetter ∈ TBW := ⟨mTB 606 w_606 rfl, mTB 19 w_19 rfl⟩
theorem vi_X5_addSaid : Cond.instanceMethod yX5_addSaid ∈ TBW ∧ Cond.selects yX5_addSaid.cls yX5_addSaid yX5_addSaid ∈ TBW := ⟨mTB 793 w_793 rfl, mTB 41 w_41 rfl⟩
theorem vi_X5_addWalker : Cond.instanceMethod yX5_addWalker ∈ TBW ∧ Cond.selects yX5_addWalker.cls yX5_addWalker yX5_addWalker ∈ TBW := ⟨mTB 590 w_590 rfl, mTB 17 w_17 rfl⟩
theorem vi_X5_addedTo : Cond.instanceMethod yX5_addedTo ∈ TBW ∧ Cond.selects yX5_addedTo.cls yX5_addedTo yX5_addedTo ∈ TBW := ⟨mTB 868 w_868 rfl, mTB 49 w_49 rfl⟩
theorem vi_X5_become : Cond.instanceMethod yX5_become ∈ TBW ∧ Cond.selects yX5_become.cls yX5_become yX5_become ∈ TBW := ⟨mTB 844 w_844 rfl, mTB 48 w_48 rfl⟩
theorem vi_X5_sumBrought : Cond.instanceMethod yX5_sumBrought ∈ TBW ∧ Cond.selects yX5_sumBrought.cls yX5_sumBrought yX5_sumBrought ∈ TBW := ⟨mTB 626 w_626 rfl, mTB 20 w_20 rfl⟩
theorem vi_X6_addSign : Cond.instanceMethod yX6_addSign ∈ TBW ∧ Cond.selects yX6_addSign.cls yX6_addSign yX6_addSign ∈ TBW := ⟨mTB 328 w_328 rfl, mTB 13 w_13 rfl⟩
theorem vi_X6_nextSign : Cond.instanceMethod yX6_nextSign ∈ TBW ∧ Cond.selects yX6_nextSign.cls yX6_nextSign yX6_nextSign ∈ TBW := ⟨mTB 219 w_219 rfl, mTB 8 w_8 rfl⟩
theorem vi_X6_pop : Cond.instanceMethod yX6_pop ∈ TBW ∧ Cond.selects yX6_pop.cls yX6_pop yX6_pop ∈ TBW := ⟨mTB 659 w_659 rfl, mTB 25 w_25 rfl⟩
theorem vi_X6_push : Cond.instanceMethod yX6_push ∈ TBW ∧ Cond.selects yX6_push.cls yX6_push yX6_push ∈ TBW := ⟨mTB 655 w_655 rfl, mTB 24 w_24 rfl⟩
theorem vi_X6_read : Cond.instanceMethod yX6_read ∈ TBW ∧ Cond.selects yX6_read.cls yX6_read yX6_read ∈ TBW := ⟨mTB 186 w_186 rfl, mTB 0 w_0 rfl⟩
theorem vi_X6_readBareUnit : Cond.instanceMethod yX6_readBareUnit ∈ TBW ∧ Cond.selects yX6_readBareUnit.cls yX6_readBareUnit yX6_readBareUnit ∈ TBW := ⟨mTB 313 w_313 rfl, mTB 10 w_10 rfl⟩
theorem vi_X6_readBoth : Cond.instanceMethod yX6_readBoth ∈ TBW ∧ Cond.selects yX6_readBoth.cls yX6_readBoth yX6_readBoth ∈ TBW := ⟨mTB 194 w_194 rfl, mTB 2 w_2 rfl⟩
theorem vi_X6_readDigits : Cond.instanceMethod yX6_readDigits ∈ TBW ∧ Cond.selects yX6_readDigits.cls yX6_readDigits yX6_readDigits ∈ TBW := ⟨mTB 320 w_320 rfl, mTB 11 w_11 rfl⟩
theorem vi_X6_readHeld : Cond.instanceMethod yX6_readHeld ∈ TBW ∧ Cond.selects yX6_readHeld.cls yX6_readHeld yX6_readHeld ∈ TBW := ⟨mTB 198 w_198 rfl, mTB 3 w_3 rfl⟩
theorem vi_X6_readOpened : Cond.instanceMethod yX6_readOpened ∈ TBW ∧ Cond.selects yX6_readOpened.cls yX6_readOpened yX6_readOpened ∈ TBW := ⟨mTB 332 w_332 rfl, mTB 14 w_14 rfl⟩
theorem vi_X6_readSum : Cond.instanceMethod yX6_readSum ∈ TBW ∧ Cond.selects yX6_readSum.cls yX6_readSum yX6_readSum ∈ TBW := ⟨mTB 202 w_202 rfl, mTB 4 w_4 rfl⟩
theorem vi_X6_readTerm : Cond.instanceMethod yX6_readTerm ∈ TBW ∧ Cond.selects yX6_readTerm.cls yX6_readTerm yX6_readTerm ∈ TBW := ⟨mTB 206 w_206 rfl, mTB 5 w_5 rfl⟩
theorem vi_X6_readUnit : Cond.instanceMethod yX6_readUnit ∈ TBW ∧ Cond.selects yX6_readUnit.cls yX6_readUnit yX6_readUnit ∈ TBW := ⟨mTB 210 w_210 rfl, mTB 6 w_6 rfl⟩
theorem vi_X6_readValue : Cond.instanceMethod yX6_readValue ∈ TBW ∧ Cond.selects yX6_readValue.cls yX6_readValue yX6_readValue ∈ TBW := ⟨mTB 190 w_190 rfl, mTB 1 w_1 rfl⟩
theorem vi_X6_setFlaw : Cond.instanceMethod yX6_setFlaw ∈ TBW ∧ Cond.selects yX6_setFlaw.cls yX6_setFlaw yX6_setFlaw ∈ TBW := ⟨mTB 324 w_324 rfl, mTB 12 w_12 rfl⟩
theorem vi_X6_signAt : Cond.instanceMethod yX6_signAt ∈ TBW ∧ Cond.selects yX6_signAt.cls yX6_signAt yX6_signAt ∈ TBW := ⟨mTB 223 w_223 rfl, mTB 9 w_9 rfl⟩
theorem vi_X6_take : Cond.instanceMethod yX6_take ∈ TBW ∧ Cond.selects yX6_take.cls yX6_take yX6_take ∈ TBW := ⟨mTB 215 w_215 rfl, mTB 7 w_7 rfl⟩
theorem vi_X6_value : Cond.instanceMethod yX6_value ∈ TBW ∧ Cond.selects yX6_value.cls yX6_value yX6_value ∈ TBW := ⟨mTB 651 w_651 rfl, mTB 23 w_23 rfl⟩
theorem vi_X8_ahead : Cond.instanceMethod yX8_ahead ∈ TBW ∧ Cond.selects yX8_ahead.cls yX8_ahead yX8_ahead ∈ TBW := ⟨mTB 1030 w_1030 rfl, mTB 58 w_58 rfl⟩
theorem vi_X8_ahead_ : Cond.instanceMethod yX8_ahead_ ∈ TBW ∧ Cond.selects yX8_ahead_.cls yX8_ahead_ yX8_ahead_ ∈ TBW := ⟨mTB 1102 w_1102 rfl, mTB 70 w_70 rfl⟩
theorem vi_X8_all : Cond.instanceMethod yX8_all ∈ TBW ∧ Cond.selects yX8_all.cls yX8_all yX8_all ∈ TBW := ⟨mTB 997 w_997 rfl, mTB 54 w_54 rfl⟩
theorem vi_X8_bad : Cond.instanceMethod yX8_bad ∈ TBW ∧ Cond.selects yX8_bad.cls yX8_bad yX8_bad ∈ TBW := ⟨mTB 972 w_972 rfl, mTB 50 w_50 rfl⟩
theorem vi_X8_brings : Cond.instanceMethod yX8_brings ∈ TBW ∧ Cond.selects yX8_brings.cls yX8_brings yX8_brings ∈ TBW := ⟨mTB 988 w_988 rfl, mTB 989 w_989 rfl⟩
theorem vi_X8_broughtBy : Cond.instanceMethod yX8_broughtBy ∈ TBW ∧ Cond.selects yX8_broughtBy.cls yX8_broughtBy yX8_broughtBy ∈ TBW := ⟨mTB 1002 w_1002 rfl, mTB 55 w_55 rfl⟩
theorem vi_X8_celebrate : Cond.instanceMethod yX8_celebrate ∈ TBW ∧ Cond.selects yX8_celebrate.cls yX8_celebrate yX8_celebrate ∈ TBW := ⟨mTB 1083 w_1083 rfl, mTB 66 w_66 rfl⟩
theorem vi_X8_charAt : Cond.instanceMethod yX8_charAt ∈ TBW ∧ Cond.selects yX8_charAt.cls yX8_charAt yX8_charAt ∈ TBW := ⟨mTB 1038 w_1038 rfl, mTB 60 w_60 rfl⟩
theorem vi_X8_count : Cond.instanceMethod yX8_count ∈ TBW ∧ Cond.selects yX8_count.cls yX8_count yX8_count ∈ TBW := ⟨mTB 1223 w_1223 rfl, mTB 1224 w_1224 rfl⟩
theorem vi_X8_digest : Cond.instanceMethod yX8_digest ∈ TBW ∧ Cond.selects yX8_digest.cls yX8_digest yX8_digest ∈ TBW := ⟨mTB 1227 w_1227 rfl, mTB 1228 w_1228 rfl⟩
theorem vi_X8_digits : Cond.instanceMethod yX8_digits ∈ TBW ∧ Cond.selects yX8_digits.cls yX8_digits yX8_digits ∈ TBW := ⟨mTB 1047 w_1047 rfl, mTB 61 w_61 rfl⟩
theorem vi_X8_dispute : Cond.instanceMethod yX8_dispute ∈ TBW ∧ Cond.selects yX8_dispute.cls yX8_dispute yX8_dispute ∈ TBW := ⟨mTB 1190 w_1190 rfl, mTB 1191 w_1191 rfl⟩
theorem vi_X8_disputeOf : Cond.instanceMethod yX8_disputeOf ∈ TBW ∧ Cond.selects yX8_disputeOf.cls yX8_disputeOf yX8_disputeOf ∈ TBW := ⟨mTB 1195 w_1195 rfl, mTB 81 w_81 rfl⟩
theorem vi_X8_doubt : Cond.instanceMethod yX8_doubt ∈ TBW ∧ Cond.selects yX8_doubt.cls yX8_doubt yX8_doubt ∈ TBW := ⟨mTB 1164 w_1164 rfl, mTB 1165 w_1165 rfl⟩
theorem vi_X8_erase : Cond.instanceMethod yX8_erase ∈ TBW ∧ Cond.selects yX8_erase.cls yX8_erase yX8_erase ∈ TBW := ⟨mTB 1017 w_1017 rfl, mTB 1018 w_1018 rfl⟩
theorem vi_X8_fault : Cond.instanceMethod yX8_fault ∈ TBW ∧ Cond.selects yX8_fault.cls yX8_fault yX8_fault ∈ TBW := ⟨mTB 1021 w_1021 rfl, mTB 1022 w_1022 rfl⟩
theorem vi_X8_faulty : Cond.instanceMethod yX8_faulty ∈ TBW ∧ Cond.selects yX8_faulty.cls yX8_faulty yX8_faulty ∈ TBW := ⟨mTB 1113 w_1113 rfl, mTB 1114 w_1114 rfl⟩
theorem vi_X8_findLeast : Cond.instanceMethod yX8_findLeast ∈ TBW ∧ Cond.selects yX8_findLeast.cls yX8_findLeast yX8_findLeast ∈ TBW := ⟨mTB 1127 w_1127 rfl, mTB 73 w_73 rfl⟩
theorem vi_X8_findPrices : Cond.instanceMethod yX8_findPrices ∈ TBW ∧ Cond.selects yX8_findPrices.cls yX8_findPrices yX8_findPrices ∈ TBW := ⟨mTB 1131 w_1131 rfl, mTB 74 w_74 rfl⟩
theorem vi_X8_from : Cond.instanceMethod yX8_from ∈ TBW ∧ Cond.selects yX8_from.cls yX8_from yX8_from ∈ TBW := ⟨mTB 1214 w_1214 rfl, mTB 1215 w_1215 rfl⟩
theorem vi_X8_full : Cond.instanceMethod yX8_full ∈ TBW ∧ Cond.selects yX8_full.cls yX8_full yX8_full ∈ TBW := ⟨mTB 980 w_980 rfl, mTB 52 w_52 rfl⟩
theorem vi_X8_home : Cond.instanceMethod yX8_home ∈ TBW ∧ Cond.selects yX8_home.cls yX8_home yX8_home ∈ TBW := ⟨mTB 1172 w_1172 rfl, mTB 1173 w_1173 rfl⟩
theorem vi_X8_hush : Cond.instanceMethod yX8_hush ∈ TBW ∧ Cond.selects yX8_hush.cls yX8_hush yX8_hush ∈ TBW := ⟨mTB 1186 w_1186 rfl, mTB 1187 w_1187 rfl⟩
theorem vi_X8_image : Cond.instanceMethod yX8_image ∈ TBW ∧ Cond.selects yX8_image.cls yX8_image yX8_image ∈ TBW := ⟨mTB 1210 w_1210 rfl, mTB 1211 w_1211 rfl⟩
theorem vi_X8_isNext : Cond.instanceMethod yX8_isNext ∈ TBW ∧ Cond.selects yX8_isNext.cls yX8_isNext yX8_isNext ∈ TBW := ⟨mTB 1144 w_1144 rfl, mTB 77 w_77 rfl⟩
theorem vi_X8_isSet : Cond.instanceMethod yX8_isSet ∈ TBW ∧ Cond.selects yX8_isSet.cls yX8_isSet yX8_isSet ∈ TBW := ⟨mTB 993 w_993 rfl, mTB 53 w_53 rfl⟩
theorem vi_X8_isWalker : Cond.instanceMethod yX8_isWalker ∈ TBW ∧ Cond.selects yX8_isWalker.cls yX8_isWalker yX8_isWalker ∈ TBW := ⟨mTB 1110 w_1110 rfl, mTB 71 w_71 rfl⟩
theorem vi_X8_isWell : Cond.instanceMethod yX8_isWell ∈ TBW ∧ Cond.selects yX8_isWell.cls yX8_isWell yX8_isWell ∈ TBW := ⟨mTB 1075 w_1075 rfl, mTB 65 w_65 rfl⟩
theorem vi_X8_isWellOn : Cond.instanceMethod yX8_isWellOn ∈ TBW ∧ Cond.selects yX8_isWellOn.cls yX8_isWellOn yX8_isWellOn ∈ TBW := ⟨mTB 1098 w_1098 rfl, mTB 69 w_69 rfl⟩
theorem vi_X8_layRow : Cond.instanceMethod yX8_layRow ∈ TBW ∧ Cond.selects yX8_layRow.cls yX8_layRow yX8_layRow ∈ TBW := ⟨mTB 1123 w_1123 rfl, mTB 72 w_72 rfl⟩
theorem vi_X8_least : Cond.instanceMethod yX8_least ∈ TBW ∧ Cond.selects yX8_least.cls yX8_least yX8_least ∈ TBW := ⟨mTB 1117 w_1117 rfl, mTB 1118 w_1118 rfl⟩
theorem vi_X8_lied : Cond.instanceMethod yX8_lied ∈ TBW ∧ Cond.selects yX8_lied.cls yX8_lied yX8_lied ∈ TBW := ⟨mTB 1202 w_1202 rfl, mTB 1203 w_1203 rfl⟩
theorem vi_X8_mayGo : Cond.instanceMethod yX8_mayGo ∈ TBW ∧ Cond.selects yX8_mayGo.cls yX8_mayGo yX8_mayGo ∈ TBW := ⟨mTB 1136 w_1136 rfl, mTB 75 w_75 rfl⟩
theorem vi_X8_mayStep : Cond.instanceMethod yX8_mayStep ∈ TBW ∧ Cond.selects yX8_mayStep.cls yX8_mayStep yX8_mayStep ∈ TBW := ⟨mTB 1091 w_1091 rfl, mTB 68 w_68 rfl⟩
theorem vi_X8_no : Cond.instanceMethod yX8_no ∈ TBW ∧ Cond.selects yX8_no.cls yX8_no yX8_no ∈ TBW := ⟨mTB 1157 w_1157 rfl, mTB 78 w_78 rfl⟩
theorem vi_X8_odd : Cond.instanceMethod yX8_odd ∈ TBW ∧ Cond.selects yX8_odd.cls yX8_odd yX8_odd ∈ TBW := ⟨mTB 1168 w_1168 rfl, mTB 1169 w_1169 rfl⟩
theorem vi_X8_of : Cond.instanceMethod yX8_of ∈ TBW ∧ Cond.selects yX8_of.cls yX8_of yX8_of ∈ TBW := ⟨mTB 1006 w_1006 rfl, mTB 56 w_56 rfl⟩
theorem vi_X8_on : Cond.instanceMethod yX8_on ∈ TBW ∧ Cond.selects yX8_on.cls yX8_on yX8_on ∈ TBW := ⟨mTB 1078 w_1078 rfl, mTB 1079 w_1079 rfl⟩
theorem vi_X8_onBy : Cond.instanceMethod yX8_onBy ∈ TBW ∧ Cond.selects yX8_onBy.cls yX8_onBy yX8_onBy ∈ TBW := ⟨mTB 1199 w_1199 rfl, mTB 82 w_82 rfl⟩
theorem vi_X8_onNow : Cond.instanceMethod yX8_onNow ∈ TBW ∧ Cond.selects yX8_onNow.cls yX8_onNow yX8_onNow ∈ TBW := ⟨mTB 1087 w_1087 rfl, mTB 67 w_67 rfl⟩
theorem vi_X8_part : Cond.instanceMethod yX8_part ∈ TBW ∧ Cond.selects yX8_part.cls yX8_part yX8_part ∈ TBW := ⟨mTB 1206 w_1206 rfl, mTB 1207 w_1207 rfl⟩
theorem vi_X8_put : Cond.instanceMethod yX8_put ∈ TBW ∧ Cond.selects yX8_put.cls yX8_put yX8_put ∈ TBW := ⟨mTB 983 w_983 rfl, mTB 984 w_984 rfl⟩
theorem vi_X8_reads : Cond.instanceMethod yX8_reads ∈ TBW ∧ Cond.selects yX8_reads.cls yX8_reads yX8_reads ∈ TBW := ⟨mTB 1026 w_1026 rfl, mTB 57 w_57 rfl⟩
theorem vi_X8_row : Cond.instanceMethod yX8_row ∈ TBW ∧ Cond.selects yX8_row.cls yX8_row yX8_row ∈ TBW := ⟨mTB 1147 w_1147 rfl, mTB 1148 w_1148 rfl⟩
theorem vi_X8_said : Cond.instanceMethod yX8_said ∈ TBW ∧ Cond.selects yX8_said.cls yX8_said yX8_said ∈ TBW := ⟨mTB 1183 w_1183 rfl, mTB 80 w_80 rfl⟩
theorem vi_X8_say : Cond.instanceMethod yX8_say ∈ TBW ∧ Cond.selects yX8_say.cls yX8_say yX8_say ∈ TBW := ⟨mTB 1177 w_1177 rfl, mTB 1178 w_1178 rfl⟩
theorem vi_X8_stands : Cond.instanceMethod yX8_stands ∈ TBW ∧ Cond.selects yX8_stands.cls yX8_stands yX8_stands ∈ TBW := ⟨mTB 1052 w_1052 rfl, mTB 62 w_62 rfl⟩
theorem vi_X8_status : Cond.instanceMethod yX8_status ∈ TBW ∧ Cond.selects yX8_status.cls yX8_status yX8_status ∈ TBW := ⟨mTB 1218 w_1218 rfl, mTB 1219 w_1219 rfl⟩
theorem vi_X8_stepped : Cond.instanceMethod yX8_stepped ∈ TBW ∧ Cond.selects yX8_stepped.cls yX8_stepped yX8_stepped ∈ TBW := ⟨mTB 1105 w_1105 rfl, mTB 1106 w_1106 rfl⟩
theorem vi_X8_sums : Cond.instanceMethod yX8_sums ∈ TBW ∧ Cond.selects yX8_sums.cls yX8_sums yX8_sums ∈ TBW := ⟨mTB 1234 w_1234 rfl, mTB 83 w_83 rfl⟩
theorem vi_X8_tells : Cond.instanceMethod yX8_tells ∈ TBW ∧ Cond.selects yX8_tells.cls yX8_tells yX8_tells ∈ TBW := ⟨mTB 1161 w_1161 rfl, mTB 79 w_79 rfl⟩
theorem vi_X8_textLong : Cond.instanceMethod yX8_textLong ∈ TBW ∧ Cond.selects yX8_textLong.cls yX8_textLong yX8_textLong ∈ TBW := ⟨mTB 1034 w_1034 rfl, mTB 59 w_59 rfl⟩
theorem vi_X8_timeOf : Cond.instanceMethod yX8_timeOf ∈ TBW ∧ Cond.selects yX8_timeOf.cls yX8_timeOf yX8_timeOf ∈ TBW := ⟨mTB 1140 w_1140 rfl, mTB 76 w_76 rfl⟩
theorem vi_X8_toll : Cond.instanceMethod yX8_toll ∈ TBW ∧ Cond.selects yX8_toll.cls yX8_toll yX8_toll ∈ TBW := ⟨mTB 1151 w_1151 rfl, mTB 1152 w_1152 rfl⟩
theorem vi_X8_walker : Cond.instanceMethod yX8_walker ∈ TBW ∧ Cond.selects yX8_walker.cls yX8_walker yX8_walker ∈ TBW := ⟨mTB 961 w_961 rfl, mTB 962 w_962 rfl⟩
theorem vi_X8_walkers : Cond.instanceMethod yX8_walkers ∈ TBW ∧ Cond.selects yX8_walkers.cls yX8_walkers yX8_walkers ∈ TBW := ⟨mTB 976 w_976 rfl, mTB 51 w_51 rfl⟩
theorem vi_X8_well : Cond.instanceMethod yX8_well ∈ TBW ∧ Cond.selects yX8_well.cls yX8_well yX8_well ∈ TBW := ⟨mTB 1069 w_1069 rfl, mTB 1070 w_1070 rfl⟩
theorem vi_X8_workDown : Cond.instanceMethod yX8_workDown ∈ TBW ∧ Cond.selects yX8_workDown.cls yX8_workDown yX8_workDown ∈ TBW := ⟨mTB 1059 w_1059 rfl, mTB 63 w_63 rfl⟩
theorem vi_X8_workOut : Cond.instanceMethod yX8_workOut ∈ TBW ∧ Cond.selects yX8_workOut.cls yX8_workOut yX8_workOut ∈ TBW := ⟨mTB 1066 w_1066 rfl, mTB 64 w_64 rfl⟩
theorem vi_X8_write : Cond.instanceMethod yX8_write ∈ TBW ∧ Cond.selects yX8_write.cls yX8_write yX8_write ∈ TBW := ⟨mTB 1012 w_1012 rfl, mTB 1013 w_1013 rfl⟩
theorem vi_J0_coder_7d493 : Cond.instanceMethod yJ0_coder_7d493 ∈ TBW ∧ Cond.selects yJ0_coder_7d493.cls yJ0_coder_7d493 yJ0_coder_7d493 ∈ TBW := ⟨mTB 244 w_244 rfl, mTB 245 w_245 rfl⟩
theorem vi_J0_indexOf_0f7a4 : Cond.instanceMethod yJ0_indexOf_0f7a4 ∈ TBW ∧ Cond.selects yJ0_indexOf_0f7a4.cls yJ0_indexOf_0f7a4 yJ0_indexOf_0f7a4 ∈ TBW := ⟨mTB 226 w_226 rfl, mTB 227 w_227 rfl⟩
theorem vi_J0_indexOf_7cf53 : Cond.instanceMethod yJ0_indexOf_7cf53 ∈ TBW ∧ Cond.selects yJ0_indexOf_7cf53.cls yJ0_indexOf_7cf53 yJ0_indexOf_7cf53 ∈ TBW := ⟨mTB 230 w_230 rfl, mTB 231 w_231 rfl⟩
theorem vi_J0_isLatin1_aae02 : Cond.instanceMethod yJ0_isLatin1_aae02 ∈ TBW ∧ Cond.selects yJ0_isLatin1_aae02.cls yJ0_isLatin1_aae02 yJ0_isLatin1_aae02 ∈ TBW := ⟨mTB 234 w_234 rfl, mTB 235 w_235 rfl⟩
theorem vi_J0_length_8abf5 : Cond.instanceMethod yJ0_length_8abf5 ∈ TBW ∧ Cond.selects yJ0_length_8abf5.cls yJ0_length_8abf5 yJ0_length_8abf5 ∈ TBW := ⟨mTB 240 w_240 rfl, mTB 241 w_241 rfl⟩
theorem rc_0 : Rcv SH 0 "OddBridge" := Or.inl ⟨7, _, _, rfl, rfl, rfl⟩
theorem rc_1 : Rcv SH 1 "OddBridge$Scene" := Or.inl ⟨5, _, _, rfl, rfl, rfl⟩
theorem rc_10 : Rcv SH 10 "OddBridge$Scene" := Or.inl ⟨5, _, _, rfl, rfl, rfl⟩
theorem rc_19 : Rcv SH 19 "OddBridge$Scene" := Or.inl ⟨5, _, _, rfl, rfl, rfl⟩
theorem rc_29 : Rcv SH 29 "OddBridge$Vow" := Or.inl ⟨6, _, _, rfl, rfl, rfl⟩
theorem rc_33 : Rcv SH 33 "OddBridge$Judge" := Or.inl ⟨4, _, _, rfl, rfl, rfl⟩
theorem rc_37 : Rcv SH 37 "OddBridge$Feast" := Or.inl ⟨1, _, _, rfl, rfl, rfl⟩
theorem rc_41 : Rcv SH 41 "OddBridge$Crossing" := Or.inl ⟨0, _, _, rfl, rfl, rfl⟩
theorem rc_49 : Rcv SH 49 "OddBridge$Hearing" := Or.inl ⟨3, _, _, rfl, rfl, rfl⟩
theorem rc_50 : Rcv SH 50 "OddBridge$Fraction" := Or.inl ⟨2, _, _, rfl, rfl, rfl⟩
theorem rc_53 : Rcv SH 53 "OddBridgeModel" := Or.inl ⟨8, _, _, rfl, rfl, rfl⟩
theorem kw_RX7_202 : Cond.constantLong RX7 202 (10) ∈ TBW := mTB 774 w_774 rfl
theorem kw_RX7_245 : Cond.constantLong RX7 245 (643) ∈ TBW := mTB 865 w_865 rfl
theorem kw_RX7_251 : Cond.constantLong RX7 251 (31) ∈ TBW := mTB 871 w_871 rfl
theorem kw_RX7_262 : Cond.constantLong RX7 262 (20) ∈ TBW := mTB 757 w_757 rfl
theorem kw_RX4_49 : Cond.constantLong RX4 49 (-1) ∈ TBW := mTB 664 w_664 rfl
theorem kw_RX5_66 : Cond.constantLong RX5 66 (31) ∈ TBW := mTB 870 w_870 rfl
theorem kw_RX8_81 : Cond.constantLong RX8 81 (7) ∈ TBW := mTB 964 w_964 rfl
theorem kw_RX8_83 : Cond.constantLong RX8 83 (20) ∈ TBW := mTB 968 w_968 rfl
theorem kw_RX8_85 : Cond.constantLong RX8 85 (99) ∈ TBW := mTB 969 w_969 rfl
theorem kw_RX8_94 : Cond.constantLong RX8 94 (19) ∈ TBW := mTB 986 w_986 rfl
theorem kw_RX8_107 : Cond.constantLong RX8 107 (4) ∈ TBW := mTB 999 w_999 rfl
theorem kw_RX8_112 : Cond.constantLong RX8 112 (127) ∈ TBW := mTB 1015 w_1015 rfl
theorem kw_RX8_136 : Cond.constantLong RX8 136 (48) ∈ TBW := mTB 1043 w_1043 rfl
theorem kw_RX8_138 : Cond.constantLong RX8 138 (57) ∈ TBW := mTB 1044 w_1044 rfl
theorem kw_RX8_146 : Cond.constantLong RX8 146 (10) ∈ TBW := mTB 1049 w_1049 rfl
theorem kw_RX8_173 : Cond.constantLong RX8 173 (199) ∈ TBW := mTB 1072 w_1072 rfl
theorem kw_RX8_206 : Cond.constant RX8 206 (1000000) ∈ TBW := mTB 1133 w_1133 rfl
theorem kw_RX8_225 : Cond.constantLong RX8 225 (3) ∈ TBW := mTB 1120 w_1120 rfl
theorem kw_RX8_230 : Cond.constantLong RX8 230 (8) ∈ TBW := mTB 1154 w_1154 rfl
theorem kw_RX8_239 : Cond.constantLong RX8 239 (40) ∈ TBW := mTB 1175 w_1175 rfl
theorem kw_RX8_241 : Cond.constantLong RX8 241 (62) ∈ TBW := mTB 1180 w_1180 rfl
theorem kw_RX8_253 : Cond.constantLong RX8 253 (2) ∈ TBW := mTB 1221 w_1221 rfl
theorem kw_RX8_255 : Cond.constantLong RX8 255 (31) ∈ TBW := mTB 1230 w_1230 rfl
theorem kw_RX8_257 : Cond.constantLong RX8 257 (19933) ∈ TBW := mTB 1231 w_1231 rfl
theorem kw_RJ6_265 : Cond.constant RJ6 265 (1431655765) ∈ TBW := mTB 692 w_692 rfl
theorem kw_RJ6_266 : Cond.constant RJ6 266 (858993459) ∈ TBW := mTB 693 w_693 rfl
theorem kw_RJ6_267 : Cond.constant RJ6 267 (252645135) ∈ TBW := mTB 694 w_694 rfl
theorem sr_0 : (RX6, 89, "!-", 0) ∈ srS := by decide +kernel
theorem sr_1 : (RX6, 120, ")", 1) ∈ srS := by decide +kernel
theorem sr_2 : (RX6, 109, "pbudl", 2) ∈ srS := by decide +kernel
theorem sr_3 : (RX6, 87, "*/", 3) ∈ srS := by decide +kernel
theorem sr_4 : (RX6, 82, "+-", 4) ∈ srS := by decide +kernel
theorem sr_5 : (RX6, 77, "<>=", 5) ∈ srS := by decide +kernel
theorem sr_6 : (RX6, 72, "&", 6) ∈ srS := by decide +kernel
theorem sr_7 : (RX6, 59, "|", 7) ∈ srS := by decide +kernel
theorem obj_vi_X7_init : Cond.instanceMethod yX7_init ∈ TBW := mTB 106 w_106 rfl
theorem obj_vi_X0_init : Cond.instanceMethod yX0_init ∈ TBW := mTB 443 w_443 rfl
theorem obj_vi_X1_init : Cond.instanceMethod yX1_init ∈ TBW := mTB 403 w_403 rfl
theorem obj_vi_X2_init : Cond.instanceMethod yX2_init ∈ TBW := mTB 515 w_515 rfl
theorem obj_vi_X3_init : Cond.instanceMethod yX3_init ∈ TBW := mTB 502 w_502 rfl
theorem obj_vi_X4_init : Cond.instanceMethod yX4_init ∈ TBW := mTB 377 w_377 rfl
theorem obj_vi_X5_init : Cond.instanceMethod yX5_init ∈ TBW := mTB 114 w_114 rfl
theorem obj_vi_X6_init : Cond.instanceMethod yX6_init ∈ TBW := mTB 181 w_181 rfl
theorem obj_vi_X8_init : Cond.instanceMethod yX8_init ∈ TBW := mTB 875 w_875 rfl
