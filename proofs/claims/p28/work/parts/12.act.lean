theorem dL_act_0 : decode cL_act 0 = .ok (.iload_n 1, 1) := by decide +kernel
theorem dL_act_1 : decode cL_act 1 = .ok (.bipush 26, 2) := by decide +kernel
theorem dL_act_3 : decode cL_act 3 = .ok (.ishr, 1) := by decide +kernel
theorem dL_act_4 : decode cL_act 4 = .ok (.bipush 14, 2) := by decide +kernel
theorem dL_act_6 : decode cL_act 6 = .ok (.invokestatic 101, 3) := by decide +kernel
theorem dL_act_9 : decode cL_act 9 = .ok (.ifCond .ne 7, 3) := by decide +kernel
theorem dL_act_12 : decode cL_act 12 = .ok (.iconst 1, 1) := by decide +kernel
theorem dL_act_13 : decode cL_act 13 = .ok (.goto 4, 3) := by decide +kernel
theorem dL_act_16 : decode cL_act 16 = .ok (.iconst 0, 1) := by decide +kernel
theorem dL_act_17 : decode cL_act 17 = .ok (.istore_n 3, 1) := by decide +kernel
theorem dL_act_18 : decode cL_act 18 = .ok (.iload_n 3, 1) := by decide +kernel
theorem dL_act_19 : decode cL_act 19 = .ok (.ifCond .eq 16, 3) := by decide +kernel
theorem dL_act_22 : decode cL_act 22 = .ok (.iload_n 1, 1) := by decide +kernel
theorem dL_act_23 : decode cL_act 23 = .ok (.iconst 4, 1) := by decide +kernel
theorem dL_act_24 : decode cL_act 24 = .ok (.ishr, 1) := by decide +kernel
theorem dL_act_25 : decode cL_act 25 = .ok (.bipush 20, 2) := by decide +kernel
theorem dL_act_27 : decode cL_act 27 = .ok (.invokestatic 101, 3) := by decide +kernel
theorem dL_act_30 : decode cL_act 30 = .ok (.iconst 2, 1) := by decide +kernel
theorem dL_act_31 : decode cL_act 31 = .ok (.isub, 1) := by decide +kernel
theorem dL_act_32 : decode cL_act 32 = .ok (.goto 10, 3) := by decide +kernel
theorem dL_act_35 : decode cL_act 35 = .ok (.iload_n 1, 1) := by decide +kernel
theorem dL_act_36 : decode cL_act 36 = .ok (.iconst 4, 1) := by decide +kernel
theorem dL_act_37 : decode cL_act 37 = .ok (.ishr, 1) := by decide +kernel
theorem dL_act_38 : decode cL_act 38 = .ok (.iconst 5, 1) := by decide +kernel
theorem dL_act_39 : decode cL_act 39 = .ok (.invokestatic 101, 3) := by decide +kernel
theorem dL_act_42 : decode cL_act 42 = .ok (.istore 4, 2) := by decide +kernel
theorem dL_act_44 : decode cL_act 44 = .ok (.iload_n 3, 1) := by decide +kernel
theorem dL_act_45 : decode cL_act 45 = .ok (.ifCond .eq 17, 3) := by decide +kernel
theorem dL_act_48 : decode cL_act 48 = .ok (.iload_n 1, 1) := by decide +kernel
theorem dL_act_49 : decode cL_act 49 = .ok (.bipush 7, 2) := by decide +kernel
theorem dL_act_51 : decode cL_act 51 = .ok (.ishr, 1) := by decide +kernel
theorem dL_act_52 : decode cL_act 52 = .ok (.bipush 20, 2) := by decide +kernel
theorem dL_act_54 : decode cL_act 54 = .ok (.invokestatic 101, 3) := by decide +kernel
theorem dL_act_57 : decode cL_act 57 = .ok (.iconst 2, 1) := by decide +kernel
theorem dL_act_58 : decode cL_act 58 = .ok (.isub, 1) := by decide +kernel
theorem dL_act_59 : decode cL_act 59 = .ok (.goto 11, 3) := by decide +kernel
theorem dL_act_62 : decode cL_act 62 = .ok (.iload_n 1, 1) := by decide +kernel
theorem dL_act_63 : decode cL_act 63 = .ok (.bipush 7, 2) := by decide +kernel
theorem dL_act_65 : decode cL_act 65 = .ok (.ishr, 1) := by decide +kernel
theorem dL_act_66 : decode cL_act 66 = .ok (.iconst 5, 1) := by decide +kernel
theorem dL_act_67 : decode cL_act 67 = .ok (.invokestatic 101, 3) := by decide +kernel
theorem dL_act_70 : decode cL_act 70 = .ok (.istore 5, 2) := by decide +kernel
theorem dL_act_72 : decode cL_act 72 = .ok (.iload_n 3, 1) := by decide +kernel
theorem dL_act_73 : decode cL_act 73 = .ok (.ifCond .eq 16, 3) := by decide +kernel
theorem dL_act_76 : decode cL_act 76 = .ok (.iload_n 1, 1) := by decide +kernel
theorem dL_act_77 : decode cL_act 77 = .ok (.iconst 5, 1) := by decide +kernel
theorem dL_act_78 : decode cL_act 78 = .ok (.ishr, 1) := by decide +kernel
theorem dL_act_79 : decode cL_act 79 = .ok (.bipush 18, 2) := by decide +kernel
theorem dL_act_81 : decode cL_act 81 = .ok (.invokestatic 101, 3) := by decide +kernel
theorem dL_act_84 : decode cL_act 84 = .ok (.iconst 1, 1) := by decide +kernel
theorem dL_act_85 : decode cL_act 85 = .ok (.isub, 1) := by decide +kernel
theorem dL_act_86 : decode cL_act 86 = .ok (.goto 10, 3) := by decide +kernel
theorem dL_act_89 : decode cL_act 89 = .ok (.iload_n 1, 1) := by decide +kernel
theorem dL_act_90 : decode cL_act 90 = .ok (.iconst 5, 1) := by decide +kernel
theorem dL_act_91 : decode cL_act 91 = .ok (.ishr, 1) := by decide +kernel
theorem dL_act_92 : decode cL_act 92 = .ok (.iconst 3, 1) := by decide +kernel
theorem dL_act_93 : decode cL_act 93 = .ok (.invokestatic 101, 3) := by decide +kernel
theorem dL_act_96 : decode cL_act 96 = .ok (.istore 6, 2) := by decide +kernel
theorem dL_act_98 : decode cL_act 98 = .ok (.iload_n 3, 1) := by decide +kernel
theorem dL_act_99 : decode cL_act 99 = .ok (.ifCond .eq 10, 3) := by decide +kernel
theorem dL_act_102 : decode cL_act 102 = .ok (.iload_n 1, 1) := by decide +kernel
theorem dL_act_103 : decode cL_act 103 = .ok (.bipush 9, 2) := by decide +kernel
theorem dL_act_105 : decode cL_act 105 = .ok (.ishr, 1) := by decide +kernel
theorem dL_act_106 : decode cL_act 106 = .ok (.goto 11, 3) := by decide +kernel
theorem dL_act_109 : decode cL_act 109 = .ok (.iload_n 1, 1) := by decide +kernel
theorem dL_act_110 : decode cL_act 110 = .ok (.bipush 9, 2) := by decide +kernel
theorem dL_act_112 : decode cL_act 112 = .ok (.ishr, 1) := by decide +kernel
theorem dL_act_113 : decode cL_act 113 = .ok (.iconst 2, 1) := by decide +kernel
theorem dL_act_114 : decode cL_act 114 = .ok (.invokestatic 101, 3) := by decide +kernel
theorem dL_act_117 : decode cL_act 117 = .ok (.istore 7, 2) := by decide +kernel
theorem dL_act_119 : decode cL_act 119 = .ok (.iload_n 3, 1) := by decide +kernel
theorem dL_act_120 : decode cL_act 120 = .ok (.ifCond .eq 17, 3) := by decide +kernel
theorem dL_act_123 : decode cL_act 123 = .ok (.iload_n 1, 1) := by decide +kernel
theorem dL_act_124 : decode cL_act 124 = .ok (.bipush 11, 2) := by decide +kernel
theorem dL_act_126 : decode cL_act 126 = .ok (.ishr, 1) := by decide +kernel
theorem dL_act_127 : decode cL_act 127 = .ok (.bipush 7, 2) := by decide +kernel
theorem dL_act_129 : decode cL_act 129 = .ok (.invokestatic 101, 3) := by decide +kernel
theorem dL_act_132 : decode cL_act 132 = .ok (.iconst 1, 1) := by decide +kernel
theorem dL_act_133 : decode cL_act 133 = .ok (.isub, 1) := by decide +kernel
theorem dL_act_134 : decode cL_act 134 = .ok (.goto 11, 3) := by decide +kernel
theorem dL_act_137 : decode cL_act 137 = .ok (.iload_n 1, 1) := by decide +kernel
theorem dL_act_138 : decode cL_act 138 = .ok (.bipush 11, 2) := by decide +kernel
theorem dL_act_140 : decode cL_act 140 = .ok (.ishr, 1) := by decide +kernel
theorem dL_act_141 : decode cL_act 141 = .ok (.iconst 2, 1) := by decide +kernel
theorem dL_act_142 : decode cL_act 142 = .ok (.invokestatic 101, 3) := by decide +kernel
theorem dL_act_145 : decode cL_act 145 = .ok (.istore 8, 2) := by decide +kernel
theorem dL_act_147 : decode cL_act 147 = .ok (.iload_n 3, 1) := by decide +kernel
theorem dL_act_148 : decode cL_act 148 = .ok (.ifCond .eq 17, 3) := by decide +kernel
theorem dL_act_151 : decode cL_act 151 = .ok (.iload_n 1, 1) := by decide +kernel
theorem dL_act_152 : decode cL_act 152 = .ok (.bipush 13, 2) := by decide +kernel
theorem dL_act_154 : decode cL_act 154 = .ok (.ishr, 1) := by decide +kernel
theorem dL_act_155 : decode cL_act 155 = .ok (.bipush 7, 2) := by decide +kernel
theorem dL_act_157 : decode cL_act 157 = .ok (.invokestatic 101, 3) := by decide +kernel
theorem dL_act_160 : decode cL_act 160 = .ok (.iconst 1, 1) := by decide +kernel
theorem dL_act_161 : decode cL_act 161 = .ok (.isub, 1) := by decide +kernel
theorem dL_act_162 : decode cL_act 162 = .ok (.goto 11, 3) := by decide +kernel
theorem dL_act_165 : decode cL_act 165 = .ok (.iload_n 1, 1) := by decide +kernel
theorem dL_act_166 : decode cL_act 166 = .ok (.bipush 13, 2) := by decide +kernel
theorem dL_act_168 : decode cL_act 168 = .ok (.ishr, 1) := by decide +kernel
theorem dL_act_169 : decode cL_act 169 = .ok (.iconst 2, 1) := by decide +kernel
theorem dL_act_170 : decode cL_act 170 = .ok (.invokestatic 101, 3) := by decide +kernel
theorem dL_act_173 : decode cL_act 173 = .ok (.istore 9, 2) := by decide +kernel
theorem dL_act_175 : decode cL_act 175 = .ok (.iload_n 3, 1) := by decide +kernel
theorem dL_act_176 : decode cL_act 176 = .ok (.ifCond .eq 10, 3) := by decide +kernel
theorem dL_act_179 : decode cL_act 179 = .ok (.iload_n 1, 1) := by decide +kernel
theorem dL_act_180 : decode cL_act 180 = .ok (.bipush 8, 2) := by decide +kernel
theorem dL_act_182 : decode cL_act 182 = .ok (.ishr, 1) := by decide +kernel
theorem dL_act_183 : decode cL_act 183 = .ok (.goto 11, 3) := by decide +kernel
theorem dL_act_186 : decode cL_act 186 = .ok (.iload_n 1, 1) := by decide +kernel
theorem dL_act_187 : decode cL_act 187 = .ok (.bipush 8, 2) := by decide +kernel
theorem dL_act_189 : decode cL_act 189 = .ok (.ishr, 1) := by decide +kernel
theorem dL_act_190 : decode cL_act 190 = .ok (.iload_n 2, 1) := by decide +kernel
theorem dL_act_191 : decode cL_act 191 = .ok (.invokestatic 101, 3) := by decide +kernel
theorem dL_act_194 : decode cL_act 194 = .ok (.istore 10, 2) := by decide +kernel
theorem dL_act_196 : decode cL_act 196 = .ok (.iload_n 3, 1) := by decide +kernel
theorem dL_act_197 : decode cL_act 197 = .ok (.ifCond .eq 17, 3) := by decide +kernel
theorem dL_act_200 : decode cL_act 200 = .ok (.iload_n 1, 1) := by decide +kernel
theorem dL_act_201 : decode cL_act 201 = .ok (.bipush 6, 2) := by decide +kernel
theorem dL_act_203 : decode cL_act 203 = .ok (.ishr, 1) := by decide +kernel
theorem dL_act_204 : decode cL_act 204 = .ok (.bipush 6, 2) := by decide +kernel
theorem dL_act_206 : decode cL_act 206 = .ok (.invokestatic 101, 3) := by decide +kernel
theorem dL_act_209 : decode cL_act 209 = .ok (.iconst 1, 1) := by decide +kernel
theorem dL_act_210 : decode cL_act 210 = .ok (.isub, 1) := by decide +kernel
theorem dL_act_211 : decode cL_act 211 = .ok (.goto 11, 3) := by decide +kernel
theorem dL_act_214 : decode cL_act 214 = .ok (.iload_n 1, 1) := by decide +kernel
theorem dL_act_215 : decode cL_act 215 = .ok (.bipush 6, 2) := by decide +kernel
theorem dL_act_217 : decode cL_act 217 = .ok (.ishr, 1) := by decide +kernel
theorem dL_act_218 : decode cL_act 218 = .ok (.iconst 3, 1) := by decide +kernel
theorem dL_act_219 : decode cL_act 219 = .ok (.invokestatic 101, 3) := by decide +kernel
theorem dL_act_222 : decode cL_act 222 = .ok (.istore 11, 2) := by decide +kernel
theorem dL_act_224 : decode cL_act 224 = .ok (.iload_n 2, 1) := by decide +kernel
theorem dL_act_225 : decode cL_act 225 = .ok (.iload_n 2, 1) := by decide +kernel
theorem dL_act_226 : decode cL_act 226 = .ok (.imul, 1) := by decide +kernel
theorem dL_act_227 : decode cL_act 227 = .ok (.istore 12, 2) := by decide +kernel
theorem dL_act_229 : decode cL_act 229 = .ok (.iload_n 1, 1) := by decide +kernel
theorem dL_act_230 : decode cL_act 230 = .ok (.bipush 36, 2) := by decide +kernel
theorem dL_act_232 : decode cL_act 232 = .ok (.invokestatic 101, 3) := by decide +kernel
theorem dL_act_235 : decode cL_act 235 = .ok (.tableswitch 701 0 33 #[149, 149, 166, 183, 196, 220, 220, 220, 235, 235, 280, 289, 320, 320, 327, 327, 327, 327, 327, 388, 388, 395, 395, 431, 438, 438, 481, 494, 503, 510, 537, 554, 612, 661], 149) := by decide +kernel
theorem dL_act_384 : decode cL_act 384 = .ok (.aload_n 0, 1) := by decide +kernel
theorem dL_act_385 : decode cL_act 385 = .ok (.iconst 1, 1) := by decide +kernel
theorem dL_act_386 : decode cL_act 386 = .ok (.iload 7, 2) := by decide +kernel
theorem dL_act_388 : decode cL_act 388 = .ok (.iadd, 1) := by decide +kernel
theorem dL_act_389 : decode cL_act 389 = .ok (.iconst 1, 1) := by decide +kernel
theorem dL_act_390 : decode cL_act 390 = .ok (.iload 8, 2) := by decide +kernel
theorem dL_act_392 : decode cL_act 392 = .ok (.iadd, 1) := by decide +kernel
theorem dL_act_393 : decode cL_act 393 = .ok (.iconst 2, 1) := by decide +kernel
theorem dL_act_394 : decode cL_act 394 = .ok (.iload 9, 2) := by decide +kernel
theorem dL_act_396 : decode cL_act 396 = .ok (.iadd, 1) := by decide +kernel
theorem dL_act_397 : decode cL_act 397 = .ok (.invokestatic 106, 3) := by decide +kernel
theorem dL_act_400 : decode cL_act 400 = .ok (.ireturn, 1) := by decide +kernel
theorem dL_act_401 : decode cL_act 401 = .ok (.aload_n 0, 1) := by decide +kernel
theorem dL_act_402 : decode cL_act 402 = .ok (.iconst 1, 1) := by decide +kernel
theorem dL_act_403 : decode cL_act 403 = .ok (.iload 7, 2) := by decide +kernel
theorem dL_act_405 : decode cL_act 405 = .ok (.iadd, 1) := by decide +kernel
theorem dL_act_406 : decode cL_act 406 = .ok (.iconst 1, 1) := by decide +kernel
theorem dL_act_407 : decode cL_act 407 = .ok (.iload 8, 2) := by decide +kernel
theorem dL_act_409 : decode cL_act 409 = .ok (.iadd, 1) := by decide +kernel
theorem dL_act_410 : decode cL_act 410 = .ok (.iconst 1, 1) := by decide +kernel
theorem dL_act_411 : decode cL_act 411 = .ok (.iload 9, 2) := by decide +kernel
theorem dL_act_413 : decode cL_act 413 = .ok (.iadd, 1) := by decide +kernel
theorem dL_act_414 : decode cL_act 414 = .ok (.invokestatic 109, 3) := by decide +kernel
theorem dL_act_417 : decode cL_act 417 = .ok (.ireturn, 1) := by decide +kernel
theorem dL_act_418 : decode cL_act 418 = .ok (.aload_n 0, 1) := by decide +kernel
theorem dL_act_419 : decode cL_act 419 = .ok (.iconst 1, 1) := by decide +kernel
theorem dL_act_420 : decode cL_act 420 = .ok (.iload 7, 2) := by decide +kernel
theorem dL_act_422 : decode cL_act 422 = .ok (.iadd, 1) := by decide +kernel
theorem dL_act_423 : decode cL_act 423 = .ok (.iconst 1, 1) := by decide +kernel
theorem dL_act_424 : decode cL_act 424 = .ok (.iload 8, 2) := by decide +kernel
theorem dL_act_426 : decode cL_act 426 = .ok (.iadd, 1) := by decide +kernel
theorem dL_act_427 : decode cL_act 427 = .ok (.invokestatic 111, 3) := by decide +kernel
theorem dL_act_430 : decode cL_act 430 = .ok (.ireturn, 1) := by decide +kernel
theorem dL_act_431 : decode cL_act 431 = .ok (.aload_n 0, 1) := by decide +kernel
theorem dL_act_432 : decode cL_act 432 = .ok (.iload_n 3, 1) := by decide +kernel
theorem dL_act_433 : decode cL_act 433 = .ok (.ifCond .eq 8, 3) := by decide +kernel
theorem dL_act_436 : decode cL_act 436 = .ok (.iload 10, 2) := by decide +kernel
theorem dL_act_438 : decode cL_act 438 = .ok (.goto 13, 3) := by decide +kernel
theorem dL_act_441 : decode cL_act 441 = .ok (.iconst 1, 1) := by decide +kernel
theorem dL_act_442 : decode cL_act 442 = .ok (.iload_n 1, 1) := by decide +kernel
theorem dL_act_443 : decode cL_act 443 = .ok (.bipush 8, 2) := by decide +kernel
theorem dL_act_445 : decode cL_act 445 = .ok (.ishr, 1) := by decide +kernel
theorem dL_act_446 : decode cL_act 446 = .ok (.iconst 3, 1) := by decide +kernel
theorem dL_act_447 : decode cL_act 447 = .ok (.invokestatic 101, 3) := by decide +kernel
theorem dL_act_450 : decode cL_act 450 = .ok (.iadd, 1) := by decide +kernel
theorem dL_act_451 : decode cL_act 451 = .ok (.invokestatic 114, 3) := by decide +kernel
theorem dL_act_454 : decode cL_act 454 = .ok (.ireturn, 1) := by decide +kernel
theorem dL_act_455 : decode cL_act 455 = .ok (.aload_n 0, 1) := by decide +kernel
theorem dL_act_456 : decode cL_act 456 = .ok (.iload 4, 2) := by decide +kernel
theorem dL_act_458 : decode cL_act 458 = .ok (.iload 7, 2) := by decide +kernel
theorem dL_act_460 : decode cL_act 460 = .ok (.iload 8, 2) := by decide +kernel
theorem dL_act_462 : decode cL_act 462 = .ok (.iload 9, 2) := by decide +kernel
theorem dL_act_464 : decode cL_act 464 = .ok (.iload 10, 2) := by decide +kernel
theorem dL_act_466 : decode cL_act 466 = .ok (.invokestatic 117, 3) := by decide +kernel
theorem dL_act_469 : decode cL_act 469 = .ok (.ireturn, 1) := by decide +kernel
theorem dL_act_470 : decode cL_act 470 = .ok (.aload_n 0, 1) := by decide +kernel
theorem dL_act_471 : decode cL_act 471 = .ok (.iload 4, 2) := by decide +kernel
theorem dL_act_473 : decode cL_act 473 = .ok (.iload 11, 2) := by decide +kernel
theorem dL_act_475 : decode cL_act 475 = .ok (.iload 7, 2) := by decide +kernel
theorem dL_act_477 : decode cL_act 477 = .ok (.iload_n 3, 1) := by decide +kernel
theorem dL_act_478 : decode cL_act 478 = .ok (.ifCond .eq 8, 3) := by decide +kernel
theorem dL_act_481 : decode cL_act 481 = .ok (.iload 8, 2) := by decide +kernel
theorem dL_act_483 : decode cL_act 483 = .ok (.goto 7, 3) := by decide +kernel
theorem dL_act_486 : decode cL_act 486 = .ok (.iconst 1, 1) := by decide +kernel
theorem dL_act_487 : decode cL_act 487 = .ok (.iload 7, 2) := by decide +kernel
theorem dL_act_489 : decode cL_act 489 = .ok (.isub, 1) := by decide +kernel
theorem dL_act_490 : decode cL_act 490 = .ok (.iload_n 3, 1) := by decide +kernel
theorem dL_act_491 : decode cL_act 491 = .ok (.ifCond .eq 8, 3) := by decide +kernel
theorem dL_act_494 : decode cL_act 494 = .ok (.iload 10, 2) := by decide +kernel
theorem dL_act_496 : decode cL_act 496 = .ok (.goto 15, 3) := by decide +kernel
theorem dL_act_499 : decode cL_act 499 = .ok (.iconst 1, 1) := by decide +kernel
theorem dL_act_500 : decode cL_act 500 = .ok (.iload_n 1, 1) := by decide +kernel
theorem dL_act_501 : decode cL_act 501 = .ok (.bipush 15, 2) := by decide +kernel
theorem dL_act_503 : decode cL_act 503 = .ok (.ishr, 1) := by decide +kernel
theorem dL_act_504 : decode cL_act 504 = .ok (.iload_n 2, 1) := by decide +kernel
theorem dL_act_505 : decode cL_act 505 = .ok (.iconst 1, 1) := by decide +kernel
theorem dL_act_506 : decode cL_act 506 = .ok (.isub, 1) := by decide +kernel
theorem dL_act_507 : decode cL_act 507 = .ok (.invokestatic 101, 3) := by decide +kernel
theorem dL_act_510 : decode cL_act 510 = .ok (.iadd, 1) := by decide +kernel
theorem dL_act_511 : decode cL_act 511 = .ok (.invokestatic 120, 3) := by decide +kernel
theorem dL_act_514 : decode cL_act 514 = .ok (.ireturn, 1) := by decide +kernel
theorem dL_act_515 : decode cL_act 515 = .ok (.aload_n 0, 1) := by decide +kernel
theorem dL_act_516 : decode cL_act 516 = .ok (.iload 4, 2) := by decide +kernel
theorem dL_act_518 : decode cL_act 518 = .ok (.iload 5, 2) := by decide +kernel
theorem dL_act_520 : decode cL_act 520 = .ok (.invokestatic 122, 3) := by decide +kernel
theorem dL_act_523 : decode cL_act 523 = .ok (.ireturn, 1) := by decide +kernel
theorem dL_act_524 : decode cL_act 524 = .ok (.iload_n 1, 1) := by decide +kernel
theorem dL_act_525 : decode cL_act 525 = .ok (.bipush 16, 2) := by decide +kernel
theorem dL_act_527 : decode cL_act 527 = .ok (.ishr, 1) := by decide +kernel
theorem dL_act_528 : decode cL_act 528 = .ok (.iconst 4, 1) := by decide +kernel
theorem dL_act_529 : decode cL_act 529 = .ok (.invokestatic 101, 3) := by decide +kernel
theorem dL_act_532 : decode cL_act 532 = .ok (.ifCond .ne 14, 3) := by decide +kernel
theorem dL_act_535 : decode cL_act 535 = .ok (.aload_n 0, 1) := by decide +kernel
theorem dL_act_536 : decode cL_act 536 = .ok (.iload 4, 2) := by decide +kernel
theorem dL_act_538 : decode cL_act 538 = .ok (.iload 5, 2) := by decide +kernel
theorem dL_act_540 : decode cL_act 540 = .ok (.invokestatic 124, 3) := by decide +kernel
theorem dL_act_543 : decode cL_act 543 = .ok (.goto 11, 3) := by decide +kernel
theorem dL_act_546 : decode cL_act 546 = .ok (.aload_n 0, 1) := by decide +kernel
theorem dL_act_547 : decode cL_act 547 = .ok (.iload 4, 2) := by decide +kernel
theorem dL_act_549 : decode cL_act 549 = .ok (.iload 4, 2) := by decide +kernel
theorem dL_act_551 : decode cL_act 551 = .ok (.invokestatic 122, 3) := by decide +kernel
theorem dL_act_554 : decode cL_act 554 = .ok (.ireturn, 1) := by decide +kernel
theorem dL_act_555 : decode cL_act 555 = .ok (.aload_n 0, 1) := by decide +kernel
theorem dL_act_556 : decode cL_act 556 = .ok (.iload 4, 2) := by decide +kernel
theorem dL_act_558 : decode cL_act 558 = .ok (.invokestatic 126, 3) := by decide +kernel
theorem dL_act_561 : decode cL_act 561 = .ok (.ireturn, 1) := by decide +kernel
theorem dL_act_562 : decode cL_act 562 = .ok (.aload_n 0, 1) := by decide +kernel
theorem dL_act_563 : decode cL_act 563 = .ok (.iload 6, 2) := by decide +kernel
theorem dL_act_565 : decode cL_act 565 = .ok (.iload_n 3, 1) := by decide +kernel
theorem dL_act_566 : decode cL_act 566 = .ok (.ifCond .eq 8, 3) := by decide +kernel
theorem dL_act_569 : decode cL_act 569 = .ok (.iload 10, 2) := by decide +kernel
theorem dL_act_571 : decode cL_act 571 = .ok (.goto 12, 3) := by decide +kernel
theorem dL_act_574 : decode cL_act 574 = .ok (.iload_n 1, 1) := by decide +kernel
theorem dL_act_575 : decode cL_act 575 = .ok (.bipush 8, 2) := by decide +kernel
theorem dL_act_577 : decode cL_act 577 = .ok (.ishr, 1) := by decide +kernel
theorem dL_act_578 : decode cL_act 578 = .ok (.iload 12, 2) := by decide +kernel
theorem dL_act_580 : decode cL_act 580 = .ok (.invokestatic 101, 3) := by decide +kernel
theorem dL_act_583 : decode cL_act 583 = .ok (.iload_n 3, 1) := by decide +kernel
theorem dL_act_584 : decode cL_act 584 = .ok (.ifCond .eq 8, 3) := by decide +kernel
theorem dL_act_587 : decode cL_act 587 = .ok (.iload 8, 2) := by decide +kernel
theorem dL_act_589 : decode cL_act 589 = .ok (.goto 12, 3) := by decide +kernel
theorem dL_act_592 : decode cL_act 592 = .ok (.iload_n 1, 1) := by decide +kernel
theorem dL_act_593 : decode cL_act 593 = .ok (.bipush 12, 2) := by decide +kernel
theorem dL_act_595 : decode cL_act 595 = .ok (.ishr, 1) := by decide +kernel
theorem dL_act_596 : decode cL_act 596 = .ok (.iload 12, 2) := by decide +kernel
theorem dL_act_598 : decode cL_act 598 = .ok (.invokestatic 101, 3) := by decide +kernel
theorem dL_act_601 : decode cL_act 601 = .ok (.iload_n 3, 1) := by decide +kernel
theorem dL_act_602 : decode cL_act 602 = .ok (.ifCond .eq 8, 3) := by decide +kernel
theorem dL_act_605 : decode cL_act 605 = .ok (.iload 9, 2) := by decide +kernel
theorem dL_act_607 : decode cL_act 607 = .ok (.goto 12, 3) := by decide +kernel
theorem dL_act_610 : decode cL_act 610 = .ok (.iload_n 1, 1) := by decide +kernel
theorem dL_act_611 : decode cL_act 611 = .ok (.bipush 15, 2) := by decide +kernel
theorem dL_act_613 : decode cL_act 613 = .ok (.ishr, 1) := by decide +kernel
theorem dL_act_614 : decode cL_act 614 = .ok (.iload 12, 2) := by decide +kernel
theorem dL_act_616 : decode cL_act 616 = .ok (.invokestatic 101, 3) := by decide +kernel
theorem dL_act_619 : decode cL_act 619 = .ok (.invokestatic 128, 3) := by decide +kernel
theorem dL_act_622 : decode cL_act 622 = .ok (.ireturn, 1) := by decide +kernel
theorem dL_act_623 : decode cL_act 623 = .ok (.aload_n 0, 1) := by decide +kernel
theorem dL_act_624 : decode cL_act 624 = .ok (.iload 6, 2) := by decide +kernel
theorem dL_act_626 : decode cL_act 626 = .ok (.invokestatic 131, 3) := by decide +kernel
theorem dL_act_629 : decode cL_act 629 = .ok (.ireturn, 1) := by decide +kernel
theorem dL_act_630 : decode cL_act 630 = .ok (.aload_n 0, 1) := by decide +kernel
theorem dL_act_631 : decode cL_act 631 = .ok (.iload 6, 2) := by decide +kernel
theorem dL_act_633 : decode cL_act 633 = .ok (.iload_n 1, 1) := by decide +kernel
theorem dL_act_634 : decode cL_act 634 = .ok (.bipush 9, 2) := by decide +kernel
theorem dL_act_636 : decode cL_act 636 = .ok (.ishr, 1) := by decide +kernel
theorem dL_act_637 : decode cL_act 637 = .ok (.bipush 6, 2) := by decide +kernel
theorem dL_act_639 : decode cL_act 639 = .ok (.invokestatic 101, 3) := by decide +kernel
theorem dL_act_642 : decode cL_act 642 = .ok (.iload_n 3, 1) := by decide +kernel
theorem dL_act_643 : decode cL_act 643 = .ok (.ifCond .eq 8, 3) := by decide +kernel
theorem dL_act_646 : decode cL_act 646 = .ok (.iload 8, 2) := by decide +kernel
theorem dL_act_648 : decode cL_act 648 = .ok (.goto 12, 3) := by decide +kernel
theorem dL_act_651 : decode cL_act 651 = .ok (.iload_n 1, 1) := by decide +kernel
theorem dL_act_652 : decode cL_act 652 = .ok (.bipush 12, 2) := by decide +kernel
theorem dL_act_654 : decode cL_act 654 = .ok (.ishr, 1) := by decide +kernel
theorem dL_act_655 : decode cL_act 655 = .ok (.bipush 6, 2) := by decide +kernel
theorem dL_act_657 : decode cL_act 657 = .ok (.invokestatic 101, 3) := by decide +kernel
theorem dL_act_660 : decode cL_act 660 = .ok (.iload 11, 2) := by decide +kernel
theorem dL_act_662 : decode cL_act 662 = .ok (.invokestatic 133, 3) := by decide +kernel
theorem dL_act_665 : decode cL_act 665 = .ok (.ireturn, 1) := by decide +kernel
theorem dL_act_666 : decode cL_act 666 = .ok (.aload_n 0, 1) := by decide +kernel
theorem dL_act_667 : decode cL_act 667 = .ok (.iload 6, 2) := by decide +kernel
theorem dL_act_669 : decode cL_act 669 = .ok (.invokestatic 135, 3) := by decide +kernel
theorem dL_act_672 : decode cL_act 672 = .ok (.ireturn, 1) := by decide +kernel
theorem dL_act_673 : decode cL_act 673 = .ok (.aload_n 0, 1) := by decide +kernel
theorem dL_act_674 : decode cL_act 674 = .ok (.iload 6, 2) := by decide +kernel
theorem dL_act_676 : decode cL_act 676 = .ok (.iload_n 3, 1) := by decide +kernel
theorem dL_act_677 : decode cL_act 677 = .ok (.ifCond .eq 7, 3) := by decide +kernel
theorem dL_act_680 : decode cL_act 680 = .ok (.iload_n 1, 1) := by decide +kernel
theorem dL_act_681 : decode cL_act 681 = .ok (.goto 11, 3) := by decide +kernel
theorem dL_act_684 : decode cL_act 684 = .ok (.iload_n 1, 1) := by decide +kernel
theorem dL_act_685 : decode cL_act 685 = .ok (.iconst 3, 1) := by decide +kernel
theorem dL_act_686 : decode cL_act 686 = .ok (.ishr, 1) := by decide +kernel
theorem dL_act_687 : decode cL_act 687 = .ok (.ldc 137, 2) := by decide +kernel
theorem dL_act_689 : decode cL_act 689 = .ok (.invokestatic 101, 3) := by decide +kernel
theorem dL_act_692 : decode cL_act 692 = .ok (.iload_n 3, 1) := by decide +kernel
theorem dL_act_693 : decode cL_act 693 = .ok (.ifCond .eq 8, 3) := by decide +kernel
theorem dL_act_696 : decode cL_act 696 = .ok (.iload 10, 2) := by decide +kernel
theorem dL_act_698 : decode cL_act 698 = .ok (.goto 14, 3) := by decide +kernel
theorem dL_act_701 : decode cL_act 701 = .ok (.iconst 1, 1) := by decide +kernel
theorem dL_act_702 : decode cL_act 702 = .ok (.iload_n 1, 1) := by decide +kernel
theorem dL_act_703 : decode cL_act 703 = .ok (.bipush 10, 2) := by decide +kernel
theorem dL_act_705 : decode cL_act 705 = .ok (.ishr, 1) := by decide +kernel
theorem dL_act_706 : decode cL_act 706 = .ok (.bipush 12, 2) := by decide +kernel
theorem dL_act_708 : decode cL_act 708 = .ok (.invokestatic 101, 3) := by decide +kernel
theorem dL_act_711 : decode cL_act 711 = .ok (.iadd, 1) := by decide +kernel
theorem dL_act_712 : decode cL_act 712 = .ok (.invokestatic 138, 3) := by decide +kernel
theorem dL_act_715 : decode cL_act 715 = .ok (.ireturn, 1) := by decide +kernel
theorem dL_act_716 : decode cL_act 716 = .ok (.aload_n 0, 1) := by decide +kernel
theorem dL_act_717 : decode cL_act 717 = .ok (.iload 4, 2) := by decide +kernel
theorem dL_act_719 : decode cL_act 719 = .ok (.iload 7, 2) := by decide +kernel
theorem dL_act_721 : decode cL_act 721 = .ok (.iload 8, 2) := by decide +kernel
theorem dL_act_723 : decode cL_act 723 = .ok (.iload 9, 2) := by decide +kernel
theorem dL_act_725 : decode cL_act 725 = .ok (.invokestatic 140, 3) := by decide +kernel
theorem dL_act_728 : decode cL_act 728 = .ok (.ireturn, 1) := by decide +kernel
theorem dL_act_729 : decode cL_act 729 = .ok (.aload_n 0, 1) := by decide +kernel
theorem dL_act_730 : decode cL_act 730 = .ok (.iload 4, 2) := by decide +kernel
theorem dL_act_732 : decode cL_act 732 = .ok (.iload 11, 2) := by decide +kernel
theorem dL_act_734 : decode cL_act 734 = .ok (.invokestatic 142, 3) := by decide +kernel
theorem dL_act_737 : decode cL_act 737 = .ok (.ireturn, 1) := by decide +kernel
theorem dL_act_738 : decode cL_act 738 = .ok (.aload_n 0, 1) := by decide +kernel
theorem dL_act_739 : decode cL_act 739 = .ok (.iload 4, 2) := by decide +kernel
theorem dL_act_741 : decode cL_act 741 = .ok (.invokestatic 144, 3) := by decide +kernel
theorem dL_act_744 : decode cL_act 744 = .ok (.ireturn, 1) := by decide +kernel
theorem dL_act_745 : decode cL_act 745 = .ok (.iload_n 1, 1) := by decide +kernel
theorem dL_act_746 : decode cL_act 746 = .ok (.bipush 16, 2) := by decide +kernel
theorem dL_act_748 : decode cL_act 748 = .ok (.ishr, 1) := by decide +kernel
theorem dL_act_749 : decode cL_act 749 = .ok (.iconst 4, 1) := by decide +kernel
theorem dL_act_750 : decode cL_act 750 = .ok (.invokestatic 101, 3) := by decide +kernel
theorem dL_act_753 : decode cL_act 753 = .ok (.ifCond .ne 12, 3) := by decide +kernel
theorem dL_act_756 : decode cL_act 756 = .ok (.aload_n 0, 1) := by decide +kernel
theorem dL_act_757 : decode cL_act 757 = .ok (.iload 4, 2) := by decide +kernel
theorem dL_act_759 : decode cL_act 759 = .ok (.invokestatic 146, 3) := by decide +kernel
theorem dL_act_762 : decode cL_act 762 = .ok (.goto 9, 3) := by decide +kernel
theorem dL_act_765 : decode cL_act 765 = .ok (.aload_n 0, 1) := by decide +kernel
theorem dL_act_766 : decode cL_act 766 = .ok (.iload 5, 2) := by decide +kernel
theorem dL_act_768 : decode cL_act 768 = .ok (.invokestatic 144, 3) := by decide +kernel
theorem dL_act_771 : decode cL_act 771 = .ok (.ireturn, 1) := by decide +kernel
theorem dL_act_772 : decode cL_act 772 = .ok (.aload_n 0, 1) := by decide +kernel
theorem dL_act_773 : decode cL_act 773 = .ok (.iload 6, 2) := by decide +kernel
theorem dL_act_775 : decode cL_act 775 = .ok (.iload_n 1, 1) := by decide +kernel
theorem dL_act_776 : decode cL_act 776 = .ok (.bipush 9, 2) := by decide +kernel
theorem dL_act_778 : decode cL_act 778 = .ok (.ishr, 1) := by decide +kernel
theorem dL_act_779 : decode cL_act 779 = .ok (.iconst 5, 1) := by decide +kernel
theorem dL_act_780 : decode cL_act 780 = .ok (.invokestatic 101, 3) := by decide +kernel
theorem dL_act_783 : decode cL_act 783 = .ok (.iload 11, 2) := by decide +kernel
theorem dL_act_785 : decode cL_act 785 = .ok (.invokestatic 148, 3) := by decide +kernel
theorem dL_act_788 : decode cL_act 788 = .ok (.ireturn, 1) := by decide +kernel
theorem dL_act_789 : decode cL_act 789 = .ok (.aload_n 0, 1) := by decide +kernel
theorem dL_act_790 : decode cL_act 790 = .ok (.iload 6, 2) := by decide +kernel
theorem dL_act_792 : decode cL_act 792 = .ok (.iload_n 3, 1) := by decide +kernel
theorem dL_act_793 : decode cL_act 793 = .ok (.ifCond .eq 8, 3) := by decide +kernel
theorem dL_act_796 : decode cL_act 796 = .ok (.iload 10, 2) := by decide +kernel
theorem dL_act_798 : decode cL_act 798 = .ok (.goto 11, 3) := by decide +kernel
theorem dL_act_801 : decode cL_act 801 = .ok (.iload_n 1, 1) := by decide +kernel
theorem dL_act_802 : decode cL_act 802 = .ok (.bipush 8, 2) := by decide +kernel
theorem dL_act_804 : decode cL_act 804 = .ok (.ishr, 1) := by decide +kernel
theorem dL_act_805 : decode cL_act 805 = .ok (.iload_n 2, 1) := by decide +kernel
theorem dL_act_806 : decode cL_act 806 = .ok (.invokestatic 101, 3) := by decide +kernel
theorem dL_act_809 : decode cL_act 809 = .ok (.iload_n 3, 1) := by decide +kernel
theorem dL_act_810 : decode cL_act 810 = .ok (.ifCond .eq 8, 3) := by decide +kernel
theorem dL_act_813 : decode cL_act 813 = .ok (.iload 8, 2) := by decide +kernel
theorem dL_act_815 : decode cL_act 815 = .ok (.goto 11, 3) := by decide +kernel
theorem dL_act_818 : decode cL_act 818 = .ok (.iload_n 1, 1) := by decide +kernel
theorem dL_act_819 : decode cL_act 819 = .ok (.bipush 11, 2) := by decide +kernel
theorem dL_act_821 : decode cL_act 821 = .ok (.ishr, 1) := by decide +kernel
theorem dL_act_822 : decode cL_act 822 = .ok (.iload_n 2, 1) := by decide +kernel
theorem dL_act_823 : decode cL_act 823 = .ok (.invokestatic 101, 3) := by decide +kernel
theorem dL_act_826 : decode cL_act 826 = .ok (.iload_n 3, 1) := by decide +kernel
theorem dL_act_827 : decode cL_act 827 = .ok (.ifCond .eq 8, 3) := by decide +kernel
theorem dL_act_830 : decode cL_act 830 = .ok (.iload 9, 2) := by decide +kernel
theorem dL_act_832 : decode cL_act 832 = .ok (.goto 11, 3) := by decide +kernel
theorem dL_act_835 : decode cL_act 835 = .ok (.iload_n 1, 1) := by decide +kernel
theorem dL_act_836 : decode cL_act 836 = .ok (.bipush 14, 2) := by decide +kernel
theorem dL_act_838 : decode cL_act 838 = .ok (.ishr, 1) := by decide +kernel
theorem dL_act_839 : decode cL_act 839 = .ok (.iconst 2, 1) := by decide +kernel
theorem dL_act_840 : decode cL_act 840 = .ok (.invokestatic 101, 3) := by decide +kernel
theorem dL_act_843 : decode cL_act 843 = .ok (.invokestatic 150, 3) := by decide +kernel
theorem dL_act_846 : decode cL_act 846 = .ok (.ireturn, 1) := by decide +kernel
theorem dL_act_847 : decode cL_act 847 = .ok (.aload_n 0, 1) := by decide +kernel
theorem dL_act_848 : decode cL_act 848 = .ok (.iload 6, 2) := by decide +kernel
theorem dL_act_850 : decode cL_act 850 = .ok (.iload_n 3, 1) := by decide +kernel
theorem dL_act_851 : decode cL_act 851 = .ok (.ifCond .eq 8, 3) := by decide +kernel
theorem dL_act_854 : decode cL_act 854 = .ok (.iload 10, 2) := by decide +kernel
theorem dL_act_856 : decode cL_act 856 = .ok (.goto 11, 3) := by decide +kernel
theorem dL_act_859 : decode cL_act 859 = .ok (.iload_n 1, 1) := by decide +kernel
theorem dL_act_860 : decode cL_act 860 = .ok (.bipush 8, 2) := by decide +kernel
theorem dL_act_862 : decode cL_act 862 = .ok (.ishr, 1) := by decide +kernel
theorem dL_act_863 : decode cL_act 863 = .ok (.iload_n 2, 1) := by decide +kernel
theorem dL_act_864 : decode cL_act 864 = .ok (.invokestatic 101, 3) := by decide +kernel
theorem dL_act_867 : decode cL_act 867 = .ok (.iload_n 1, 1) := by decide +kernel
theorem dL_act_868 : decode cL_act 868 = .ok (.bipush 11, 2) := by decide +kernel
theorem dL_act_870 : decode cL_act 870 = .ok (.ishr, 1) := by decide +kernel
theorem dL_act_871 : decode cL_act 871 = .ok (.iload_n 2, 1) := by decide +kernel
theorem dL_act_872 : decode cL_act 872 = .ok (.invokestatic 101, 3) := by decide +kernel
theorem dL_act_875 : decode cL_act 875 = .ok (.iload_n 3, 1) := by decide +kernel
theorem dL_act_876 : decode cL_act 876 = .ok (.ifCond .eq 8, 3) := by decide +kernel
theorem dL_act_879 : decode cL_act 879 = .ok (.iload 9, 2) := by decide +kernel
theorem dL_act_881 : decode cL_act 881 = .ok (.goto 11, 3) := by decide +kernel
theorem dL_act_884 : decode cL_act 884 = .ok (.iload_n 1, 1) := by decide +kernel
theorem dL_act_885 : decode cL_act 885 = .ok (.bipush 14, 2) := by decide +kernel
theorem dL_act_887 : decode cL_act 887 = .ok (.ishr, 1) := by decide +kernel
theorem dL_act_888 : decode cL_act 888 = .ok (.iconst 2, 1) := by decide +kernel
theorem dL_act_889 : decode cL_act 889 = .ok (.invokestatic 101, 3) := by decide +kernel
theorem dL_act_892 : decode cL_act 892 = .ok (.invokestatic 152, 3) := by decide +kernel
theorem dL_act_895 : decode cL_act 895 = .ok (.ireturn, 1) := by decide +kernel
theorem dL_act_896 : decode cL_act 896 = .ok (.aload_n 0, 1) := by decide +kernel
theorem dL_act_897 : decode cL_act 897 = .ok (.iload 6, 2) := by decide +kernel
theorem dL_act_899 : decode cL_act 899 = .ok (.iload_n 3, 1) := by decide +kernel
theorem dL_act_900 : decode cL_act 900 = .ok (.ifCond .eq 8, 3) := by decide +kernel
theorem dL_act_903 : decode cL_act 903 = .ok (.iload 10, 2) := by decide +kernel
theorem dL_act_905 : decode cL_act 905 = .ok (.goto 11, 3) := by decide +kernel
theorem dL_act_908 : decode cL_act 908 = .ok (.iload_n 1, 1) := by decide +kernel
theorem dL_act_909 : decode cL_act 909 = .ok (.bipush 8, 2) := by decide +kernel
theorem dL_act_911 : decode cL_act 911 = .ok (.ishr, 1) := by decide +kernel
theorem dL_act_912 : decode cL_act 912 = .ok (.iconst 4, 1) := by decide +kernel
theorem dL_act_913 : decode cL_act 913 = .ok (.invokestatic 101, 3) := by decide +kernel
theorem dL_act_916 : decode cL_act 916 = .ok (.iload_n 1, 1) := by decide +kernel
theorem dL_act_917 : decode cL_act 917 = .ok (.bipush 12, 2) := by decide +kernel
theorem dL_act_919 : decode cL_act 919 = .ok (.ishr, 1) := by decide +kernel
theorem dL_act_920 : decode cL_act 920 = .ok (.iconst 1, 1) := by decide +kernel
theorem dL_act_921 : decode cL_act 921 = .ok (.iand, 1) := by decide +kernel
theorem dL_act_922 : decode cL_act 922 = .ok (.iconst 1, 1) := by decide +kernel
theorem dL_act_923 : decode cL_act 923 = .ok (.if_icmp .ne 7, 3) := by decide +kernel
theorem dL_act_926 : decode cL_act 926 = .ok (.iconst 1, 1) := by decide +kernel
theorem dL_act_927 : decode cL_act 927 = .ok (.goto 4, 3) := by decide +kernel
theorem dL_act_930 : decode cL_act 930 = .ok (.iconst 0, 1) := by decide +kernel
theorem dL_act_931 : decode cL_act 931 = .ok (.invokestatic 154, 3) := by decide +kernel
theorem dL_act_934 : decode cL_act 934 = .ok (.l2i, 1) := by decide +kernel
theorem dL_act_935 : decode cL_act 935 = .ok (.ireturn, 1) := by decide +kernel
theorem dL_act_936 : decode cL_act 936 = .ok (.aload_n 0, 1) := by decide +kernel
theorem dL_act_937 : decode cL_act 937 = .ok (.iload 6, 2) := by decide +kernel
theorem dL_act_939 : decode cL_act 939 = .ok (.iload_n 3, 1) := by decide +kernel
theorem dL_act_940 : decode cL_act 940 = .ok (.ifCond .eq 8, 3) := by decide +kernel
theorem dL_act_943 : decode cL_act 943 = .ok (.iload 10, 2) := by decide +kernel
theorem dL_act_945 : decode cL_act 945 = .ok (.goto 11, 3) := by decide +kernel
theorem dL_act_948 : decode cL_act 948 = .ok (.iload_n 1, 1) := by decide +kernel
theorem dL_act_949 : decode cL_act 949 = .ok (.bipush 8, 2) := by decide +kernel
theorem dL_act_951 : decode cL_act 951 = .ok (.ishr, 1) := by decide +kernel
theorem dL_act_952 : decode cL_act 952 = .ok (.iconst 5, 1) := by decide +kernel
theorem dL_act_953 : decode cL_act 953 = .ok (.invokestatic 101, 3) := by decide +kernel
theorem dL_act_956 : decode cL_act 956 = .ok (.invokestatic 157, 3) := by decide +kernel
theorem dL_act_959 : decode cL_act 959 = .ok (.ireturn, 1) := by decide +kernel
abbrev rmL_act : Room := { frames := 20, cells := 8, slots := 119, locals := 474 }
theorem zyL_act : zyOK yL_act 3 := ⟨by decide +kernel, by decide +kernel, by decide +kernel⟩
set_option maxHeartbeats 4000000 in
set_option maxRecDepth 100000 in
theorem wL_act {TZ : Type} {O : Nat → TZ → List Int32 → Option (Int32 × TZ)} {OL : TZ → List Int32 → Option (Int64 × TZ)} {I : Nat → TZ → Nat → TZ → ZS → Prop} (hO : zOps I O OL) {G : ZG} (a0 : Nat) (a1 : Int32) (a2 : Int32) (y : Nat) (U : TZ) (T : TZ) (S : ZS) (hI : I a0 T y U S) (h0 : zFix G cL_act RL 13 (some .int) rmL_act) (hnt : zNoTab G) (C : Option (Int32 × TZ) → Prop) (hC : ¬ C none) (hE : ∀ (v : Int32) (T9 : TZ) (S9 : ZS), I a0 T9 y U S9 → C (some (v, T9)) → zEndT G (some (.int v)) S9 rmL_act) : zV G 13 S 0 0 0 [(0, .ref a0), (1, .int a1), (2, .int a2)] [] (C (fL_act O OL a1 a2 T)) := by
  have J956 : ∀ (s1_956 : Int32) (s2_956 : Int32) (T_956 : TZ) (S_956 : ZS) (hI_956 : I a0 T_956 y U S_956), zV G 13 S_956 0 0 956 [] [.int s2_956, .int s1_956, .ref a0] (C (fL_act_J956 O OL s1_956 s2_956 T_956)) := by
    intro s1_956 s2_956 T_956 S_956 hI_956
    unfold fL_act_J956
    refine zr_cW C hC .int (fun T9 S9 => I a0 T9 y U S9) 2 12 h0 hnt.fl (fun v9 hv9 hfr => zwf_ofWay hO hI_956 hfr hv9) (fun x hx l D z0 hlt => kL_ofWay l D z0 hlt a0 s1_956 s2_956 S_956 x hx) zw_791 zw_792 zw_0 zw_793 zyL_ofWay (As := [.ref a0, .int s1_956, .int s2_956]) (st := []) rfl (by decide) rfl (Nat.le_of_ble_eq_true rfl) (by decide) dL_act_956 rfl rfl (n := 959) rfl (fun x62 Sx62 hx62 => ?_)
    exact zr_iretT h0 rfl dL_act_959 (hE _ _ _ hx62) (by decide) (by decide)
  have J931 : ∀ (s1_931 : Int32) (s2_931 : Int32) (s3_931 : Int32) (T_931 : TZ) (S_931 : ZS) (hI_931 : I a0 T_931 y U S_931), zV G 13 S_931 0 0 931 [] [.int s3_931, .int s2_931, .int s1_931, .ref a0] (C (fL_act_J931 O OL s1_931 s2_931 s3_931 T_931)) := by
    intro s1_931 s2_931 s3_931 T_931 S_931 hI_931
    unfold fL_act_J931
    refine zr_cW C hC .long (fun T9 S9 => I a0 T9 y U S9) 2 12 h0 hnt.fl (fun v9 hv9 hfr => zwf_levels hO hI_931 hfr hv9) (fun x hx l D z0 hlt => kL_levels l D z0 hlt a0 s1_931 s2_931 s3_931 S_931 x hx) zw_725 zw_726 zw_0 zw_727 zyL_levels (As := [.ref a0, .int s1_931, .int s2_931, .int s3_931]) (st := []) rfl (by decide) rfl (Nat.le_of_ble_eq_true rfl) (by decide) dL_act_931 rfl rfl (n := 934) rfl (fun x63 Sx63 hx63 => ?_)
    refine zr_l2i h0 dL_act_934 (n := 935) rfl ?_
    exact zr_iretT h0 rfl dL_act_935 (hE _ _ _ hx63) (by decide) (by decide)
  have J916 : ∀ (l1_916 : Int32) (s1_916 : Int32) (s2_916 : Int32) (T_916 : TZ) (S_916 : ZS) (hI_916 : I a0 T_916 y U S_916), zV G 13 S_916 0 0 916 [(1, .int l1_916)] [.int s2_916, .int s1_916, .ref a0] (C (fL_act_J916 O OL l1_916 s1_916 s2_916 T_916)) := by
    intro l1_916 s1_916 s2_916 T_916 S_916 hI_916
    unfold fL_act_J916
    refine zr_iload_n h0 dL_act_916 rfl (n := 917) rfl ?_
    refine zr_bipush (12 : Int32) h0 (by decide) dL_act_917 (n := 919) rfl ?_
    refine zr_ishr h0 dL_act_919 (n := 920) rfl ?_
    refine zr_iconst (1 : Int32) h0 (by decide) dL_act_920 (n := 921) rfl ?_
    refine zr_iand h0 dL_act_921 (n := 922) rfl ?_
    refine zr_iconst (1 : Int32) h0 (by decide) dL_act_922 (n := 923) rfl ?_
    refine zr_icmp_ne C (tgt := 930) h0 dL_act_923 (by decide) (n := 926) rfl ?_ ?_
    · refine zv_sub (lv' := []) ?_ (zsub_of [] rfl)
      refine zr_iconst (1 : Int32) h0 (by decide) dL_act_926 (n := 927) rfl ?_
      refine zr_goto (tgt := 931) h0 dL_act_927 (by decide) ?_
      exact J931 s1_916 s2_916 (1 : Int32) T_916 S_916 hI_916
    · refine zv_sub (lv' := []) ?_ (zsub_of [] rfl)
      refine zr_iconst (0 : Int32) h0 (by decide) dL_act_930 (n := 931) rfl ?_
      exact J931 s1_916 s2_916 (0 : Int32) T_916 S_916 hI_916
  have J892 : ∀ (s1_892 : Int32) (s2_892 : Int32) (s3_892 : Int32) (s4_892 : Int32) (T_892 : TZ) (S_892 : ZS) (hI_892 : I a0 T_892 y U S_892), zV G 13 S_892 0 0 892 [] [.int s4_892, .int s3_892, .int s2_892, .int s1_892, .ref a0] (C (fL_act_J892 O OL s1_892 s2_892 s3_892 s4_892 T_892)) := by
    intro s1_892 s2_892 s3_892 s4_892 T_892 S_892 hI_892
    unfold fL_act_J892
    refine zr_cW C hC .int (fun T9 S9 => I a0 T9 y U S9) 3 18 h0 hnt.fl (fun v9 hv9 hfr => zwf_resultByCube hO hI_892 hfr hv9) (fun x hx l D z0 hlt => kL_resultByCube l D z0 hlt a0 s1_892 s2_892 s3_892 s4_892 S_892 x hx) zw_714 zw_715 zw_0 zw_716 zyL_resultByCube (As := [.ref a0, .int s1_892, .int s2_892, .int s3_892, .int s4_892]) (st := []) rfl (by decide) rfl (Nat.le_of_ble_eq_true rfl) (by decide) dL_act_892 rfl rfl (n := 895) rfl (fun x64 Sx64 hx64 => ?_)
    exact zr_iretT h0 rfl dL_act_895 (hE _ _ _ hx64) (by decide) (by decide)
  have J867 : ∀ (l1_867 : Int32) (l2_867 : Int32) (l3_867 : Int32) (l9_867 : Int32) (s1_867 : Int32) (s2_867 : Int32) (T_867 : TZ) (S_867 : ZS) (hI_867 : I a0 T_867 y U S_867), zV G 13 S_867 0 0 867 [(1, .int l1_867), (2, .int l2_867), (3, .int l3_867), (9, .int l9_867)] [.int s2_867, .int s1_867, .ref a0] (C (fL_act_J867 O OL l1_867 l2_867 l3_867 l9_867 s1_867 s2_867 T_867)) := by
    intro l1_867 l2_867 l3_867 l9_867 s1_867 s2_867 T_867 S_867 hI_867
    unfold fL_act_J867
    refine zr_iload_n h0 dL_act_867 rfl (n := 868) rfl ?_
    refine zr_bipush (11 : Int32) h0 (by decide) dL_act_868 (n := 870) rfl ?_
    refine zr_ishr h0 dL_act_870 (n := 871) rfl ?_
    refine zr_iload_n h0 dL_act_871 rfl (n := 872) rfl ?_
    refine zr_cRI C hC 0 0 (fun x hx => zk_S h0 (fun l D z0 => kL_low l D z0 (l1_867 >>> ((11 : Int32) &&& 31)) l2_867 S_867 x hx) zw_105 zw_106 zw_0 zw_107 zyL_low (As := [.int (l1_867 >>> ((11 : Int32) &&& 31)), .int l2_867]) (st := [.int s2_867, .int s1_867, .ref a0]) rfl (by decide) rfl (Nat.le_of_ble_eq_true rfl) (by decide) dL_act_872) rfl rfl (n := 875) rfl (fun x65 => ?_)
    refine zr_iload_n h0 dL_act_875 rfl (n := 876) rfl ?_
    refine zr_if_eq C (tgt := 884) h0 dL_act_876 (by decide) (n := 879) rfl ?_ ?_
    · refine zv_sub (lv' := [(1, .int l1_867)]) ?_ (zsub_of [0] rfl)
      refine zr_iload_n h0 dL_act_884 rfl (n := 885) rfl ?_
      refine zr_bipush (14 : Int32) h0 (by decide) dL_act_885 (n := 887) rfl ?_
      refine zr_ishr h0 dL_act_887 (n := 888) rfl ?_
      refine zr_iconst (2 : Int32) h0 (by decide) dL_act_888 (n := 889) rfl ?_
      refine zr_cRI C hC 0 0 (fun x hx => zk_S h0 (fun l D z0 => kL_low l D z0 (l1_867 >>> ((14 : Int32) &&& 31)) (2 : Int32) S_867 x hx) zw_105 zw_106 zw_0 zw_107 zyL_low (As := [.int (l1_867 >>> ((14 : Int32) &&& 31)), .int (2 : Int32)]) (st := [.int x65, .int s2_867, .int s1_867, .ref a0]) rfl (by decide) rfl (Nat.le_of_ble_eq_true rfl) (by decide) dL_act_889) rfl rfl (n := 892) rfl (fun x66 => ?_)
      refine zv_sub (lv' := []) ?_ (zsub_of [] rfl)
      exact J892 s1_867 s2_867 x65 x66 T_867 S_867 hI_867
    · refine zv_sub (lv' := [(9, .int l9_867)]) ?_ (zsub_of [3] rfl)
      refine zr_iload h0 dL_act_879 rfl (n := 881) rfl ?_
      refine zr_goto (tgt := 892) h0 dL_act_881 (by decide) ?_
      refine zv_sub (lv' := []) ?_ (zsub_of [] rfl)
      exact J892 s1_867 s2_867 x65 l9_867 T_867 S_867 hI_867
  have J843 : ∀ (s1_843 : Int32) (s2_843 : Int32) (s3_843 : Int32) (s4_843 : Int32) (T_843 : TZ) (S_843 : ZS) (hI_843 : I a0 T_843 y U S_843), zV G 13 S_843 0 0 843 [] [.int s4_843, .int s3_843, .int s2_843, .int s1_843, .ref a0] (C (fL_act_J843 O OL s1_843 s2_843 s3_843 s4_843 T_843)) := by
    intro s1_843 s2_843 s3_843 s4_843 T_843 S_843 hI_843
    unfold fL_act_J843
    refine zr_cW C hC .int (fun T9 S9 => I a0 T9 y U S9) 3 18 h0 hnt.fl (fun v9 hv9 hfr => zwf_result hO hI_843 hfr hv9) (fun x hx l D z0 hlt => kL_result l D z0 hlt a0 s1_843 s2_843 s3_843 s4_843 S_843 x hx) zw_691 zw_692 zw_0 zw_693 zyL_result (As := [.ref a0, .int s1_843, .int s2_843, .int s3_843, .int s4_843]) (st := []) rfl (by decide) rfl (Nat.le_of_ble_eq_true rfl) (by decide) dL_act_843 rfl rfl (n := 846) rfl (fun x67 Sx67 hx67 => ?_)
    exact zr_iretT h0 rfl dL_act_846 (hE _ _ _ hx67) (by decide) (by decide)
  have J826 : ∀ (l1_826 : Int32) (l3_826 : Int32) (l9_826 : Int32) (s1_826 : Int32) (s2_826 : Int32) (s3_826 : Int32) (T_826 : TZ) (S_826 : ZS) (hI_826 : I a0 T_826 y U S_826), zV G 13 S_826 0 0 826 [(1, .int l1_826), (3, .int l3_826), (9, .int l9_826)] [.int s3_826, .int s2_826, .int s1_826, .ref a0] (C (fL_act_J826 O OL l1_826 l3_826 l9_826 s1_826 s2_826 s3_826 T_826)) := by
    intro l1_826 l3_826 l9_826 s1_826 s2_826 s3_826 T_826 S_826 hI_826
    unfold fL_act_J826
    refine zr_iload_n h0 dL_act_826 rfl (n := 827) rfl ?_
    refine zr_if_eq C (tgt := 835) h0 dL_act_827 (by decide) (n := 830) rfl ?_ ?_
    · refine zv_sub (lv' := [(1, .int l1_826)]) ?_ (zsub_of [0] rfl)
      refine zr_iload_n h0 dL_act_835 rfl (n := 836) rfl ?_
      refine zr_bipush (14 : Int32) h0 (by decide) dL_act_836 (n := 838) rfl ?_
      refine zr_ishr h0 dL_act_838 (n := 839) rfl ?_
      refine zr_iconst (2 : Int32) h0 (by decide) dL_act_839 (n := 840) rfl ?_
      refine zr_cRI C hC 0 0 (fun x hx => zk_S h0 (fun l D z0 => kL_low l D z0 (l1_826 >>> ((14 : Int32) &&& 31)) (2 : Int32) S_826 x hx) zw_105 zw_106 zw_0 zw_107 zyL_low (As := [.int (l1_826 >>> ((14 : Int32) &&& 31)), .int (2 : Int32)]) (st := [.int s3_826, .int s2_826, .int s1_826, .ref a0]) rfl (by decide) rfl (Nat.le_of_ble_eq_true rfl) (by decide) dL_act_840) rfl rfl (n := 843) rfl (fun x68 => ?_)
      refine zv_sub (lv' := []) ?_ (zsub_of [] rfl)
      exact J843 s1_826 s2_826 s3_826 x68 T_826 S_826 hI_826
    · refine zv_sub (lv' := [(9, .int l9_826)]) ?_ (zsub_of [2] rfl)
      refine zr_iload h0 dL_act_830 rfl (n := 832) rfl ?_
      refine zr_goto (tgt := 843) h0 dL_act_832 (by decide) ?_
      refine zv_sub (lv' := []) ?_ (zsub_of [] rfl)
      exact J843 s1_826 s2_826 s3_826 l9_826 T_826 S_826 hI_826
  have J809 : ∀ (l1_809 : Int32) (l2_809 : Int32) (l3_809 : Int32) (l8_809 : Int32) (l9_809 : Int32) (s1_809 : Int32) (s2_809 : Int32) (T_809 : TZ) (S_809 : ZS) (hI_809 : I a0 T_809 y U S_809), zV G 13 S_809 0 0 809 [(1, .int l1_809), (2, .int l2_809), (3, .int l3_809), (8, .int l8_809), (9, .int l9_809)] [.int s2_809, .int s1_809, .ref a0] (C (fL_act_J809 O OL l1_809 l2_809 l3_809 l8_809 l9_809 s1_809 s2_809 T_809)) := by
    intro l1_809 l2_809 l3_809 l8_809 l9_809 s1_809 s2_809 T_809 S_809 hI_809
    unfold fL_act_J809
    refine zr_iload_n h0 dL_act_809 rfl (n := 810) rfl ?_
    refine zr_if_eq C (tgt := 818) h0 dL_act_810 (by decide) (n := 813) rfl ?_ ?_
    · refine zv_sub (lv' := [(1, .int l1_809), (2, .int l2_809), (3, .int l3_809), (9, .int l9_809)]) ?_ (zsub_of [0, 1, 2, 4] rfl)
      refine zr_iload_n h0 dL_act_818 rfl (n := 819) rfl ?_
      refine zr_bipush (11 : Int32) h0 (by decide) dL_act_819 (n := 821) rfl ?_
      refine zr_ishr h0 dL_act_821 (n := 822) rfl ?_
      refine zr_iload_n h0 dL_act_822 rfl (n := 823) rfl ?_
      refine zr_cRI C hC 0 0 (fun x hx => zk_S h0 (fun l D z0 => kL_low l D z0 (l1_809 >>> ((11 : Int32) &&& 31)) l2_809 S_809 x hx) zw_105 zw_106 zw_0 zw_107 zyL_low (As := [.int (l1_809 >>> ((11 : Int32) &&& 31)), .int l2_809]) (st := [.int s2_809, .int s1_809, .ref a0]) rfl (by decide) rfl (Nat.le_of_ble_eq_true rfl) (by decide) dL_act_823) rfl rfl (n := 826) rfl (fun x69 => ?_)
      refine zv_sub (lv' := [(1, .int l1_809), (3, .int l3_809), (9, .int l9_809)]) ?_ (zsub_of [0, 2, 3] rfl)
      exact J826 l1_809 l3_809 l9_809 s1_809 s2_809 x69 T_809 S_809 hI_809
    · refine zv_sub (lv' := [(1, .int l1_809), (3, .int l3_809), (8, .int l8_809), (9, .int l9_809)]) ?_ (zsub_of [0, 2, 3, 4] rfl)
      refine zr_iload h0 dL_act_813 rfl (n := 815) rfl ?_
      refine zr_goto (tgt := 826) h0 dL_act_815 (by decide) ?_
      refine zv_sub (lv' := [(1, .int l1_809), (3, .int l3_809), (9, .int l9_809)]) ?_ (zsub_of [0, 1, 3] rfl)
      exact J826 l1_809 l3_809 l9_809 s1_809 s2_809 l8_809 T_809 S_809 hI_809
  have J771 : ∀ (s0_771 : Int32) (T_771 : TZ) (S_771 : ZS) (hI_771 : I a0 T_771 y U S_771), zV G 13 S_771 2 12 771 [] [.int s0_771] (C (fL_act_J771 O OL s0_771 T_771)) := by
    intro s0_771 T_771 S_771 hI_771
    unfold fL_act_J771
    exact zr_iretT h0 rfl dL_act_771 (hE _ _ _ hI_771) (by decide) (by decide)
  have J712 : ∀ (s1_712 : Int32) (s2_712 : Int32) (s3_712 : Int32) (T_712 : TZ) (S_712 : ZS) (hI_712 : I a0 T_712 y U S_712), zV G 13 S_712 0 0 712 [] [.int s3_712, .int s2_712, .int s1_712, .ref a0] (C (fL_act_J712 O OL s1_712 s2_712 s3_712 T_712)) := by
    intro s1_712 s2_712 s3_712 T_712 S_712 hI_712
    unfold fL_act_J712
    refine zr_cW C hC .int (fun T9 S9 => I a0 T9 y U S9) 2 12 h0 hnt.fl (fun v9 hv9 hfr => zwf_walk hO hI_712 hfr hv9) (fun x hx l D z0 hlt => kL_walk l D z0 hlt a0 s1_712 s2_712 s3_712 S_712 x hx) zw_544 zw_545 zw_0 zw_546 zyL_walk (As := [.ref a0, .int s1_712, .int s2_712, .int s3_712]) (st := []) rfl (by decide) rfl (Nat.le_of_ble_eq_true rfl) (by decide) dL_act_712 rfl rfl (n := 715) rfl (fun x70 Sx70 hx70 => ?_)
    exact zr_iretT h0 rfl dL_act_715 (hE _ _ _ hx70) (by decide) (by decide)
  have J692 : ∀ (l1_692 : Int32) (l3_692 : Int32) (l10_692 : Int32) (s1_692 : Int32) (s2_692 : Int32) (T_692 : TZ) (S_692 : ZS) (hI_692 : I a0 T_692 y U S_692), zV G 13 S_692 0 0 692 [(1, .int l1_692), (3, .int l3_692), (10, .int l10_692)] [.int s2_692, .int s1_692, .ref a0] (C (fL_act_J692 O OL l1_692 l3_692 l10_692 s1_692 s2_692 T_692)) := by
    intro l1_692 l3_692 l10_692 s1_692 s2_692 T_692 S_692 hI_692
    unfold fL_act_J692
    refine zr_iload_n h0 dL_act_692 rfl (n := 693) rfl ?_
    refine zr_if_eq C (tgt := 701) h0 dL_act_693 (by decide) (n := 696) rfl ?_ ?_
    · refine zv_sub (lv' := [(1, .int l1_692)]) ?_ (zsub_of [0] rfl)
      refine zr_iconst (1 : Int32) h0 (by decide) dL_act_701 (n := 702) rfl ?_
      refine zr_iload_n h0 dL_act_702 rfl (n := 703) rfl ?_
      refine zr_bipush (10 : Int32) h0 (by decide) dL_act_703 (n := 705) rfl ?_
      refine zr_ishr h0 dL_act_705 (n := 706) rfl ?_
      refine zr_bipush (12 : Int32) h0 (by decide) dL_act_706 (n := 708) rfl ?_
      refine zr_cRI C hC 0 0 (fun x hx => zk_S h0 (fun l D z0 => kL_low l D z0 (l1_692 >>> ((10 : Int32) &&& 31)) (12 : Int32) S_692 x hx) zw_105 zw_106 zw_0 zw_107 zyL_low (As := [.int (l1_692 >>> ((10 : Int32) &&& 31)), .int (12 : Int32)]) (st := [.int (1 : Int32), .int s2_692, .int s1_692, .ref a0]) rfl (by decide) rfl (Nat.le_of_ble_eq_true rfl) (by decide) dL_act_708) rfl rfl (n := 711) rfl (fun x71 => ?_)
      refine zr_iadd h0 dL_act_711 (n := 712) rfl ?_
      refine zv_sub (lv' := []) ?_ (zsub_of [] rfl)
      exact J712 s1_692 s2_692 ((1 : Int32) + x71) T_692 S_692 hI_692
    · refine zv_sub (lv' := [(10, .int l10_692)]) ?_ (zsub_of [2] rfl)
      refine zr_iload h0 dL_act_696 rfl (n := 698) rfl ?_
      refine zr_goto (tgt := 712) h0 dL_act_698 (by decide) ?_
      refine zv_sub (lv' := []) ?_ (zsub_of [] rfl)
      exact J712 s1_692 s2_692 l10_692 T_692 S_692 hI_692
  have J673 : ∀ (l1_673 : Int32) (l3_673 : Int32) (l6_673 : Int32) (l10_673 : Int32) (T_673 : TZ) (S_673 : ZS) (hI_673 : I a0 T_673 y U S_673), zV G 13 S_673 0 0 673 [(0, .ref a0), (1, .int l1_673), (3, .int l3_673), (6, .int l6_673), (10, .int l10_673)] [] (C (fL_act_J673 O OL l1_673 l3_673 l6_673 l10_673 T_673)) := by
    intro l1_673 l3_673 l6_673 l10_673 T_673 S_673 hI_673
    unfold fL_act_J673
    refine zr_aload_n h0 dL_act_673 rfl (n := 674) rfl ?_
    refine zr_iload h0 dL_act_674 rfl (n := 676) rfl ?_
    refine zr_iload_n h0 dL_act_676 rfl (n := 677) rfl ?_
    refine zr_if_eq C (tgt := 684) h0 dL_act_677 (by decide) (n := 680) rfl ?_ ?_
    · refine zv_sub (lv' := [(1, .int l1_673), (3, .int l3_673), (10, .int l10_673)]) ?_ (zsub_of [1, 2, 4] rfl)
      refine zr_iload_n h0 dL_act_684 rfl (n := 685) rfl ?_
      refine zr_iconst (3 : Int32) h0 (by decide) dL_act_685 (n := 686) rfl ?_
      refine zr_ishr h0 dL_act_686 (n := 687) rfl ?_
      refine zr_ldc h0 zw_543 dL_act_687 (n := 689) rfl ?_
      refine zr_cRI C hC 0 0 (fun x hx => zk_S h0 (fun l D z0 => kL_low l D z0 (l1_673 >>> ((3 : Int32) &&& 31)) (65536 : Int32) S_673 x hx) zw_105 zw_106 zw_0 zw_107 zyL_low (As := [.int (l1_673 >>> ((3 : Int32) &&& 31)), .int (65536 : Int32)]) (st := [.int l6_673, .ref a0]) rfl (by decide) rfl (Nat.le_of_ble_eq_true rfl) (by decide) dL_act_689) rfl rfl (n := 692) rfl (fun x72 => ?_)
      exact J692 l1_673 l3_673 l10_673 l6_673 x72 T_673 S_673 hI_673
    · refine zv_sub (lv' := [(1, .int l1_673), (3, .int l3_673), (10, .int l10_673)]) ?_ (zsub_of [1, 2, 4] rfl)
      refine zr_iload_n h0 dL_act_680 rfl (n := 681) rfl ?_
      refine zr_goto (tgt := 692) h0 dL_act_681 (by decide) ?_
      exact J692 l1_673 l3_673 l10_673 l6_673 l1_673 T_673 S_673 hI_673
  have J660 : ∀ (l11_660 : Int32) (s1_660 : Int32) (s2_660 : Int32) (s3_660 : Int32) (T_660 : TZ) (S_660 : ZS) (hI_660 : I a0 T_660 y U S_660), zV G 13 S_660 0 0 660 [(11, .int l11_660)] [.int s3_660, .int s2_660, .int s1_660, .ref a0] (C (fL_act_J660 O OL l11_660 s1_660 s2_660 s3_660 T_660)) := by
    intro l11_660 s1_660 s2_660 s3_660 T_660 S_660 hI_660
    unfold fL_act_J660
    refine zr_iload h0 dL_act_660 rfl (n := 662) rfl ?_
    refine zr_cW C hC .int (fun T9 S9 => I a0 T9 y U S9) 5 30 h0 hnt.fl (fun v9 hv9 hfr => zwf_flip hO hI_660 hfr hv9) (fun x hx l D z0 hlt => kL_flip l D z0 hlt a0 s1_660 s2_660 s3_660 l11_660 S_660 x hx) zw_471 zw_472 zw_0 zw_473 zyL_flip (As := [.ref a0, .int s1_660, .int s2_660, .int s3_660, .int l11_660]) (st := []) rfl (by decide) rfl (Nat.le_of_ble_eq_true rfl) (by decide) dL_act_662 rfl rfl (n := 665) rfl (fun x73 Sx73 hx73 => ?_)
    exact zr_iretT h0 rfl dL_act_665 (hE _ _ _ hx73) (by decide) (by decide)
  have J630 : ∀ (l1_630 : Int32) (l3_630 : Int32) (l6_630 : Int32) (l8_630 : Int32) (l11_630 : Int32) (T_630 : TZ) (S_630 : ZS) (hI_630 : I a0 T_630 y U S_630), zV G 13 S_630 0 0 630 [(0, .ref a0), (1, .int l1_630), (3, .int l3_630), (6, .int l6_630), (8, .int l8_630), (11, .int l11_630)] [] (C (fL_act_J630 O OL l1_630 l3_630 l6_630 l8_630 l11_630 T_630)) := by
    intro l1_630 l3_630 l6_630 l8_630 l11_630 T_630 S_630 hI_630
    unfold fL_act_J630
    refine zr_aload_n h0 dL_act_630 rfl (n := 631) rfl ?_
    refine zr_iload h0 dL_act_631 rfl (n := 633) rfl ?_
    refine zr_iload_n h0 dL_act_633 rfl (n := 634) rfl ?_
    refine zr_bipush (9 : Int32) h0 (by decide) dL_act_634 (n := 636) rfl ?_
    refine zr_ishr h0 dL_act_636 (n := 637) rfl ?_
    refine zr_bipush (6 : Int32) h0 (by decide) dL_act_637 (n := 639) rfl ?_
    refine zr_cRI C hC 0 0 (fun x hx => zk_S h0 (fun l D z0 => kL_low l D z0 (l1_630 >>> ((9 : Int32) &&& 31)) (6 : Int32) S_630 x hx) zw_105 zw_106 zw_0 zw_107 zyL_low (As := [.int (l1_630 >>> ((9 : Int32) &&& 31)), .int (6 : Int32)]) (st := [.int l6_630, .ref a0]) rfl (by decide) rfl (Nat.le_of_ble_eq_true rfl) (by decide) dL_act_639) rfl rfl (n := 642) rfl (fun x74 => ?_)
    refine zr_iload_n h0 dL_act_642 rfl (n := 643) rfl ?_
    refine zr_if_eq C (tgt := 651) h0 dL_act_643 (by decide) (n := 646) rfl ?_ ?_
    · refine zv_sub (lv' := [(1, .int l1_630), (11, .int l11_630)]) ?_ (zsub_of [1, 5] rfl)
      refine zr_iload_n h0 dL_act_651 rfl (n := 652) rfl ?_
      refine zr_bipush (12 : Int32) h0 (by decide) dL_act_652 (n := 654) rfl ?_
      refine zr_ishr h0 dL_act_654 (n := 655) rfl ?_
      refine zr_bipush (6 : Int32) h0 (by decide) dL_act_655 (n := 657) rfl ?_
      refine zr_cRI C hC 0 0 (fun x hx => zk_S h0 (fun l D z0 => kL_low l D z0 (l1_630 >>> ((12 : Int32) &&& 31)) (6 : Int32) S_630 x hx) zw_105 zw_106 zw_0 zw_107 zyL_low (As := [.int (l1_630 >>> ((12 : Int32) &&& 31)), .int (6 : Int32)]) (st := [.int x74, .int l6_630, .ref a0]) rfl (by decide) rfl (Nat.le_of_ble_eq_true rfl) (by decide) dL_act_657) rfl rfl (n := 660) rfl (fun x75 => ?_)
      refine zv_sub (lv' := [(11, .int l11_630)]) ?_ (zsub_of [1] rfl)
      exact J660 l11_630 l6_630 x74 x75 T_630 S_630 hI_630
    · refine zv_sub (lv' := [(8, .int l8_630), (11, .int l11_630)]) ?_ (zsub_of [4, 5] rfl)
      refine zr_iload h0 dL_act_646 rfl (n := 648) rfl ?_
      refine zr_goto (tgt := 660) h0 dL_act_648 (by decide) ?_
      refine zv_sub (lv' := [(11, .int l11_630)]) ?_ (zsub_of [1] rfl)
      exact J660 l11_630 l6_630 x74 l8_630 T_630 S_630 hI_630
  have J623 : ∀ (l6_623 : Int32) (T_623 : TZ) (S_623 : ZS) (hI_623 : I a0 T_623 y U S_623), zV G 13 S_623 0 0 623 [(0, .ref a0), (6, .int l6_623)] [] (C (fL_act_J623 O OL l6_623 T_623)) := by
    intro l6_623 T_623 S_623 hI_623
    unfold fL_act_J623
    refine zr_aload_n h0 dL_act_623 rfl (n := 624) rfl ?_
    refine zr_iload h0 dL_act_624 rfl (n := 626) rfl ?_
    refine zr_cW C hC .int (fun T9 S9 => I a0 T9 y U S9) 2 12 h0 hnt.fl (fun v9 hv9 hfr => zwf_plain hO hI_623 hfr hv9) (fun x hx l D z0 hlt => kL_plain l D z0 hlt a0 l6_623 S_623 x hx) zw_455 zw_456 zw_0 zw_457 zyL_plain (As := [.ref a0, .int l6_623]) (st := []) rfl (by decide) rfl (Nat.le_of_ble_eq_true rfl) (by decide) dL_act_626 rfl rfl (n := 629) rfl (fun x76 Sx76 hx76 => ?_)
    exact zr_iretT h0 rfl dL_act_629 (hE _ _ _ hx76) (by decide) (by decide)
  have J619 : ∀ (s1_619 : Int32) (s2_619 : Int32) (s3_619 : Int32) (s4_619 : Int32) (T_619 : TZ) (S_619 : ZS) (hI_619 : I a0 T_619 y U S_619), zV G 13 S_619 0 0 619 [] [.int s4_619, .int s3_619, .int s2_619, .int s1_619, .ref a0] (C (fL_act_J619 O OL s1_619 s2_619 s3_619 s4_619 T_619)) := by
    intro s1_619 s2_619 s3_619 s4_619 T_619 S_619 hI_619
    unfold fL_act_J619
    refine zr_cW C hC .int (fun T9 S9 => I a0 T9 y U S9) 5 30 h0 hnt.fl (fun v9 hv9 hfr => zwf_multiply hO hI_619 hfr hv9) (fun x hx l D z0 hlt => kL_multiply l D z0 hlt a0 s1_619 s2_619 s3_619 s4_619 S_619 x hx) zw_423 zw_424 zw_0 zw_425 zyL_multiply (As := [.ref a0, .int s1_619, .int s2_619, .int s3_619, .int s4_619]) (st := []) rfl (by decide) rfl (Nat.le_of_ble_eq_true rfl) (by decide) dL_act_619 rfl rfl (n := 622) rfl (fun x77 Sx77 hx77 => ?_)
    exact zr_iretT h0 rfl dL_act_622 (hE _ _ _ hx77) (by decide) (by decide)
  have J601 : ∀ (l1_601 : Int32) (l3_601 : Int32) (l9_601 : Int32) (l12_601 : Int32) (s1_601 : Int32) (s2_601 : Int32) (s3_601 : Int32) (T_601 : TZ) (S_601 : ZS) (hI_601 : I a0 T_601 y U S_601), zV G 13 S_601 0 0 601 [(1, .int l1_601), (3, .int l3_601), (9, .int l9_601), (12, .int l12_601)] [.int s3_601, .int s2_601, .int s1_601, .ref a0] (C (fL_act_J601 O OL l1_601 l3_601 l9_601 l12_601 s1_601 s2_601 s3_601 T_601)) := by
    intro l1_601 l3_601 l9_601 l12_601 s1_601 s2_601 s3_601 T_601 S_601 hI_601
    unfold fL_act_J601
    refine zr_iload_n h0 dL_act_601 rfl (n := 602) rfl ?_
    refine zr_if_eq C (tgt := 610) h0 dL_act_602 (by decide) (n := 605) rfl ?_ ?_
    · refine zv_sub (lv' := [(1, .int l1_601), (12, .int l12_601)]) ?_ (zsub_of [0, 3] rfl)
      refine zr_iload_n h0 dL_act_610 rfl (n := 611) rfl ?_
      refine zr_bipush (15 : Int32) h0 (by decide) dL_act_611 (n := 613) rfl ?_
      refine zr_ishr h0 dL_act_613 (n := 614) rfl ?_
      refine zr_iload h0 dL_act_614 rfl (n := 616) rfl ?_
      refine zr_cRI C hC 0 0 (fun x hx => zk_S h0 (fun l D z0 => kL_low l D z0 (l1_601 >>> ((15 : Int32) &&& 31)) l12_601 S_601 x hx) zw_105 zw_106 zw_0 zw_107 zyL_low (As := [.int (l1_601 >>> ((15 : Int32) &&& 31)), .int l12_601]) (st := [.int s3_601, .int s2_601, .int s1_601, .ref a0]) rfl (by decide) rfl (Nat.le_of_ble_eq_true rfl) (by decide) dL_act_616) rfl rfl (n := 619) rfl (fun x78 => ?_)
      refine zv_sub (lv' := []) ?_ (zsub_of [] rfl)
      exact J619 s1_601 s2_601 s3_601 x78 T_601 S_601 hI_601
    · refine zv_sub (lv' := [(9, .int l9_601)]) ?_ (zsub_of [2] rfl)
      refine zr_iload h0 dL_act_605 rfl (n := 607) rfl ?_
      refine zr_goto (tgt := 619) h0 dL_act_607 (by decide) ?_
      refine zv_sub (lv' := []) ?_ (zsub_of [] rfl)
      exact J619 s1_601 s2_601 s3_601 l9_601 T_601 S_601 hI_601
  have J583 : ∀ (l1_583 : Int32) (l3_583 : Int32) (l8_583 : Int32) (l9_583 : Int32) (l12_583 : Int32) (s1_583 : Int32) (s2_583 : Int32) (T_583 : TZ) (S_583 : ZS) (hI_583 : I a0 T_583 y U S_583), zV G 13 S_583 0 0 583 [(1, .int l1_583), (3, .int l3_583), (8, .int l8_583), (9, .int l9_583), (12, .int l12_583)] [.int s2_583, .int s1_583, .ref a0] (C (fL_act_J583 O OL l1_583 l3_583 l8_583 l9_583 l12_583 s1_583 s2_583 T_583)) := by
    intro l1_583 l3_583 l8_583 l9_583 l12_583 s1_583 s2_583 T_583 S_583 hI_583
    unfold fL_act_J583
    refine zr_iload_n h0 dL_act_583 rfl (n := 584) rfl ?_
    refine zr_if_eq C (tgt := 592) h0 dL_act_584 (by decide) (n := 587) rfl ?_ ?_
    · refine zv_sub (lv' := [(1, .int l1_583), (3, .int l3_583), (9, .int l9_583), (12, .int l12_583)]) ?_ (zsub_of [0, 1, 3, 4] rfl)
      refine zr_iload_n h0 dL_act_592 rfl (n := 593) rfl ?_
      refine zr_bipush (12 : Int32) h0 (by decide) dL_act_593 (n := 595) rfl ?_
      refine zr_ishr h0 dL_act_595 (n := 596) rfl ?_
      refine zr_iload h0 dL_act_596 rfl (n := 598) rfl ?_
      refine zr_cRI C hC 0 0 (fun x hx => zk_S h0 (fun l D z0 => kL_low l D z0 (l1_583 >>> ((12 : Int32) &&& 31)) l12_583 S_583 x hx) zw_105 zw_106 zw_0 zw_107 zyL_low (As := [.int (l1_583 >>> ((12 : Int32) &&& 31)), .int l12_583]) (st := [.int s2_583, .int s1_583, .ref a0]) rfl (by decide) rfl (Nat.le_of_ble_eq_true rfl) (by decide) dL_act_598) rfl rfl (n := 601) rfl (fun x79 => ?_)
      exact J601 l1_583 l3_583 l9_583 l12_583 s1_583 s2_583 x79 T_583 S_583 hI_583
    · refine zr_iload h0 dL_act_587 rfl (n := 589) rfl ?_
      refine zr_goto (tgt := 601) h0 dL_act_589 (by decide) ?_
      refine zv_sub (lv' := [(1, .int l1_583), (3, .int l3_583), (9, .int l9_583), (12, .int l12_583)]) ?_ (zsub_of [0, 1, 3, 4] rfl)
      exact J601 l1_583 l3_583 l9_583 l12_583 s1_583 s2_583 l8_583 T_583 S_583 hI_583
  have J562 : ∀ (l1_562 : Int32) (l3_562 : Int32) (l6_562 : Int32) (l8_562 : Int32) (l9_562 : Int32) (l10_562 : Int32) (l12_562 : Int32) (T_562 : TZ) (S_562 : ZS) (hI_562 : I a0 T_562 y U S_562), zV G 13 S_562 0 0 562 [(0, .ref a0), (1, .int l1_562), (3, .int l3_562), (6, .int l6_562), (8, .int l8_562), (9, .int l9_562), (10, .int l10_562), (12, .int l12_562)] [] (C (fL_act_J562 O OL l1_562 l3_562 l6_562 l8_562 l9_562 l10_562 l12_562 T_562)) := by
    intro l1_562 l3_562 l6_562 l8_562 l9_562 l10_562 l12_562 T_562 S_562 hI_562
    unfold fL_act_J562
    refine zr_aload_n h0 dL_act_562 rfl (n := 563) rfl ?_
    refine zr_iload h0 dL_act_563 rfl (n := 565) rfl ?_
    refine zr_iload_n h0 dL_act_565 rfl (n := 566) rfl ?_
    refine zr_if_eq C (tgt := 574) h0 dL_act_566 (by decide) (n := 569) rfl ?_ ?_
    · refine zv_sub (lv' := [(1, .int l1_562), (3, .int l3_562), (8, .int l8_562), (9, .int l9_562), (12, .int l12_562)]) ?_ (zsub_of [1, 2, 4, 5, 7] rfl)
      refine zr_iload_n h0 dL_act_574 rfl (n := 575) rfl ?_
      refine zr_bipush (8 : Int32) h0 (by decide) dL_act_575 (n := 577) rfl ?_
      refine zr_ishr h0 dL_act_577 (n := 578) rfl ?_
      refine zr_iload h0 dL_act_578 rfl (n := 580) rfl ?_
      refine zr_cRI C hC 0 0 (fun x hx => zk_S h0 (fun l D z0 => kL_low l D z0 (l1_562 >>> ((8 : Int32) &&& 31)) l12_562 S_562 x hx) zw_105 zw_106 zw_0 zw_107 zyL_low (As := [.int (l1_562 >>> ((8 : Int32) &&& 31)), .int l12_562]) (st := [.int l6_562, .ref a0]) rfl (by decide) rfl (Nat.le_of_ble_eq_true rfl) (by decide) dL_act_580) rfl rfl (n := 583) rfl (fun x80 => ?_)
      exact J583 l1_562 l3_562 l8_562 l9_562 l12_562 l6_562 x80 T_562 S_562 hI_562
    · refine zv_sub (lv' := [(1, .int l1_562), (3, .int l3_562), (8, .int l8_562), (9, .int l9_562), (10, .int l10_562), (12, .int l12_562)]) ?_ (zsub_of [1, 2, 4, 5, 6, 7] rfl)
      refine zr_iload h0 dL_act_569 rfl (n := 571) rfl ?_
      refine zr_goto (tgt := 583) h0 dL_act_571 (by decide) ?_
      refine zv_sub (lv' := [(1, .int l1_562), (3, .int l3_562), (8, .int l8_562), (9, .int l9_562), (12, .int l12_562)]) ?_ (zsub_of [0, 1, 2, 3, 5] rfl)
      exact J583 l1_562 l3_562 l8_562 l9_562 l12_562 l6_562 l10_562 T_562 S_562 hI_562
  have J555 : ∀ (l4_555 : Int32) (T_555 : TZ) (S_555 : ZS) (hI_555 : I a0 T_555 y U S_555), zV G 13 S_555 0 0 555 [(0, .ref a0), (4, .int l4_555)] [] (C (fL_act_J555 O OL l4_555 T_555)) := by
    intro l4_555 T_555 S_555 hI_555
    unfold fL_act_J555
    refine zr_aload_n h0 dL_act_555 rfl (n := 556) rfl ?_
    refine zr_iload h0 dL_act_556 rfl (n := 558) rfl ?_
    refine zr_cW C hC .int (fun T9 S9 => I a0 T9 y U S9) 5 119 h0 hnt.fl (fun v9 hv9 hfr => zwf_way hO hI_555 hfr hv9) (fun x hx l D z0 hlt => kL_way l D z0 hlt a0 l4_555 S_555 x hx) zw_389 zw_390 zw_0 zw_391 zyL_way (As := [.ref a0, .int l4_555]) (st := []) rfl (by decide) rfl (Nat.le_of_ble_eq_true rfl) (by decide) dL_act_558 rfl rfl (n := 561) rfl (fun x81 Sx81 hx81 => ?_)
    exact zr_iretT h0 rfl dL_act_561 (hE _ _ _ hx81) (by decide) (by decide)
  have J554 : ∀ (s0_554 : Int32) (T_554 : TZ) (S_554 : ZS) (hI_554 : I a0 T_554 y U S_554), zV G 13 S_554 7 99 554 [] [.int s0_554] (C (fL_act_J554 O OL s0_554 T_554)) := by
    intro s0_554 T_554 S_554 hI_554
    unfold fL_act_J554
    exact zr_iretT h0 rfl dL_act_554 (hE _ _ _ hI_554) (by decide) (by decide)
  have J511 : ∀ (s1_511 : Int32) (s2_511 : Int32) (s3_511 : Int32) (s4_511 : Int32) (s5_511 : Int32) (T_511 : TZ) (S_511 : ZS) (hI_511 : I a0 T_511 y U S_511), zV G 13 S_511 0 0 511 [] [.int s5_511, .int s4_511, .int s3_511, .int s2_511, .int s1_511, .ref a0] (C (fL_act_J511 O OL s1_511 s2_511 s3_511 s4_511 s5_511 T_511)) := by
    intro s1_511 s2_511 s3_511 s4_511 s5_511 T_511 S_511 hI_511
    unfold fL_act_J511
    refine zr_cW C hC .int (fun T9 S9 => I a0 T9 y U S9) 5 30 h0 hnt.fl (fun v9 hv9 hfr => zwf_move hO hI_511 hfr hv9) (fun x hx l D z0 hlt => kL_move l D z0 hlt a0 s1_511 s2_511 s3_511 s4_511 s5_511 S_511 x hx) zw_331 zw_332 zw_0 zw_333 zyL_move (As := [.ref a0, .int s1_511, .int s2_511, .int s3_511, .int s4_511, .int s5_511]) (st := []) rfl (by decide) rfl (Nat.le_of_ble_eq_true rfl) (by decide) dL_act_511 rfl rfl (n := 514) rfl (fun x82 Sx82 hx82 => ?_)
    exact zr_iretT h0 rfl dL_act_514 (hE _ _ _ hx82) (by decide) (by decide)
  have J490 : ∀ (l1_490 : Int32) (l2_490 : Int32) (l3_490 : Int32) (l10_490 : Int32) (s1_490 : Int32) (s2_490 : Int32) (s3_490 : Int32) (s4_490 : Int32) (T_490 : TZ) (S_490 : ZS) (hI_490 : I a0 T_490 y U S_490), zV G 13 S_490 0 0 490 [(1, .int l1_490), (2, .int l2_490), (3, .int l3_490), (10, .int l10_490)] [.int s4_490, .int s3_490, .int s2_490, .int s1_490, .ref a0] (C (fL_act_J490 O OL l1_490 l2_490 l3_490 l10_490 s1_490 s2_490 s3_490 s4_490 T_490)) := by
    intro l1_490 l2_490 l3_490 l10_490 s1_490 s2_490 s3_490 s4_490 T_490 S_490 hI_490
    unfold fL_act_J490
    refine zr_iload_n h0 dL_act_490 rfl (n := 491) rfl ?_
    refine zr_if_eq C (tgt := 499) h0 dL_act_491 (by decide) (n := 494) rfl ?_ ?_
    · refine zv_sub (lv' := [(1, .int l1_490), (2, .int l2_490)]) ?_ (zsub_of [0, 1] rfl)
      refine zr_iconst (1 : Int32) h0 (by decide) dL_act_499 (n := 500) rfl ?_
      refine zr_iload_n h0 dL_act_500 rfl (n := 501) rfl ?_
      refine zr_bipush (15 : Int32) h0 (by decide) dL_act_501 (n := 503) rfl ?_
      refine zr_ishr h0 dL_act_503 (n := 504) rfl ?_
      refine zr_iload_n h0 dL_act_504 rfl (n := 505) rfl ?_
      refine zr_iconst (1 : Int32) h0 (by decide) dL_act_505 (n := 506) rfl ?_
      refine zr_isub h0 dL_act_506 (n := 507) rfl ?_
      refine zr_cRI C hC 0 0 (fun x hx => zk_S h0 (fun l D z0 => kL_low l D z0 (l1_490 >>> ((15 : Int32) &&& 31)) (l2_490 - (1 : Int32)) S_490 x hx) zw_105 zw_106 zw_0 zw_107 zyL_low (As := [.int (l1_490 >>> ((15 : Int32) &&& 31)), .int (l2_490 - (1 : Int32))]) (st := [.int (1 : Int32), .int s4_490, .int s3_490, .int s2_490, .int s1_490, .ref a0]) rfl (by decide) rfl (Nat.le_of_ble_eq_true rfl) (by decide) dL_act_507) rfl rfl (n := 510) rfl (fun x83 => ?_)
      refine zr_iadd h0 dL_act_510 (n := 511) rfl ?_
      refine zv_sub (lv' := []) ?_ (zsub_of [] rfl)
      exact J511 s1_490 s2_490 s3_490 s4_490 ((1 : Int32) + x83) T_490 S_490 hI_490
    · refine zv_sub (lv' := [(10, .int l10_490)]) ?_ (zsub_of [3] rfl)
      refine zr_iload h0 dL_act_494 rfl (n := 496) rfl ?_
      refine zr_goto (tgt := 511) h0 dL_act_496 (by decide) ?_
      refine zv_sub (lv' := []) ?_ (zsub_of [] rfl)
      exact J511 s1_490 s2_490 s3_490 s4_490 l10_490 T_490 S_490 hI_490
  have J470 : ∀ (l1_470 : Int32) (l2_470 : Int32) (l3_470 : Int32) (l4_470 : Int32) (l7_470 : Int32) (l8_470 : Int32) (l10_470 : Int32) (l11_470 : Int32) (T_470 : TZ) (S_470 : ZS) (hI_470 : I a0 T_470 y U S_470), zV G 13 S_470 0 0 470 [(0, .ref a0), (1, .int l1_470), (2, .int l2_470), (3, .int l3_470), (4, .int l4_470), (7, .int l7_470), (8, .int l8_470), (10, .int l10_470), (11, .int l11_470)] [] (C (fL_act_J470 O OL l1_470 l2_470 l3_470 l4_470 l7_470 l8_470 l10_470 l11_470 T_470)) := by
    intro l1_470 l2_470 l3_470 l4_470 l7_470 l8_470 l10_470 l11_470 T_470 S_470 hI_470
    unfold fL_act_J470
    refine zr_aload_n h0 dL_act_470 rfl (n := 471) rfl ?_
    refine zr_iload h0 dL_act_471 rfl (n := 473) rfl ?_
    refine zr_iload h0 dL_act_473 rfl (n := 475) rfl ?_
    refine zr_iload h0 dL_act_475 rfl (n := 477) rfl ?_
    refine zr_iload_n h0 dL_act_477 rfl (n := 478) rfl ?_
    refine zr_if_eq C (tgt := 486) h0 dL_act_478 (by decide) (n := 481) rfl ?_ ?_
    · refine zv_sub (lv' := [(1, .int l1_470), (2, .int l2_470), (3, .int l3_470), (7, .int l7_470), (10, .int l10_470)]) ?_ (zsub_of [1, 2, 3, 5, 7] rfl)
      refine zr_iconst (1 : Int32) h0 (by decide) dL_act_486 (n := 487) rfl ?_
      refine zr_iload h0 dL_act_487 rfl (n := 489) rfl ?_
      refine zr_isub h0 dL_act_489 (n := 490) rfl ?_
      refine zv_sub (lv' := [(1, .int l1_470), (2, .int l2_470), (3, .int l3_470), (10, .int l10_470)]) ?_ (zsub_of [0, 1, 2, 4] rfl)
      exact J490 l1_470 l2_470 l3_470 l10_470 l4_470 l11_470 l7_470 ((1 : Int32) - l7_470) T_470 S_470 hI_470
    · refine zv_sub (lv' := [(1, .int l1_470), (2, .int l2_470), (3, .int l3_470), (8, .int l8_470), (10, .int l10_470)]) ?_ (zsub_of [1, 2, 3, 6, 7] rfl)
      refine zr_iload h0 dL_act_481 rfl (n := 483) rfl ?_
      refine zr_goto (tgt := 490) h0 dL_act_483 (by decide) ?_
      refine zv_sub (lv' := [(1, .int l1_470), (2, .int l2_470), (3, .int l3_470), (10, .int l10_470)]) ?_ (zsub_of [0, 1, 2, 4] rfl)
      exact J490 l1_470 l2_470 l3_470 l10_470 l4_470 l11_470 l7_470 l8_470 T_470 S_470 hI_470
  have J455 : ∀ (l4_455 : Int32) (l7_455 : Int32) (l8_455 : Int32) (l9_455 : Int32) (l10_455 : Int32) (T_455 : TZ) (S_455 : ZS) (hI_455 : I a0 T_455 y U S_455), zV G 13 S_455 0 0 455 [(0, .ref a0), (4, .int l4_455), (7, .int l7_455), (8, .int l8_455), (9, .int l9_455), (10, .int l10_455)] [] (C (fL_act_J455 O OL l4_455 l7_455 l8_455 l9_455 l10_455 T_455)) := by
    intro l4_455 l7_455 l8_455 l9_455 l10_455 T_455 S_455 hI_455
    unfold fL_act_J455
    refine zr_aload_n h0 dL_act_455 rfl (n := 456) rfl ?_
    refine zr_iload h0 dL_act_456 rfl (n := 458) rfl ?_
    refine zr_iload h0 dL_act_458 rfl (n := 460) rfl ?_
    refine zr_iload h0 dL_act_460 rfl (n := 462) rfl ?_
    refine zr_iload h0 dL_act_462 rfl (n := 464) rfl ?_
    refine zr_iload h0 dL_act_464 rfl (n := 466) rfl ?_
    refine zr_cW C hC .int (fun T9 S9 => I a0 T9 y U S9) 3 18 h0 hnt.fl (fun v9 hv9 hfr => zwf_set hO hI_455 hfr hv9) (fun x hx l D z0 hlt => kL_set l D z0 hlt a0 l4_455 l7_455 l8_455 l9_455 l10_455 S_455 x hx) zw_288 zw_289 zw_0 zw_290 zyL_set (As := [.ref a0, .int l4_455, .int l7_455, .int l8_455, .int l9_455, .int l10_455]) (st := []) rfl (by decide) rfl (Nat.le_of_ble_eq_true rfl) (by decide) dL_act_466 rfl rfl (n := 469) rfl (fun x84 Sx84 hx84 => ?_)
    exact zr_iretT h0 rfl dL_act_469 (hE _ _ _ hx84) (by decide) (by decide)
  have J451 : ∀ (s1_451 : Int32) (T_451 : TZ) (S_451 : ZS) (hI_451 : I a0 T_451 y U S_451), zV G 13 S_451 0 0 451 [] [.int s1_451, .ref a0] (C (fL_act_J451 O OL s1_451 T_451)) := by
    intro s1_451 T_451 S_451 hI_451
    unfold fL_act_J451
    refine zr_cW C hC .int (fun T9 S9 => I a0 T9 y U S9) 5 87 h0 hnt.fl (fun v9 hv9 hfr => zwf_group hO hI_451 hfr hv9) (fun x hx l D z0 hlt => kL_group l D z0 hlt a0 s1_451 S_451 x hx) zw_278 zw_279 zw_0 zw_280 zyL_group (As := [.ref a0, .int s1_451]) (st := []) rfl (by decide) rfl (Nat.le_of_ble_eq_true rfl) (by decide) dL_act_451 rfl rfl (n := 454) rfl (fun x85 Sx85 hx85 => ?_)
    exact zr_iretT h0 rfl dL_act_454 (hE _ _ _ hx85) (by decide) (by decide)
  have J384 : ∀ (l7_384 : Int32) (l8_384 : Int32) (l9_384 : Int32) (T_384 : TZ) (S_384 : ZS) (hI_384 : I a0 T_384 y U S_384), zV G 13 S_384 0 0 384 [(0, .ref a0), (7, .int l7_384), (8, .int l8_384), (9, .int l9_384)] [] (C (fL_act_J384 O OL l7_384 l8_384 l9_384 T_384)) := by
    intro l7_384 l8_384 l9_384 T_384 S_384 hI_384
    unfold fL_act_J384
    refine zr_aload_n h0 dL_act_384 rfl (n := 385) rfl ?_
    refine zr_iconst (1 : Int32) h0 (by decide) dL_act_385 (n := 386) rfl ?_
    refine zr_iload h0 dL_act_386 rfl (n := 388) rfl ?_
    refine zr_iadd h0 dL_act_388 (n := 389) rfl ?_
    refine zr_iconst (1 : Int32) h0 (by decide) dL_act_389 (n := 390) rfl ?_
    refine zr_iload h0 dL_act_390 rfl (n := 392) rfl ?_
    refine zr_iadd h0 dL_act_392 (n := 393) rfl ?_
    refine zr_iconst (2 : Int32) h0 (by decide) dL_act_393 (n := 394) rfl ?_
    refine zr_iload h0 dL_act_394 rfl (n := 396) rfl ?_
    refine zr_iadd h0 dL_act_396 (n := 397) rfl ?_
    refine zr_cW C hC .int (fun T9 S9 => I a0 T9 y U S9) 5 87 h0 hnt.fl (fun v9 hv9 hfr => zwf_cube hO hI_384 hfr hv9) (fun x hx l D z0 hlt => kL_cube l D z0 hlt a0 ((1 : Int32) + l7_384) ((1 : Int32) + l8_384) ((2 : Int32) + l9_384) S_384 x hx) zw_206 zw_207 zw_0 zw_208 zyL_cube (As := [.ref a0, .int ((1 : Int32) + l7_384), .int ((1 : Int32) + l8_384), .int ((2 : Int32) + l9_384)]) (st := []) rfl (by decide) rfl (Nat.le_of_ble_eq_true rfl) (by decide) dL_act_397 rfl rfl (n := 400) rfl (fun x86 Sx86 hx86 => ?_)
    exact zr_iretT h0 rfl dL_act_400 (hE _ _ _ hx86) (by decide) (by decide)
  have J222 : ∀ (l1_222 : Int32) (l2_222 : Int32) (l3_222 : Int32) (l4_222 : Int32) (l5_222 : Int32) (l6_222 : Int32) (l7_222 : Int32) (l8_222 : Int32) (l9_222 : Int32) (l10_222 : Int32) (s0_222 : Int32) (T_222 : TZ) (S_222 : ZS) (hI_222 : I a0 T_222 y U S_222), zV G 13 S_222 0 0 222 [(0, .ref a0), (1, .int l1_222), (2, .int l2_222), (3, .int l3_222), (4, .int l4_222), (5, .int l5_222), (6, .int l6_222), (7, .int l7_222), (8, .int l8_222), (9, .int l9_222), (10, .int l10_222)] [.int s0_222] (C (fL_act_J222 O OL l1_222 l2_222 l3_222 l4_222 l5_222 l6_222 l7_222 l8_222 l9_222 l10_222 s0_222 T_222)) := by
    intro l1_222 l2_222 l3_222 l4_222 l5_222 l6_222 l7_222 l8_222 l9_222 l10_222 s0_222 T_222 S_222 hI_222
    unfold fL_act_J222
    refine zr_istore [(0, .ref a0), (1, .int l1_222), (2, .int l2_222), (3, .int l3_222), (4, .int l4_222), (5, .int l5_222), (6, .int l6_222), (7, .int l7_222), (8, .int l8_222), (9, .int l9_222), (10, .int l10_222), (11, .int s0_222)] h0 dL_act_222 (by decide) rfl (n := 224) rfl ?_
    refine zr_iload_n h0 dL_act_224 rfl (n := 225) rfl ?_
    refine zr_iload_n h0 dL_act_225 rfl (n := 226) rfl ?_
    refine zr_imul h0 dL_act_226 (n := 227) rfl ?_
    refine zr_istore [(0, .ref a0), (1, .int l1_222), (2, .int l2_222), (3, .int l3_222), (4, .int l4_222), (5, .int l5_222), (6, .int l6_222), (7, .int l7_222), (8, .int l8_222), (9, .int l9_222), (10, .int l10_222), (11, .int s0_222), (12, .int (l2_222 * l2_222))] h0 dL_act_227 (by decide) rfl (n := 229) rfl ?_
    refine zr_iload_n h0 dL_act_229 rfl (n := 230) rfl ?_
    refine zr_bipush (36 : Int32) h0 (by decide) dL_act_230 (n := 232) rfl ?_
    refine zr_cRI C hC 0 0 (fun x hx => zk_S h0 (fun l D z0 => kL_low l D z0 l1_222 (36 : Int32) S_222 x hx) zw_105 zw_106 zw_0 zw_107 zyL_low (As := [.int l1_222, .int (36 : Int32)]) (st := []) rfl (by decide) rfl (Nat.le_of_ble_eq_true rfl) (by decide) dL_act_232) rfl rfl (n := 235) rfl (fun x87 => ?_)
    refine zr_switch C [384, 384, 401, 418, 431, 455, 455, 455, 470, 470, 515, 524, 555, 555, 562, 562, 562, 562, 562, 623, 623, 630, 630, 666, 673, 673, 716, 729, 738, 745, 772, 789, 847, 896] 936 h0 dL_act_235 rfl (by decide) (by decide) (zsw_all ?_) ?_
    · refine ⟨?_, ?_, ?_, ?_, ?_, ?_, ?_, ?_, ?_, ?_, ?_, ?_, ?_, ?_, ?_, ?_, ?_, ?_, ?_, ?_, ?_, ?_, ?_, ?_, ?_, ?_, ?_, ?_, ?_, ?_, ?_, ?_, ?_, ?_, trivial⟩
      · refine zv_sub (lv' := [(0, .ref a0), (7, .int l7_222), (8, .int l8_222), (9, .int l9_222)]) ?_ (zsub_of [0, 7, 8, 9] rfl)
        exact J384 l7_222 l8_222 l9_222 T_222 S_222 hI_222
      · refine zv_sub (lv' := [(0, .ref a0), (7, .int l7_222), (8, .int l8_222), (9, .int l9_222)]) ?_ (zsub_of [0, 7, 8, 9] rfl)
        exact J384 l7_222 l8_222 l9_222 T_222 S_222 hI_222
      · refine zv_sub (lv' := [(0, .ref a0), (7, .int l7_222), (8, .int l8_222), (9, .int l9_222)]) ?_ (zsub_of [0, 7, 8, 9] rfl)
        refine zr_aload_n h0 dL_act_401 rfl (n := 402) rfl ?_
        refine zr_iconst (1 : Int32) h0 (by decide) dL_act_402 (n := 403) rfl ?_
        refine zr_iload h0 dL_act_403 rfl (n := 405) rfl ?_
        refine zr_iadd h0 dL_act_405 (n := 406) rfl ?_
        refine zr_iconst (1 : Int32) h0 (by decide) dL_act_406 (n := 407) rfl ?_
        refine zr_iload h0 dL_act_407 rfl (n := 409) rfl ?_
        refine zr_iadd h0 dL_act_409 (n := 410) rfl ?_
        refine zr_iconst (1 : Int32) h0 (by decide) dL_act_410 (n := 411) rfl ?_
        refine zr_iload h0 dL_act_411 rfl (n := 413) rfl ?_
        refine zr_iadd h0 dL_act_413 (n := 414) rfl ?_
        refine zr_cW C hC .int (fun T9 S9 => I a0 T9 y U S9) 8 105 h0 hnt.fl (fun v9 hv9 hfr => zwf_matrices hO hI_222 hfr hv9) (fun x hx l D z0 hlt => kL_matrices l D z0 hlt a0 ((1 : Int32) + l7_222) ((1 : Int32) + l8_222) ((1 : Int32) + l9_222) S_222 x hx) zw_254 zw_255 zw_0 zw_256 zyL_matrices (As := [.ref a0, .int ((1 : Int32) + l7_222), .int ((1 : Int32) + l8_222), .int ((1 : Int32) + l9_222)]) (st := []) rfl (by decide) rfl (Nat.le_of_ble_eq_true rfl) (by decide) dL_act_414 rfl rfl (n := 417) rfl (fun x88 Sx88 hx88 => ?_)
        exact zr_iretT h0 rfl dL_act_417 (hE _ _ _ hx88) (by decide) (by decide)
      · refine zv_sub (lv' := [(0, .ref a0), (7, .int l7_222), (8, .int l8_222)]) ?_ (zsub_of [0, 7, 8] rfl)
        refine zr_aload_n h0 dL_act_418 rfl (n := 419) rfl ?_
        refine zr_iconst (1 : Int32) h0 (by decide) dL_act_419 (n := 420) rfl ?_
        refine zr_iload h0 dL_act_420 rfl (n := 422) rfl ?_
        refine zr_iadd h0 dL_act_422 (n := 423) rfl ?_
        refine zr_iconst (1 : Int32) h0 (by decide) dL_act_423 (n := 424) rfl ?_
        refine zr_iload h0 dL_act_424 rfl (n := 426) rfl ?_
        refine zr_iadd h0 dL_act_426 (n := 427) rfl ?_
        refine zr_cW C hC .int (fun T9 S9 => I a0 T9 y U S9) 7 99 h0 hnt.fl (fun v9 hv9 hfr => zwf_polynomials hO hI_222 hfr hv9) (fun x hx l D z0 hlt => kL_polynomials l D z0 hlt a0 ((1 : Int32) + l7_222) ((1 : Int32) + l8_222) S_222 x hx) zw_271 zw_272 zw_0 zw_273 zyL_polynomials (As := [.ref a0, .int ((1 : Int32) + l7_222), .int ((1 : Int32) + l8_222)]) (st := []) rfl (by decide) rfl (Nat.le_of_ble_eq_true rfl) (by decide) dL_act_427 rfl rfl (n := 430) rfl (fun x89 Sx89 hx89 => ?_)
        exact zr_iretT h0 rfl dL_act_430 (hE _ _ _ hx89) (by decide) (by decide)
      · refine zv_sub (lv' := [(0, .ref a0), (1, .int l1_222), (3, .int l3_222), (10, .int l10_222)]) ?_ (zsub_of [0, 1, 3, 10] rfl)
        refine zr_aload_n h0 dL_act_431 rfl (n := 432) rfl ?_
        refine zr_iload_n h0 dL_act_432 rfl (n := 433) rfl ?_
        refine zr_if_eq C (tgt := 441) h0 dL_act_433 (by decide) (n := 436) rfl ?_ ?_
        · refine zv_sub (lv' := [(1, .int l1_222)]) ?_ (zsub_of [1] rfl)
          refine zr_iconst (1 : Int32) h0 (by decide) dL_act_441 (n := 442) rfl ?_
          refine zr_iload_n h0 dL_act_442 rfl (n := 443) rfl ?_
          refine zr_bipush (8 : Int32) h0 (by decide) dL_act_443 (n := 445) rfl ?_
          refine zr_ishr h0 dL_act_445 (n := 446) rfl ?_
          refine zr_iconst (3 : Int32) h0 (by decide) dL_act_446 (n := 447) rfl ?_
          refine zr_cRI C hC 0 0 (fun x hx => zk_S h0 (fun l D z0 => kL_low l D z0 (l1_222 >>> ((8 : Int32) &&& 31)) (3 : Int32) S_222 x hx) zw_105 zw_106 zw_0 zw_107 zyL_low (As := [.int (l1_222 >>> ((8 : Int32) &&& 31)), .int (3 : Int32)]) (st := [.int (1 : Int32), .ref a0]) rfl (by decide) rfl (Nat.le_of_ble_eq_true rfl) (by decide) dL_act_447) rfl rfl (n := 450) rfl (fun x90 => ?_)
          refine zr_iadd h0 dL_act_450 (n := 451) rfl ?_
          refine zv_sub (lv' := []) ?_ (zsub_of [] rfl)
          exact J451 ((1 : Int32) + x90) T_222 S_222 hI_222
        · refine zv_sub (lv' := [(10, .int l10_222)]) ?_ (zsub_of [3] rfl)
          refine zr_iload h0 dL_act_436 rfl (n := 438) rfl ?_
          refine zr_goto (tgt := 451) h0 dL_act_438 (by decide) ?_
          refine zv_sub (lv' := []) ?_ (zsub_of [] rfl)
          exact J451 l10_222 T_222 S_222 hI_222
      · refine zv_sub (lv' := [(0, .ref a0), (4, .int l4_222), (7, .int l7_222), (8, .int l8_222), (9, .int l9_222), (10, .int l10_222)]) ?_ (zsub_of [0, 4, 7, 8, 9, 10] rfl)
        exact J455 l4_222 l7_222 l8_222 l9_222 l10_222 T_222 S_222 hI_222
      · refine zv_sub (lv' := [(0, .ref a0), (4, .int l4_222), (7, .int l7_222), (8, .int l8_222), (9, .int l9_222), (10, .int l10_222)]) ?_ (zsub_of [0, 4, 7, 8, 9, 10] rfl)
        exact J455 l4_222 l7_222 l8_222 l9_222 l10_222 T_222 S_222 hI_222
      · refine zv_sub (lv' := [(0, .ref a0), (4, .int l4_222), (7, .int l7_222), (8, .int l8_222), (9, .int l9_222), (10, .int l10_222)]) ?_ (zsub_of [0, 4, 7, 8, 9, 10] rfl)
        exact J455 l4_222 l7_222 l8_222 l9_222 l10_222 T_222 S_222 hI_222
      · refine zv_sub (lv' := [(0, .ref a0), (1, .int l1_222), (2, .int l2_222), (3, .int l3_222), (4, .int l4_222), (7, .int l7_222), (8, .int l8_222), (10, .int l10_222), (11, .int s0_222)]) ?_ (zsub_of [0, 1, 2, 3, 4, 7, 8, 10, 11] rfl)
        exact J470 l1_222 l2_222 l3_222 l4_222 l7_222 l8_222 l10_222 s0_222 T_222 S_222 hI_222
      · refine zv_sub (lv' := [(0, .ref a0), (1, .int l1_222), (2, .int l2_222), (3, .int l3_222), (4, .int l4_222), (7, .int l7_222), (8, .int l8_222), (10, .int l10_222), (11, .int s0_222)]) ?_ (zsub_of [0, 1, 2, 3, 4, 7, 8, 10, 11] rfl)
        exact J470 l1_222 l2_222 l3_222 l4_222 l7_222 l8_222 l10_222 s0_222 T_222 S_222 hI_222
      · refine zv_sub (lv' := [(0, .ref a0), (4, .int l4_222), (5, .int l5_222)]) ?_ (zsub_of [0, 4, 5] rfl)
        refine zr_aload_n h0 dL_act_515 rfl (n := 516) rfl ?_
        refine zr_iload h0 dL_act_516 rfl (n := 518) rfl ?_
        refine zr_iload h0 dL_act_518 rfl (n := 520) rfl ?_
        refine zr_cW C hC .int (fun T9 S9 => I a0 T9 y U S9) 7 99 h0 hnt.fl (fun v9 hv9 hfr => zwf_sum hO hI_222 hfr hv9) (fun x hx l D z0 hlt => kL_sum l D z0 hlt a0 l4_222 l5_222 S_222 x hx) zw_364 zw_365 zw_0 zw_366 zyL_sum (As := [.ref a0, .int l4_222, .int l5_222]) (st := []) rfl (by decide) rfl (Nat.le_of_ble_eq_true rfl) (by decide) dL_act_520 rfl rfl (n := 523) rfl (fun x91 Sx91 hx91 => ?_)
        exact zr_iretT h0 rfl dL_act_523 (hE _ _ _ hx91) (by decide) (by decide)
      · refine zv_sub (lv' := [(0, .ref a0), (1, .int l1_222), (4, .int l4_222), (5, .int l5_222)]) ?_ (zsub_of [0, 1, 4, 5] rfl)
        refine zr_iload_n h0 dL_act_524 rfl (n := 525) rfl ?_
        refine zr_bipush (16 : Int32) h0 (by decide) dL_act_525 (n := 527) rfl ?_
        refine zr_ishr h0 dL_act_527 (n := 528) rfl ?_
        refine zr_iconst (4 : Int32) h0 (by decide) dL_act_528 (n := 529) rfl ?_
        refine zr_cRI C hC 0 0 (fun x hx => zk_S h0 (fun l D z0 => kL_low l D z0 (l1_222 >>> ((16 : Int32) &&& 31)) (4 : Int32) S_222 x hx) zw_105 zw_106 zw_0 zw_107 zyL_low (As := [.int (l1_222 >>> ((16 : Int32) &&& 31)), .int (4 : Int32)]) (st := []) rfl (by decide) rfl (Nat.le_of_ble_eq_true rfl) (by decide) dL_act_529) rfl rfl (n := 532) rfl (fun x92 => ?_)
        refine zr_if_ne C (tgt := 546) h0 dL_act_532 (by decide) (n := 535) rfl ?_ ?_
        · refine zv_sub (lv' := [(0, .ref a0), (4, .int l4_222), (5, .int l5_222)]) ?_ (zsub_of [0, 2, 3] rfl)
          refine zr_aload_n h0 dL_act_535 rfl (n := 536) rfl ?_
          refine zr_iload h0 dL_act_536 rfl (n := 538) rfl ?_
          refine zr_iload h0 dL_act_538 rfl (n := 540) rfl ?_
          refine zr_cW C hC .int (fun T9 S9 => I a0 T9 y U S9) 7 99 h0 hnt.fl (fun v9 hv9 hfr => zwf_product hO hI_222 hfr hv9) (fun x hx l D z0 hlt => kL_product l D z0 hlt a0 l4_222 l5_222 S_222 x hx) zw_376 zw_377 zw_0 zw_378 zyL_product (As := [.ref a0, .int l4_222, .int l5_222]) (st := []) rfl (by decide) rfl (Nat.le_of_ble_eq_true rfl) (by decide) dL_act_540 rfl rfl (n := 543) rfl (fun x93 Sx93 hx93 => ?_)
          refine zr_goto (tgt := 554) h0 dL_act_543 (by decide) ?_
          refine zv_sub (lv' := []) ?_ (zsub_of [] rfl)
          exact J554 x93.1 x93.2 Sx93 hx93
        · refine zv_sub (lv' := [(0, .ref a0), (4, .int l4_222)]) ?_ (zsub_of [0, 2] rfl)
          refine zr_aload_n h0 dL_act_546 rfl (n := 547) rfl ?_
          refine zr_iload h0 dL_act_547 rfl (n := 549) rfl ?_
          refine zr_iload h0 dL_act_549 rfl (n := 551) rfl ?_
          refine zr_cW C hC .int (fun T9 S9 => I a0 T9 y U S9) 7 99 h0 hnt.fl (fun v9 hv9 hfr => zwf_sum hO hI_222 hfr hv9) (fun x hx l D z0 hlt => kL_sum l D z0 hlt a0 l4_222 l4_222 S_222 x hx) zw_364 zw_365 zw_0 zw_366 zyL_sum (As := [.ref a0, .int l4_222, .int l4_222]) (st := []) rfl (by decide) rfl (Nat.le_of_ble_eq_true rfl) (by decide) dL_act_551 rfl rfl (n := 554) rfl (fun x94 Sx94 hx94 => ?_)
          refine zv_sub (lv' := []) ?_ (zsub_of [] rfl)
          exact J554 x94.1 x94.2 Sx94 hx94
      · refine zv_sub (lv' := [(0, .ref a0), (4, .int l4_222)]) ?_ (zsub_of [0, 4] rfl)
        exact J555 l4_222 T_222 S_222 hI_222
      · refine zv_sub (lv' := [(0, .ref a0), (4, .int l4_222)]) ?_ (zsub_of [0, 4] rfl)
        exact J555 l4_222 T_222 S_222 hI_222
      · refine zv_sub (lv' := [(0, .ref a0), (1, .int l1_222), (3, .int l3_222), (6, .int l6_222), (8, .int l8_222), (9, .int l9_222), (10, .int l10_222), (12, .int (l2_222 * l2_222))]) ?_ (zsub_of [0, 1, 3, 6, 8, 9, 10, 12] rfl)
        exact J562 l1_222 l3_222 l6_222 l8_222 l9_222 l10_222 (l2_222 * l2_222) T_222 S_222 hI_222
      · refine zv_sub (lv' := [(0, .ref a0), (1, .int l1_222), (3, .int l3_222), (6, .int l6_222), (8, .int l8_222), (9, .int l9_222), (10, .int l10_222), (12, .int (l2_222 * l2_222))]) ?_ (zsub_of [0, 1, 3, 6, 8, 9, 10, 12] rfl)
        exact J562 l1_222 l3_222 l6_222 l8_222 l9_222 l10_222 (l2_222 * l2_222) T_222 S_222 hI_222
      · refine zv_sub (lv' := [(0, .ref a0), (1, .int l1_222), (3, .int l3_222), (6, .int l6_222), (8, .int l8_222), (9, .int l9_222), (10, .int l10_222), (12, .int (l2_222 * l2_222))]) ?_ (zsub_of [0, 1, 3, 6, 8, 9, 10, 12] rfl)
        exact J562 l1_222 l3_222 l6_222 l8_222 l9_222 l10_222 (l2_222 * l2_222) T_222 S_222 hI_222
      · refine zv_sub (lv' := [(0, .ref a0), (1, .int l1_222), (3, .int l3_222), (6, .int l6_222), (8, .int l8_222), (9, .int l9_222), (10, .int l10_222), (12, .int (l2_222 * l2_222))]) ?_ (zsub_of [0, 1, 3, 6, 8, 9, 10, 12] rfl)
        exact J562 l1_222 l3_222 l6_222 l8_222 l9_222 l10_222 (l2_222 * l2_222) T_222 S_222 hI_222
      · refine zv_sub (lv' := [(0, .ref a0), (1, .int l1_222), (3, .int l3_222), (6, .int l6_222), (8, .int l8_222), (9, .int l9_222), (10, .int l10_222), (12, .int (l2_222 * l2_222))]) ?_ (zsub_of [0, 1, 3, 6, 8, 9, 10, 12] rfl)
        exact J562 l1_222 l3_222 l6_222 l8_222 l9_222 l10_222 (l2_222 * l2_222) T_222 S_222 hI_222
      · refine zv_sub (lv' := [(0, .ref a0), (6, .int l6_222)]) ?_ (zsub_of [0, 6] rfl)
        exact J623 l6_222 T_222 S_222 hI_222
      · refine zv_sub (lv' := [(0, .ref a0), (6, .int l6_222)]) ?_ (zsub_of [0, 6] rfl)
        exact J623 l6_222 T_222 S_222 hI_222
      · refine zv_sub (lv' := [(0, .ref a0), (1, .int l1_222), (3, .int l3_222), (6, .int l6_222), (8, .int l8_222), (11, .int s0_222)]) ?_ (zsub_of [0, 1, 3, 6, 8, 11] rfl)
        exact J630 l1_222 l3_222 l6_222 l8_222 s0_222 T_222 S_222 hI_222
      · refine zv_sub (lv' := [(0, .ref a0), (1, .int l1_222), (3, .int l3_222), (6, .int l6_222), (8, .int l8_222), (11, .int s0_222)]) ?_ (zsub_of [0, 1, 3, 6, 8, 11] rfl)
        exact J630 l1_222 l3_222 l6_222 l8_222 s0_222 T_222 S_222 hI_222
      · refine zv_sub (lv' := [(0, .ref a0), (6, .int l6_222)]) ?_ (zsub_of [0, 6] rfl)
        refine zr_aload_n h0 dL_act_666 rfl (n := 667) rfl ?_
        refine zr_iload h0 dL_act_667 rfl (n := 669) rfl ?_
        refine zr_cW C hC .int (fun T9 S9 => I a0 T9 y U S9) 1 6 h0 hnt.fl (fun v9 hv9 hfr => zwf_reduce hO hI_222 hfr hv9) (fun x hx l D z0 hlt => kL_reduce l D z0 hlt a0 l6_222 S_222 x hx) zw_512 zw_513 zw_0 zw_514 zyL_reduce (As := [.ref a0, .int l6_222]) (st := []) rfl (by decide) rfl (Nat.le_of_ble_eq_true rfl) (by decide) dL_act_669 rfl rfl (n := 672) rfl (fun x95 Sx95 hx95 => ?_)
        exact zr_iretT h0 rfl dL_act_672 (hE _ _ _ hx95) (by decide) (by decide)
      · refine zv_sub (lv' := [(0, .ref a0), (1, .int l1_222), (3, .int l3_222), (6, .int l6_222), (10, .int l10_222)]) ?_ (zsub_of [0, 1, 3, 6, 10] rfl)
        exact J673 l1_222 l3_222 l6_222 l10_222 T_222 S_222 hI_222
      · refine zv_sub (lv' := [(0, .ref a0), (1, .int l1_222), (3, .int l3_222), (6, .int l6_222), (10, .int l10_222)]) ?_ (zsub_of [0, 1, 3, 6, 10] rfl)
        exact J673 l1_222 l3_222 l6_222 l10_222 T_222 S_222 hI_222
      · refine zv_sub (lv' := [(0, .ref a0), (4, .int l4_222), (7, .int l7_222), (8, .int l8_222), (9, .int l9_222)]) ?_ (zsub_of [0, 4, 7, 8, 9] rfl)
        refine zr_aload_n h0 dL_act_716 rfl (n := 717) rfl ?_
        refine zr_iload h0 dL_act_717 rfl (n := 719) rfl ?_
        refine zr_iload h0 dL_act_719 rfl (n := 721) rfl ?_
        refine zr_iload h0 dL_act_721 rfl (n := 723) rfl ?_
        refine zr_iload h0 dL_act_723 rfl (n := 725) rfl ?_
        refine zr_cW C hC .int (fun T9 S9 => I a0 T9 y U S9) 2 12 h0 hnt.fl (fun v9 hv9 hfr => zwf_at hO hI_222 hfr hv9) (fun x hx l D z0 hlt => kL_at l D z0 hlt a0 l4_222 l7_222 l8_222 l9_222 S_222 x hx) zw_570 zw_571 zw_0 zw_572 zyL_at (As := [.ref a0, .int l4_222, .int l7_222, .int l8_222, .int l9_222]) (st := []) rfl (by decide) rfl (Nat.le_of_ble_eq_true rfl) (by decide) dL_act_725 rfl rfl (n := 728) rfl (fun x96 Sx96 hx96 => ?_)
        exact zr_iretT h0 rfl dL_act_728 (hE _ _ _ hx96) (by decide) (by decide)
      · refine zv_sub (lv' := [(0, .ref a0), (4, .int l4_222), (11, .int s0_222)]) ?_ (zsub_of [0, 4, 11] rfl)
        refine zr_aload_n h0 dL_act_729 rfl (n := 730) rfl ?_
        refine zr_iload h0 dL_act_730 rfl (n := 732) rfl ?_
        refine zr_iload h0 dL_act_732 rfl (n := 734) rfl ?_
        refine zr_cW C hC .int (fun T9 S9 => I a0 T9 y U S9) 2 12 h0 hnt.fl (fun v9 hv9 hfr => zwf_flattening hO hI_222 hfr hv9) (fun x hx l D z0 hlt => kL_flattening l D z0 hlt a0 l4_222 s0_222 S_222 x hx) zw_577 zw_578 zw_0 zw_579 zyL_flattening (As := [.ref a0, .int l4_222, .int s0_222]) (st := []) rfl (by decide) rfl (Nat.le_of_ble_eq_true rfl) (by decide) dL_act_734 rfl rfl (n := 737) rfl (fun x97 Sx97 hx97 => ?_)
        exact zr_iretT h0 rfl dL_act_737 (hE _ _ _ hx97) (by decide) (by decide)
      · refine zv_sub (lv' := [(0, .ref a0), (4, .int l4_222)]) ?_ (zsub_of [0, 4] rfl)
        refine zr_aload_n h0 dL_act_738 rfl (n := 739) rfl ?_
        refine zr_iload h0 dL_act_739 rfl (n := 741) rfl ?_
        refine zr_cW C hC .int (fun T9 S9 => I a0 T9 y U S9) 1 6 h0 hnt.fl (fun v9 hv9 hfr => zwf_bound hO hI_222 hfr hv9) (fun x hx l D z0 hlt => kL_bound l D z0 hlt a0 l4_222 S_222 x hx) zw_620 zw_621 zw_0 zw_622 zyL_bound (As := [.ref a0, .int l4_222]) (st := []) rfl (by decide) rfl (Nat.le_of_ble_eq_true rfl) (by decide) dL_act_741 rfl rfl (n := 744) rfl (fun x98 Sx98 hx98 => ?_)
        exact zr_iretT h0 rfl dL_act_744 (hE _ _ _ hx98) (by decide) (by decide)
      · refine zv_sub (lv' := [(0, .ref a0), (1, .int l1_222), (4, .int l4_222), (5, .int l5_222)]) ?_ (zsub_of [0, 1, 4, 5] rfl)
        refine zr_iload_n h0 dL_act_745 rfl (n := 746) rfl ?_
        refine zr_bipush (16 : Int32) h0 (by decide) dL_act_746 (n := 748) rfl ?_
        refine zr_ishr h0 dL_act_748 (n := 749) rfl ?_
        refine zr_iconst (4 : Int32) h0 (by decide) dL_act_749 (n := 750) rfl ?_
        refine zr_cRI C hC 0 0 (fun x hx => zk_S h0 (fun l D z0 => kL_low l D z0 (l1_222 >>> ((16 : Int32) &&& 31)) (4 : Int32) S_222 x hx) zw_105 zw_106 zw_0 zw_107 zyL_low (As := [.int (l1_222 >>> ((16 : Int32) &&& 31)), .int (4 : Int32)]) (st := []) rfl (by decide) rfl (Nat.le_of_ble_eq_true rfl) (by decide) dL_act_750) rfl rfl (n := 753) rfl (fun x99 => ?_)
        refine zr_if_ne C (tgt := 765) h0 dL_act_753 (by decide) (n := 756) rfl ?_ ?_
        · refine zv_sub (lv' := [(0, .ref a0), (4, .int l4_222)]) ?_ (zsub_of [0, 2] rfl)
          refine zr_aload_n h0 dL_act_756 rfl (n := 757) rfl ?_
          refine zr_iload h0 dL_act_757 rfl (n := 759) rfl ?_
          refine zr_cW C hC .int (fun T9 S9 => I a0 T9 y U S9) 2 12 h0 hnt.fl (fun v9 hv9 hfr => zwf_least hO hI_222 hfr hv9) (fun x hx l D z0 hlt => kL_least l D z0 hlt a0 l4_222 S_222 x hx) zw_634 zw_635 zw_0 zw_636 zyL_least (As := [.ref a0, .int l4_222]) (st := []) rfl (by decide) rfl (Nat.le_of_ble_eq_true rfl) (by decide) dL_act_759 rfl rfl (n := 762) rfl (fun x100 Sx100 hx100 => ?_)
          refine zr_goto (tgt := 771) h0 dL_act_762 (by decide) ?_
          refine zv_sub (lv' := []) ?_ (zsub_of [] rfl)
          exact J771 x100.1 x100.2 Sx100 hx100
        · refine zv_sub (lv' := [(0, .ref a0), (5, .int l5_222)]) ?_ (zsub_of [0, 3] rfl)
          refine zr_aload_n h0 dL_act_765 rfl (n := 766) rfl ?_
          refine zr_iload h0 dL_act_766 rfl (n := 768) rfl ?_
          refine zr_cW C hC .int (fun T9 S9 => I a0 T9 y U S9) 1 6 h0 hnt.fl (fun v9 hv9 hfr => zwf_bound hO hI_222 hfr hv9) (fun x hx l D z0 hlt => kL_bound l D z0 hlt a0 l5_222 S_222 x hx) zw_620 zw_621 zw_0 zw_622 zyL_bound (As := [.ref a0, .int l5_222]) (st := []) rfl (by decide) rfl (Nat.le_of_ble_eq_true rfl) (by decide) dL_act_768 rfl rfl (n := 771) rfl (fun x101 Sx101 hx101 => ?_)
          refine zv_sub (lv' := []) ?_ (zsub_of [] rfl)
          refine zv_wide (ce' := 2) (sl' := 12) ?_ (by first | decide | omega) (by first | decide | omega)
          exact J771 x101.1 x101.2 Sx101 hx101
      · refine zv_sub (lv' := [(0, .ref a0), (1, .int l1_222), (6, .int l6_222), (11, .int s0_222)]) ?_ (zsub_of [0, 1, 6, 11] rfl)
        refine zr_aload_n h0 dL_act_772 rfl (n := 773) rfl ?_
        refine zr_iload h0 dL_act_773 rfl (n := 775) rfl ?_
        refine zr_iload_n h0 dL_act_775 rfl (n := 776) rfl ?_
        refine zr_bipush (9 : Int32) h0 (by decide) dL_act_776 (n := 778) rfl ?_
        refine zr_ishr h0 dL_act_778 (n := 779) rfl ?_
        refine zr_iconst (5 : Int32) h0 (by decide) dL_act_779 (n := 780) rfl ?_
        refine zr_cRI C hC 0 0 (fun x hx => zk_S h0 (fun l D z0 => kL_low l D z0 (l1_222 >>> ((9 : Int32) &&& 31)) (5 : Int32) S_222 x hx) zw_105 zw_106 zw_0 zw_107 zyL_low (As := [.int (l1_222 >>> ((9 : Int32) &&& 31)), .int (5 : Int32)]) (st := [.int l6_222, .ref a0]) rfl (by decide) rfl (Nat.le_of_ble_eq_true rfl) (by decide) dL_act_780) rfl rfl (n := 783) rfl (fun x102 => ?_)
        refine zr_iload h0 dL_act_783 rfl (n := 785) rfl ?_
        refine zr_cW C hC .int (fun T9 S9 => I a0 T9 y U S9) 3 18 h0 hnt.fl (fun v9 hv9 hfr => zwf_vector hO hI_222 hfr hv9) (fun x hx l D z0 hlt => kL_vector l D z0 hlt a0 l6_222 x102 s0_222 S_222 x hx) zw_683 zw_684 zw_0 zw_685 zyL_vector (As := [.ref a0, .int l6_222, .int x102, .int s0_222]) (st := []) rfl (by decide) rfl (Nat.le_of_ble_eq_true rfl) (by decide) dL_act_785 rfl rfl (n := 788) rfl (fun x103 Sx103 hx103 => ?_)
        exact zr_iretT h0 rfl dL_act_788 (hE _ _ _ hx103) (by decide) (by decide)
      · refine zv_sub (lv' := [(0, .ref a0), (1, .int l1_222), (2, .int l2_222), (3, .int l3_222), (6, .int l6_222), (8, .int l8_222), (9, .int l9_222), (10, .int l10_222)]) ?_ (zsub_of [0, 1, 2, 3, 6, 8, 9, 10] rfl)
        refine zr_aload_n h0 dL_act_789 rfl (n := 790) rfl ?_
        refine zr_iload h0 dL_act_790 rfl (n := 792) rfl ?_
        refine zr_iload_n h0 dL_act_792 rfl (n := 793) rfl ?_
        refine zr_if_eq C (tgt := 801) h0 dL_act_793 (by decide) (n := 796) rfl ?_ ?_
        · refine zv_sub (lv' := [(1, .int l1_222), (2, .int l2_222), (3, .int l3_222), (8, .int l8_222), (9, .int l9_222)]) ?_ (zsub_of [1, 2, 3, 5, 6] rfl)
          refine zr_iload_n h0 dL_act_801 rfl (n := 802) rfl ?_
          refine zr_bipush (8 : Int32) h0 (by decide) dL_act_802 (n := 804) rfl ?_
          refine zr_ishr h0 dL_act_804 (n := 805) rfl ?_
          refine zr_iload_n h0 dL_act_805 rfl (n := 806) rfl ?_
          refine zr_cRI C hC 0 0 (fun x hx => zk_S h0 (fun l D z0 => kL_low l D z0 (l1_222 >>> ((8 : Int32) &&& 31)) l2_222 S_222 x hx) zw_105 zw_106 zw_0 zw_107 zyL_low (As := [.int (l1_222 >>> ((8 : Int32) &&& 31)), .int l2_222]) (st := [.int l6_222, .ref a0]) rfl (by decide) rfl (Nat.le_of_ble_eq_true rfl) (by decide) dL_act_806) rfl rfl (n := 809) rfl (fun x104 => ?_)
          exact J809 l1_222 l2_222 l3_222 l8_222 l9_222 l6_222 x104 T_222 S_222 hI_222
        · refine zv_sub (lv' := [(1, .int l1_222), (2, .int l2_222), (3, .int l3_222), (8, .int l8_222), (9, .int l9_222), (10, .int l10_222)]) ?_ (zsub_of [1, 2, 3, 5, 6, 7] rfl)
          refine zr_iload h0 dL_act_796 rfl (n := 798) rfl ?_
          refine zr_goto (tgt := 809) h0 dL_act_798 (by decide) ?_
          refine zv_sub (lv' := [(1, .int l1_222), (2, .int l2_222), (3, .int l3_222), (8, .int l8_222), (9, .int l9_222)]) ?_ (zsub_of [0, 1, 2, 3, 4] rfl)
          exact J809 l1_222 l2_222 l3_222 l8_222 l9_222 l6_222 l10_222 T_222 S_222 hI_222
      · refine zv_sub (lv' := [(0, .ref a0), (1, .int l1_222), (2, .int l2_222), (3, .int l3_222), (6, .int l6_222), (9, .int l9_222), (10, .int l10_222)]) ?_ (zsub_of [0, 1, 2, 3, 6, 9, 10] rfl)
        refine zr_aload_n h0 dL_act_847 rfl (n := 848) rfl ?_
        refine zr_iload h0 dL_act_848 rfl (n := 850) rfl ?_
        refine zr_iload_n h0 dL_act_850 rfl (n := 851) rfl ?_
        refine zr_if_eq C (tgt := 859) h0 dL_act_851 (by decide) (n := 854) rfl ?_ ?_
        · refine zv_sub (lv' := [(1, .int l1_222), (2, .int l2_222), (3, .int l3_222), (9, .int l9_222)]) ?_ (zsub_of [1, 2, 3, 5] rfl)
          refine zr_iload_n h0 dL_act_859 rfl (n := 860) rfl ?_
          refine zr_bipush (8 : Int32) h0 (by decide) dL_act_860 (n := 862) rfl ?_
          refine zr_ishr h0 dL_act_862 (n := 863) rfl ?_
          refine zr_iload_n h0 dL_act_863 rfl (n := 864) rfl ?_
          refine zr_cRI C hC 0 0 (fun x hx => zk_S h0 (fun l D z0 => kL_low l D z0 (l1_222 >>> ((8 : Int32) &&& 31)) l2_222 S_222 x hx) zw_105 zw_106 zw_0 zw_107 zyL_low (As := [.int (l1_222 >>> ((8 : Int32) &&& 31)), .int l2_222]) (st := [.int l6_222, .ref a0]) rfl (by decide) rfl (Nat.le_of_ble_eq_true rfl) (by decide) dL_act_864) rfl rfl (n := 867) rfl (fun x105 => ?_)
          exact J867 l1_222 l2_222 l3_222 l9_222 l6_222 x105 T_222 S_222 hI_222
        · refine zv_sub (lv' := [(1, .int l1_222), (2, .int l2_222), (3, .int l3_222), (9, .int l9_222), (10, .int l10_222)]) ?_ (zsub_of [1, 2, 3, 5, 6] rfl)
          refine zr_iload h0 dL_act_854 rfl (n := 856) rfl ?_
          refine zr_goto (tgt := 867) h0 dL_act_856 (by decide) ?_
          refine zv_sub (lv' := [(1, .int l1_222), (2, .int l2_222), (3, .int l3_222), (9, .int l9_222)]) ?_ (zsub_of [0, 1, 2, 3] rfl)
          exact J867 l1_222 l2_222 l3_222 l9_222 l6_222 l10_222 T_222 S_222 hI_222
      · refine zv_sub (lv' := [(0, .ref a0), (1, .int l1_222), (3, .int l3_222), (6, .int l6_222), (10, .int l10_222)]) ?_ (zsub_of [0, 1, 3, 6, 10] rfl)
        refine zr_aload_n h0 dL_act_896 rfl (n := 897) rfl ?_
        refine zr_iload h0 dL_act_897 rfl (n := 899) rfl ?_
        refine zr_iload_n h0 dL_act_899 rfl (n := 900) rfl ?_
        refine zr_if_eq C (tgt := 908) h0 dL_act_900 (by decide) (n := 903) rfl ?_ ?_
        · refine zv_sub (lv' := [(1, .int l1_222)]) ?_ (zsub_of [1] rfl)
          refine zr_iload_n h0 dL_act_908 rfl (n := 909) rfl ?_
          refine zr_bipush (8 : Int32) h0 (by decide) dL_act_909 (n := 911) rfl ?_
          refine zr_ishr h0 dL_act_911 (n := 912) rfl ?_
          refine zr_iconst (4 : Int32) h0 (by decide) dL_act_912 (n := 913) rfl ?_
          refine zr_cRI C hC 0 0 (fun x hx => zk_S h0 (fun l D z0 => kL_low l D z0 (l1_222 >>> ((8 : Int32) &&& 31)) (4 : Int32) S_222 x hx) zw_105 zw_106 zw_0 zw_107 zyL_low (As := [.int (l1_222 >>> ((8 : Int32) &&& 31)), .int (4 : Int32)]) (st := [.int l6_222, .ref a0]) rfl (by decide) rfl (Nat.le_of_ble_eq_true rfl) (by decide) dL_act_913) rfl rfl (n := 916) rfl (fun x106 => ?_)
          exact J916 l1_222 l6_222 x106 T_222 S_222 hI_222
        · refine zv_sub (lv' := [(1, .int l1_222), (10, .int l10_222)]) ?_ (zsub_of [1, 4] rfl)
          refine zr_iload h0 dL_act_903 rfl (n := 905) rfl ?_
          refine zr_goto (tgt := 916) h0 dL_act_905 (by decide) ?_
          refine zv_sub (lv' := [(1, .int l1_222)]) ?_ (zsub_of [0] rfl)
          exact J916 l1_222 l6_222 l10_222 T_222 S_222 hI_222
    · refine zv_sub (lv' := [(0, .ref a0), (1, .int l1_222), (3, .int l3_222), (6, .int l6_222), (10, .int l10_222)]) ?_ (zsub_of [0, 1, 3, 6, 10] rfl)
      refine zr_aload_n h0 dL_act_936 rfl (n := 937) rfl ?_
      refine zr_iload h0 dL_act_937 rfl (n := 939) rfl ?_
      refine zr_iload_n h0 dL_act_939 rfl (n := 940) rfl ?_
      refine zr_if_eq C (tgt := 948) h0 dL_act_940 (by decide) (n := 943) rfl ?_ ?_
      · refine zv_sub (lv' := [(1, .int l1_222)]) ?_ (zsub_of [1] rfl)
        refine zr_iload_n h0 dL_act_948 rfl (n := 949) rfl ?_
        refine zr_bipush (8 : Int32) h0 (by decide) dL_act_949 (n := 951) rfl ?_
        refine zr_ishr h0 dL_act_951 (n := 952) rfl ?_
        refine zr_iconst (5 : Int32) h0 (by decide) dL_act_952 (n := 953) rfl ?_
        refine zr_cRI C hC 0 0 (fun x hx => zk_S h0 (fun l D z0 => kL_low l D z0 (l1_222 >>> ((8 : Int32) &&& 31)) (5 : Int32) S_222 x hx) zw_105 zw_106 zw_0 zw_107 zyL_low (As := [.int (l1_222 >>> ((8 : Int32) &&& 31)), .int (5 : Int32)]) (st := [.int l6_222, .ref a0]) rfl (by decide) rfl (Nat.le_of_ble_eq_true rfl) (by decide) dL_act_953) rfl rfl (n := 956) rfl (fun x107 => ?_)
        refine zv_sub (lv' := []) ?_ (zsub_of [] rfl)
        exact J956 l6_222 x107 T_222 S_222 hI_222
      · refine zv_sub (lv' := [(10, .int l10_222)]) ?_ (zsub_of [4] rfl)
        refine zr_iload h0 dL_act_943 rfl (n := 945) rfl ?_
        refine zr_goto (tgt := 956) h0 dL_act_945 (by decide) ?_
        refine zv_sub (lv' := []) ?_ (zsub_of [] rfl)
        exact J956 l6_222 l10_222 T_222 S_222 hI_222
  have J194 : ∀ (l1_194 : Int32) (l2_194 : Int32) (l3_194 : Int32) (l4_194 : Int32) (l5_194 : Int32) (l6_194 : Int32) (l7_194 : Int32) (l8_194 : Int32) (l9_194 : Int32) (s0_194 : Int32) (T_194 : TZ) (S_194 : ZS) (hI_194 : I a0 T_194 y U S_194), zV G 13 S_194 0 0 194 [(0, .ref a0), (1, .int l1_194), (2, .int l2_194), (3, .int l3_194), (4, .int l4_194), (5, .int l5_194), (6, .int l6_194), (7, .int l7_194), (8, .int l8_194), (9, .int l9_194)] [.int s0_194] (C (fL_act_J194 O OL l1_194 l2_194 l3_194 l4_194 l5_194 l6_194 l7_194 l8_194 l9_194 s0_194 T_194)) := by
    intro l1_194 l2_194 l3_194 l4_194 l5_194 l6_194 l7_194 l8_194 l9_194 s0_194 T_194 S_194 hI_194
    unfold fL_act_J194
    refine zr_istore [(0, .ref a0), (1, .int l1_194), (2, .int l2_194), (3, .int l3_194), (4, .int l4_194), (5, .int l5_194), (6, .int l6_194), (7, .int l7_194), (8, .int l8_194), (9, .int l9_194), (10, .int s0_194)] h0 dL_act_194 (by decide) rfl (n := 196) rfl ?_
    refine zr_iload_n h0 dL_act_196 rfl (n := 197) rfl ?_
    refine zr_if_eq C (tgt := 214) h0 dL_act_197 (by decide) (n := 200) rfl ?_ ?_
    · refine zr_iload_n h0 dL_act_214 rfl (n := 215) rfl ?_
      refine zr_bipush (6 : Int32) h0 (by decide) dL_act_215 (n := 217) rfl ?_
      refine zr_ishr h0 dL_act_217 (n := 218) rfl ?_
      refine zr_iconst (3 : Int32) h0 (by decide) dL_act_218 (n := 219) rfl ?_
      refine zr_cRI C hC 0 0 (fun x hx => zk_S h0 (fun l D z0 => kL_low l D z0 (l1_194 >>> ((6 : Int32) &&& 31)) (3 : Int32) S_194 x hx) zw_105 zw_106 zw_0 zw_107 zyL_low (As := [.int (l1_194 >>> ((6 : Int32) &&& 31)), .int (3 : Int32)]) (st := []) rfl (by decide) rfl (Nat.le_of_ble_eq_true rfl) (by decide) dL_act_219) rfl rfl (n := 222) rfl (fun x108 => ?_)
      exact J222 l1_194 l2_194 l3_194 l4_194 l5_194 l6_194 l7_194 l8_194 l9_194 s0_194 x108 T_194 S_194 hI_194
    · refine zr_iload_n h0 dL_act_200 rfl (n := 201) rfl ?_
      refine zr_bipush (6 : Int32) h0 (by decide) dL_act_201 (n := 203) rfl ?_
      refine zr_ishr h0 dL_act_203 (n := 204) rfl ?_
      refine zr_bipush (6 : Int32) h0 (by decide) dL_act_204 (n := 206) rfl ?_
      refine zr_cRI C hC 0 0 (fun x hx => zk_S h0 (fun l D z0 => kL_low l D z0 (l1_194 >>> ((6 : Int32) &&& 31)) (6 : Int32) S_194 x hx) zw_105 zw_106 zw_0 zw_107 zyL_low (As := [.int (l1_194 >>> ((6 : Int32) &&& 31)), .int (6 : Int32)]) (st := []) rfl (by decide) rfl (Nat.le_of_ble_eq_true rfl) (by decide) dL_act_206) rfl rfl (n := 209) rfl (fun x109 => ?_)
      refine zr_iconst (1 : Int32) h0 (by decide) dL_act_209 (n := 210) rfl ?_
      refine zr_isub h0 dL_act_210 (n := 211) rfl ?_
      refine zr_goto (tgt := 222) h0 dL_act_211 (by decide) ?_
      exact J222 l1_194 l2_194 l3_194 l4_194 l5_194 l6_194 l7_194 l8_194 l9_194 s0_194 (x109 - (1 : Int32)) T_194 S_194 hI_194
  have J173 : ∀ (l1_173 : Int32) (l2_173 : Int32) (l3_173 : Int32) (l4_173 : Int32) (l5_173 : Int32) (l6_173 : Int32) (l7_173 : Int32) (l8_173 : Int32) (s0_173 : Int32) (T_173 : TZ) (S_173 : ZS) (hI_173 : I a0 T_173 y U S_173), zV G 13 S_173 0 0 173 [(0, .ref a0), (1, .int l1_173), (2, .int l2_173), (3, .int l3_173), (4, .int l4_173), (5, .int l5_173), (6, .int l6_173), (7, .int l7_173), (8, .int l8_173)] [.int s0_173] (C (fL_act_J173 O OL l1_173 l2_173 l3_173 l4_173 l5_173 l6_173 l7_173 l8_173 s0_173 T_173)) := by
    intro l1_173 l2_173 l3_173 l4_173 l5_173 l6_173 l7_173 l8_173 s0_173 T_173 S_173 hI_173
    unfold fL_act_J173
    refine zr_istore [(0, .ref a0), (1, .int l1_173), (2, .int l2_173), (3, .int l3_173), (4, .int l4_173), (5, .int l5_173), (6, .int l6_173), (7, .int l7_173), (8, .int l8_173), (9, .int s0_173)] h0 dL_act_173 (by decide) rfl (n := 175) rfl ?_
    refine zr_iload_n h0 dL_act_175 rfl (n := 176) rfl ?_
    refine zr_if_eq C (tgt := 186) h0 dL_act_176 (by decide) (n := 179) rfl ?_ ?_
    · refine zr_iload_n h0 dL_act_186 rfl (n := 187) rfl ?_
      refine zr_bipush (8 : Int32) h0 (by decide) dL_act_187 (n := 189) rfl ?_
      refine zr_ishr h0 dL_act_189 (n := 190) rfl ?_
      refine zr_iload_n h0 dL_act_190 rfl (n := 191) rfl ?_
      refine zr_cRI C hC 0 0 (fun x hx => zk_S h0 (fun l D z0 => kL_low l D z0 (l1_173 >>> ((8 : Int32) &&& 31)) l2_173 S_173 x hx) zw_105 zw_106 zw_0 zw_107 zyL_low (As := [.int (l1_173 >>> ((8 : Int32) &&& 31)), .int l2_173]) (st := []) rfl (by decide) rfl (Nat.le_of_ble_eq_true rfl) (by decide) dL_act_191) rfl rfl (n := 194) rfl (fun x110 => ?_)
      exact J194 l1_173 l2_173 l3_173 l4_173 l5_173 l6_173 l7_173 l8_173 s0_173 x110 T_173 S_173 hI_173
    · refine zr_iload_n h0 dL_act_179 rfl (n := 180) rfl ?_
      refine zr_bipush (8 : Int32) h0 (by decide) dL_act_180 (n := 182) rfl ?_
      refine zr_ishr h0 dL_act_182 (n := 183) rfl ?_
      refine zr_goto (tgt := 194) h0 dL_act_183 (by decide) ?_
      exact J194 l1_173 l2_173 l3_173 l4_173 l5_173 l6_173 l7_173 l8_173 s0_173 (l1_173 >>> ((8 : Int32) &&& 31)) T_173 S_173 hI_173
  have J145 : ∀ (l1_145 : Int32) (l2_145 : Int32) (l3_145 : Int32) (l4_145 : Int32) (l5_145 : Int32) (l6_145 : Int32) (l7_145 : Int32) (s0_145 : Int32) (T_145 : TZ) (S_145 : ZS) (hI_145 : I a0 T_145 y U S_145), zV G 13 S_145 0 0 145 [(0, .ref a0), (1, .int l1_145), (2, .int l2_145), (3, .int l3_145), (4, .int l4_145), (5, .int l5_145), (6, .int l6_145), (7, .int l7_145)] [.int s0_145] (C (fL_act_J145 O OL l1_145 l2_145 l3_145 l4_145 l5_145 l6_145 l7_145 s0_145 T_145)) := by
    intro l1_145 l2_145 l3_145 l4_145 l5_145 l6_145 l7_145 s0_145 T_145 S_145 hI_145
    unfold fL_act_J145
    refine zr_istore [(0, .ref a0), (1, .int l1_145), (2, .int l2_145), (3, .int l3_145), (4, .int l4_145), (5, .int l5_145), (6, .int l6_145), (7, .int l7_145), (8, .int s0_145)] h0 dL_act_145 (by decide) rfl (n := 147) rfl ?_
    refine zr_iload_n h0 dL_act_147 rfl (n := 148) rfl ?_
    refine zr_if_eq C (tgt := 165) h0 dL_act_148 (by decide) (n := 151) rfl ?_ ?_
    · refine zr_iload_n h0 dL_act_165 rfl (n := 166) rfl ?_
      refine zr_bipush (13 : Int32) h0 (by decide) dL_act_166 (n := 168) rfl ?_
      refine zr_ishr h0 dL_act_168 (n := 169) rfl ?_
      refine zr_iconst (2 : Int32) h0 (by decide) dL_act_169 (n := 170) rfl ?_
      refine zr_cRI C hC 0 0 (fun x hx => zk_S h0 (fun l D z0 => kL_low l D z0 (l1_145 >>> ((13 : Int32) &&& 31)) (2 : Int32) S_145 x hx) zw_105 zw_106 zw_0 zw_107 zyL_low (As := [.int (l1_145 >>> ((13 : Int32) &&& 31)), .int (2 : Int32)]) (st := []) rfl (by decide) rfl (Nat.le_of_ble_eq_true rfl) (by decide) dL_act_170) rfl rfl (n := 173) rfl (fun x111 => ?_)
      exact J173 l1_145 l2_145 l3_145 l4_145 l5_145 l6_145 l7_145 s0_145 x111 T_145 S_145 hI_145
    · refine zr_iload_n h0 dL_act_151 rfl (n := 152) rfl ?_
      refine zr_bipush (13 : Int32) h0 (by decide) dL_act_152 (n := 154) rfl ?_
      refine zr_ishr h0 dL_act_154 (n := 155) rfl ?_
      refine zr_bipush (7 : Int32) h0 (by decide) dL_act_155 (n := 157) rfl ?_
      refine zr_cRI C hC 0 0 (fun x hx => zk_S h0 (fun l D z0 => kL_low l D z0 (l1_145 >>> ((13 : Int32) &&& 31)) (7 : Int32) S_145 x hx) zw_105 zw_106 zw_0 zw_107 zyL_low (As := [.int (l1_145 >>> ((13 : Int32) &&& 31)), .int (7 : Int32)]) (st := []) rfl (by decide) rfl (Nat.le_of_ble_eq_true rfl) (by decide) dL_act_157) rfl rfl (n := 160) rfl (fun x112 => ?_)
      refine zr_iconst (1 : Int32) h0 (by decide) dL_act_160 (n := 161) rfl ?_
      refine zr_isub h0 dL_act_161 (n := 162) rfl ?_
      refine zr_goto (tgt := 173) h0 dL_act_162 (by decide) ?_
      exact J173 l1_145 l2_145 l3_145 l4_145 l5_145 l6_145 l7_145 s0_145 (x112 - (1 : Int32)) T_145 S_145 hI_145
  have J117 : ∀ (l1_117 : Int32) (l2_117 : Int32) (l3_117 : Int32) (l4_117 : Int32) (l5_117 : Int32) (l6_117 : Int32) (s0_117 : Int32) (T_117 : TZ) (S_117 : ZS) (hI_117 : I a0 T_117 y U S_117), zV G 13 S_117 0 0 117 [(0, .ref a0), (1, .int l1_117), (2, .int l2_117), (3, .int l3_117), (4, .int l4_117), (5, .int l5_117), (6, .int l6_117)] [.int s0_117] (C (fL_act_J117 O OL l1_117 l2_117 l3_117 l4_117 l5_117 l6_117 s0_117 T_117)) := by
    intro l1_117 l2_117 l3_117 l4_117 l5_117 l6_117 s0_117 T_117 S_117 hI_117
    unfold fL_act_J117
    refine zr_istore [(0, .ref a0), (1, .int l1_117), (2, .int l2_117), (3, .int l3_117), (4, .int l4_117), (5, .int l5_117), (6, .int l6_117), (7, .int s0_117)] h0 dL_act_117 (by decide) rfl (n := 119) rfl ?_
    refine zr_iload_n h0 dL_act_119 rfl (n := 120) rfl ?_
    refine zr_if_eq C (tgt := 137) h0 dL_act_120 (by decide) (n := 123) rfl ?_ ?_
    · refine zr_iload_n h0 dL_act_137 rfl (n := 138) rfl ?_
      refine zr_bipush (11 : Int32) h0 (by decide) dL_act_138 (n := 140) rfl ?_
      refine zr_ishr h0 dL_act_140 (n := 141) rfl ?_
      refine zr_iconst (2 : Int32) h0 (by decide) dL_act_141 (n := 142) rfl ?_
      refine zr_cRI C hC 0 0 (fun x hx => zk_S h0 (fun l D z0 => kL_low l D z0 (l1_117 >>> ((11 : Int32) &&& 31)) (2 : Int32) S_117 x hx) zw_105 zw_106 zw_0 zw_107 zyL_low (As := [.int (l1_117 >>> ((11 : Int32) &&& 31)), .int (2 : Int32)]) (st := []) rfl (by decide) rfl (Nat.le_of_ble_eq_true rfl) (by decide) dL_act_142) rfl rfl (n := 145) rfl (fun x113 => ?_)
      exact J145 l1_117 l2_117 l3_117 l4_117 l5_117 l6_117 s0_117 x113 T_117 S_117 hI_117
    · refine zr_iload_n h0 dL_act_123 rfl (n := 124) rfl ?_
      refine zr_bipush (11 : Int32) h0 (by decide) dL_act_124 (n := 126) rfl ?_
      refine zr_ishr h0 dL_act_126 (n := 127) rfl ?_
      refine zr_bipush (7 : Int32) h0 (by decide) dL_act_127 (n := 129) rfl ?_
      refine zr_cRI C hC 0 0 (fun x hx => zk_S h0 (fun l D z0 => kL_low l D z0 (l1_117 >>> ((11 : Int32) &&& 31)) (7 : Int32) S_117 x hx) zw_105 zw_106 zw_0 zw_107 zyL_low (As := [.int (l1_117 >>> ((11 : Int32) &&& 31)), .int (7 : Int32)]) (st := []) rfl (by decide) rfl (Nat.le_of_ble_eq_true rfl) (by decide) dL_act_129) rfl rfl (n := 132) rfl (fun x114 => ?_)
      refine zr_iconst (1 : Int32) h0 (by decide) dL_act_132 (n := 133) rfl ?_
      refine zr_isub h0 dL_act_133 (n := 134) rfl ?_
      refine zr_goto (tgt := 145) h0 dL_act_134 (by decide) ?_
      exact J145 l1_117 l2_117 l3_117 l4_117 l5_117 l6_117 s0_117 (x114 - (1 : Int32)) T_117 S_117 hI_117
  have J96 : ∀ (l1_96 : Int32) (l2_96 : Int32) (l3_96 : Int32) (l4_96 : Int32) (l5_96 : Int32) (s0_96 : Int32) (T_96 : TZ) (S_96 : ZS) (hI_96 : I a0 T_96 y U S_96), zV G 13 S_96 0 0 96 [(0, .ref a0), (1, .int l1_96), (2, .int l2_96), (3, .int l3_96), (4, .int l4_96), (5, .int l5_96)] [.int s0_96] (C (fL_act_J96 O OL l1_96 l2_96 l3_96 l4_96 l5_96 s0_96 T_96)) := by
    intro l1_96 l2_96 l3_96 l4_96 l5_96 s0_96 T_96 S_96 hI_96
    unfold fL_act_J96
    refine zr_istore [(0, .ref a0), (1, .int l1_96), (2, .int l2_96), (3, .int l3_96), (4, .int l4_96), (5, .int l5_96), (6, .int s0_96)] h0 dL_act_96 (by decide) rfl (n := 98) rfl ?_
    refine zr_iload_n h0 dL_act_98 rfl (n := 99) rfl ?_
    refine zr_if_eq C (tgt := 109) h0 dL_act_99 (by decide) (n := 102) rfl ?_ ?_
    · refine zr_iload_n h0 dL_act_109 rfl (n := 110) rfl ?_
      refine zr_bipush (9 : Int32) h0 (by decide) dL_act_110 (n := 112) rfl ?_
      refine zr_ishr h0 dL_act_112 (n := 113) rfl ?_
      refine zr_iconst (2 : Int32) h0 (by decide) dL_act_113 (n := 114) rfl ?_
      refine zr_cRI C hC 0 0 (fun x hx => zk_S h0 (fun l D z0 => kL_low l D z0 (l1_96 >>> ((9 : Int32) &&& 31)) (2 : Int32) S_96 x hx) zw_105 zw_106 zw_0 zw_107 zyL_low (As := [.int (l1_96 >>> ((9 : Int32) &&& 31)), .int (2 : Int32)]) (st := []) rfl (by decide) rfl (Nat.le_of_ble_eq_true rfl) (by decide) dL_act_114) rfl rfl (n := 117) rfl (fun x115 => ?_)
      exact J117 l1_96 l2_96 l3_96 l4_96 l5_96 s0_96 x115 T_96 S_96 hI_96
    · refine zr_iload_n h0 dL_act_102 rfl (n := 103) rfl ?_
      refine zr_bipush (9 : Int32) h0 (by decide) dL_act_103 (n := 105) rfl ?_
      refine zr_ishr h0 dL_act_105 (n := 106) rfl ?_
      refine zr_goto (tgt := 117) h0 dL_act_106 (by decide) ?_
      exact J117 l1_96 l2_96 l3_96 l4_96 l5_96 s0_96 (l1_96 >>> ((9 : Int32) &&& 31)) T_96 S_96 hI_96
  have J70 : ∀ (l1_70 : Int32) (l2_70 : Int32) (l3_70 : Int32) (l4_70 : Int32) (s0_70 : Int32) (T_70 : TZ) (S_70 : ZS) (hI_70 : I a0 T_70 y U S_70), zV G 13 S_70 0 0 70 [(0, .ref a0), (1, .int l1_70), (2, .int l2_70), (3, .int l3_70), (4, .int l4_70)] [.int s0_70] (C (fL_act_J70 O OL l1_70 l2_70 l3_70 l4_70 s0_70 T_70)) := by
    intro l1_70 l2_70 l3_70 l4_70 s0_70 T_70 S_70 hI_70
    unfold fL_act_J70
    refine zr_istore [(0, .ref a0), (1, .int l1_70), (2, .int l2_70), (3, .int l3_70), (4, .int l4_70), (5, .int s0_70)] h0 dL_act_70 (by decide) rfl (n := 72) rfl ?_
    refine zr_iload_n h0 dL_act_72 rfl (n := 73) rfl ?_
    refine zr_if_eq C (tgt := 89) h0 dL_act_73 (by decide) (n := 76) rfl ?_ ?_
    · refine zr_iload_n h0 dL_act_89 rfl (n := 90) rfl ?_
      refine zr_iconst (5 : Int32) h0 (by decide) dL_act_90 (n := 91) rfl ?_
      refine zr_ishr h0 dL_act_91 (n := 92) rfl ?_
      refine zr_iconst (3 : Int32) h0 (by decide) dL_act_92 (n := 93) rfl ?_
      refine zr_cRI C hC 0 0 (fun x hx => zk_S h0 (fun l D z0 => kL_low l D z0 (l1_70 >>> ((5 : Int32) &&& 31)) (3 : Int32) S_70 x hx) zw_105 zw_106 zw_0 zw_107 zyL_low (As := [.int (l1_70 >>> ((5 : Int32) &&& 31)), .int (3 : Int32)]) (st := []) rfl (by decide) rfl (Nat.le_of_ble_eq_true rfl) (by decide) dL_act_93) rfl rfl (n := 96) rfl (fun x116 => ?_)
      exact J96 l1_70 l2_70 l3_70 l4_70 s0_70 x116 T_70 S_70 hI_70
    · refine zr_iload_n h0 dL_act_76 rfl (n := 77) rfl ?_
      refine zr_iconst (5 : Int32) h0 (by decide) dL_act_77 (n := 78) rfl ?_
      refine zr_ishr h0 dL_act_78 (n := 79) rfl ?_
      refine zr_bipush (18 : Int32) h0 (by decide) dL_act_79 (n := 81) rfl ?_
      refine zr_cRI C hC 0 0 (fun x hx => zk_S h0 (fun l D z0 => kL_low l D z0 (l1_70 >>> ((5 : Int32) &&& 31)) (18 : Int32) S_70 x hx) zw_105 zw_106 zw_0 zw_107 zyL_low (As := [.int (l1_70 >>> ((5 : Int32) &&& 31)), .int (18 : Int32)]) (st := []) rfl (by decide) rfl (Nat.le_of_ble_eq_true rfl) (by decide) dL_act_81) rfl rfl (n := 84) rfl (fun x117 => ?_)
      refine zr_iconst (1 : Int32) h0 (by decide) dL_act_84 (n := 85) rfl ?_
      refine zr_isub h0 dL_act_85 (n := 86) rfl ?_
      refine zr_goto (tgt := 96) h0 dL_act_86 (by decide) ?_
      exact J96 l1_70 l2_70 l3_70 l4_70 s0_70 (x117 - (1 : Int32)) T_70 S_70 hI_70
  have J42 : ∀ (l1_42 : Int32) (l2_42 : Int32) (l3_42 : Int32) (s0_42 : Int32) (T_42 : TZ) (S_42 : ZS) (hI_42 : I a0 T_42 y U S_42), zV G 13 S_42 0 0 42 [(0, .ref a0), (1, .int l1_42), (2, .int l2_42), (3, .int l3_42)] [.int s0_42] (C (fL_act_J42 O OL l1_42 l2_42 l3_42 s0_42 T_42)) := by
    intro l1_42 l2_42 l3_42 s0_42 T_42 S_42 hI_42
    unfold fL_act_J42
    refine zr_istore [(0, .ref a0), (1, .int l1_42), (2, .int l2_42), (3, .int l3_42), (4, .int s0_42)] h0 dL_act_42 (by decide) rfl (n := 44) rfl ?_
    refine zr_iload_n h0 dL_act_44 rfl (n := 45) rfl ?_
    refine zr_if_eq C (tgt := 62) h0 dL_act_45 (by decide) (n := 48) rfl ?_ ?_
    · refine zr_iload_n h0 dL_act_62 rfl (n := 63) rfl ?_
      refine zr_bipush (7 : Int32) h0 (by decide) dL_act_63 (n := 65) rfl ?_
      refine zr_ishr h0 dL_act_65 (n := 66) rfl ?_
      refine zr_iconst (5 : Int32) h0 (by decide) dL_act_66 (n := 67) rfl ?_
      refine zr_cRI C hC 0 0 (fun x hx => zk_S h0 (fun l D z0 => kL_low l D z0 (l1_42 >>> ((7 : Int32) &&& 31)) (5 : Int32) S_42 x hx) zw_105 zw_106 zw_0 zw_107 zyL_low (As := [.int (l1_42 >>> ((7 : Int32) &&& 31)), .int (5 : Int32)]) (st := []) rfl (by decide) rfl (Nat.le_of_ble_eq_true rfl) (by decide) dL_act_67) rfl rfl (n := 70) rfl (fun x118 => ?_)
      exact J70 l1_42 l2_42 l3_42 s0_42 x118 T_42 S_42 hI_42
    · refine zr_iload_n h0 dL_act_48 rfl (n := 49) rfl ?_
      refine zr_bipush (7 : Int32) h0 (by decide) dL_act_49 (n := 51) rfl ?_
      refine zr_ishr h0 dL_act_51 (n := 52) rfl ?_
      refine zr_bipush (20 : Int32) h0 (by decide) dL_act_52 (n := 54) rfl ?_
      refine zr_cRI C hC 0 0 (fun x hx => zk_S h0 (fun l D z0 => kL_low l D z0 (l1_42 >>> ((7 : Int32) &&& 31)) (20 : Int32) S_42 x hx) zw_105 zw_106 zw_0 zw_107 zyL_low (As := [.int (l1_42 >>> ((7 : Int32) &&& 31)), .int (20 : Int32)]) (st := []) rfl (by decide) rfl (Nat.le_of_ble_eq_true rfl) (by decide) dL_act_54) rfl rfl (n := 57) rfl (fun x119 => ?_)
      refine zr_iconst (2 : Int32) h0 (by decide) dL_act_57 (n := 58) rfl ?_
      refine zr_isub h0 dL_act_58 (n := 59) rfl ?_
      refine zr_goto (tgt := 70) h0 dL_act_59 (by decide) ?_
      exact J70 l1_42 l2_42 l3_42 s0_42 (x119 - (2 : Int32)) T_42 S_42 hI_42
  have J17 : ∀ (l1_17 : Int32) (l2_17 : Int32) (s0_17 : Int32) (T_17 : TZ) (S_17 : ZS) (hI_17 : I a0 T_17 y U S_17), zV G 13 S_17 0 0 17 [(0, .ref a0), (1, .int l1_17), (2, .int l2_17)] [.int s0_17] (C (fL_act_J17 O OL l1_17 l2_17 s0_17 T_17)) := by
    intro l1_17 l2_17 s0_17 T_17 S_17 hI_17
    unfold fL_act_J17
    refine zr_istore_n [(0, .ref a0), (1, .int l1_17), (2, .int l2_17), (3, .int s0_17)] h0 dL_act_17 (by decide) rfl (n := 18) rfl ?_
    refine zr_iload_n h0 dL_act_18 rfl (n := 19) rfl ?_
    refine zr_if_eq C (tgt := 35) h0 dL_act_19 (by decide) (n := 22) rfl ?_ ?_
    · refine zr_iload_n h0 dL_act_35 rfl (n := 36) rfl ?_
      refine zr_iconst (4 : Int32) h0 (by decide) dL_act_36 (n := 37) rfl ?_
      refine zr_ishr h0 dL_act_37 (n := 38) rfl ?_
      refine zr_iconst (5 : Int32) h0 (by decide) dL_act_38 (n := 39) rfl ?_
      refine zr_cRI C hC 0 0 (fun x hx => zk_S h0 (fun l D z0 => kL_low l D z0 (l1_17 >>> ((4 : Int32) &&& 31)) (5 : Int32) S_17 x hx) zw_105 zw_106 zw_0 zw_107 zyL_low (As := [.int (l1_17 >>> ((4 : Int32) &&& 31)), .int (5 : Int32)]) (st := []) rfl (by decide) rfl (Nat.le_of_ble_eq_true rfl) (by decide) dL_act_39) rfl rfl (n := 42) rfl (fun x120 => ?_)
      exact J42 l1_17 l2_17 s0_17 x120 T_17 S_17 hI_17
    · refine zr_iload_n h0 dL_act_22 rfl (n := 23) rfl ?_
      refine zr_iconst (4 : Int32) h0 (by decide) dL_act_23 (n := 24) rfl ?_
      refine zr_ishr h0 dL_act_24 (n := 25) rfl ?_
      refine zr_bipush (20 : Int32) h0 (by decide) dL_act_25 (n := 27) rfl ?_
      refine zr_cRI C hC 0 0 (fun x hx => zk_S h0 (fun l D z0 => kL_low l D z0 (l1_17 >>> ((4 : Int32) &&& 31)) (20 : Int32) S_17 x hx) zw_105 zw_106 zw_0 zw_107 zyL_low (As := [.int (l1_17 >>> ((4 : Int32) &&& 31)), .int (20 : Int32)]) (st := []) rfl (by decide) rfl (Nat.le_of_ble_eq_true rfl) (by decide) dL_act_27) rfl rfl (n := 30) rfl (fun x121 => ?_)
      refine zr_iconst (2 : Int32) h0 (by decide) dL_act_30 (n := 31) rfl ?_
      refine zr_isub h0 dL_act_31 (n := 32) rfl ?_
      refine zr_goto (tgt := 42) h0 dL_act_32 (by decide) ?_
      exact J42 l1_17 l2_17 s0_17 (x121 - (2 : Int32)) T_17 S_17 hI_17
  unfold fL_act
  refine zr_iload_n h0 dL_act_0 rfl (n := 1) rfl ?_
  refine zr_bipush (26 : Int32) h0 (by decide) dL_act_1 (n := 3) rfl ?_
  refine zr_ishr h0 dL_act_3 (n := 4) rfl ?_
  refine zr_bipush (14 : Int32) h0 (by decide) dL_act_4 (n := 6) rfl ?_
  refine zr_cRI C hC 0 0 (fun x hx => zk_S h0 (fun l D z0 => kL_low l D z0 (a1 >>> ((26 : Int32) &&& 31)) (14 : Int32) S x hx) zw_105 zw_106 zw_0 zw_107 zyL_low (As := [.int (a1 >>> ((26 : Int32) &&& 31)), .int (14 : Int32)]) (st := []) rfl (by decide) rfl (Nat.le_of_ble_eq_true rfl) (by decide) dL_act_6) rfl rfl (n := 9) rfl (fun x1 => ?_)
  refine zr_if_ne C (tgt := 16) h0 dL_act_9 (by decide) (n := 12) rfl ?_ ?_
  · refine zr_iconst (1 : Int32) h0 (by decide) dL_act_12 (n := 13) rfl ?_
    refine zr_goto (tgt := 17) h0 dL_act_13 (by decide) ?_
    exact J17 a1 a2 (1 : Int32) T S hI
  · refine zr_iconst (0 : Int32) h0 (by decide) dL_act_16 (n := 17) rfl ?_
    exact J17 a1 a2 (0 : Int32) T S hI
theorem kL_act {TZ : Type} {O : Nat → TZ → List Int32 → Option (Int32 × TZ)} {OL : TZ → List Int32 → Option (Int64 × TZ)} {I : Nat → TZ → Nat → TZ → ZS → Prop} (hO : zOps I O OL) (l : Launch) (D : ZD) (z0 : Nat) (hlt : l.stackTraces = false) (a0 : Nat) (a1 : Int32) (a2 : Int32) (y : Nat) (U : TZ) (T : TZ) (S : ZS) (hI : I a0 T y U S) (x : Int32 × TZ) (hf : fL_act O OL a1 a2 T = some x) : zMetA l D z0 yL_act cL_act 13 (some .int) rmL_act [.ref a0, .int a1, .int a2] S (fun v S9 => v = .int x.1 ∧ I a0 x.2 y U S9) :=
  zMetA_of hlt (by decide) (Nat.le_of_ble_eq_true rfl) (fun G h0 hnt hE => wL_act hO a0 a1 a2 y U T S hI h0 hnt (fun o => o = some x) (fun h => nomatch h) (fun v T9 S9 hJ hh => by cases hh; exact hE _ _ ⟨rfl, hJ⟩)) hf
