/-! decode rows, 3 of 4 (printed) -/
theorem dX12_init_468 : decode cX12_init 468 = .ok (.bipush 14, 2) := by decide +kernel
theorem dX12_init_470 : decode cX12_init 470 = .ok (.ldc 173, 2) := by decide +kernel
theorem dX12_init_472 : decode cX12_init 472 = .ok (.aastore, 1) := by decide +kernel
theorem dX12_init_473 : decode cX12_init 473 = .ok (.dup, 1) := by decide +kernel
theorem dX12_init_474 : decode cX12_init 474 = .ok (.bipush 15, 2) := by decide +kernel
theorem dX12_init_476 : decode cX12_init 476 = .ok (.ldc 175, 2) := by decide +kernel
theorem dX12_init_478 : decode cX12_init 478 = .ok (.aastore, 1) := by decide +kernel
theorem dX12_init_479 : decode cX12_init 479 = .ok (.dup, 1) := by decide +kernel
theorem dX12_init_480 : decode cX12_init 480 = .ok (.bipush 16, 2) := by decide +kernel
theorem dX12_init_482 : decode cX12_init 482 = .ok (.ldc 177, 2) := by decide +kernel
theorem dX12_init_484 : decode cX12_init 484 = .ok (.aastore, 1) := by decide +kernel
theorem dX12_init_485 : decode cX12_init 485 = .ok (.dup, 1) := by decide +kernel
theorem dX12_init_486 : decode cX12_init 486 = .ok (.bipush 17, 2) := by decide +kernel
theorem dX12_init_488 : decode cX12_init 488 = .ok (.ldc 179, 2) := by decide +kernel
theorem dX12_init_490 : decode cX12_init 490 = .ok (.aastore, 1) := by decide +kernel
theorem dX12_init_491 : decode cX12_init 491 = .ok (.putfield 181, 3) := by decide +kernel
theorem dX12_init_494 : decode cX12_init 494 = .ok (.aload_n 0, 1) := by decide +kernel
theorem dX12_init_495 : decode cX12_init 495 = .ok (.iconst (-1), 1) := by decide +kernel
theorem dX12_init_496 : decode cX12_init 496 = .ok (.putfield 184, 3) := by decide +kernel
theorem dX12_init_499 : decode cX12_init 499 = .ok (.aload_n 0, 1) := by decide +kernel
theorem dX12_init_500 : decode cX12_init 500 = .ok (.bipush 18, 2) := by decide +kernel
theorem dX12_init_502 : decode cX12_init 502 = .ok (.newarray .int, 2) := by decide +kernel
theorem dX12_init_504 : decode cX12_init 504 = .ok (.putfield 188, 3) := by decide +kernel
theorem dX12_init_507 : decode cX12_init 507 = .ok (.aload_n 0, 1) := by decide +kernel
theorem dX12_init_508 : decode cX12_init 508 = .ok (.sipush 520, 3) := by decide +kernel
theorem dX12_init_511 : decode cX12_init 511 = .ok (.newarray .int, 2) := by decide +kernel
theorem dX12_init_513 : decode cX12_init 513 = .ok (.putfield 191, 3) := by decide +kernel
theorem dX12_init_516 : decode cX12_init 516 = .ok (.aload_n 0, 1) := by decide +kernel
theorem dX12_init_517 : decode cX12_init 517 = .ok (.bipush 24, 2) := by decide +kernel
theorem dX12_init_519 : decode cX12_init 519 = .ok (.newarray .int, 2) := by decide +kernel
theorem dX12_init_521 : decode cX12_init 521 = .ok (.putfield 194, 3) := by decide +kernel
theorem dX12_init_524 : decode cX12_init 524 = .ok (.aload_n 0, 1) := by decide +kernel
theorem dX12_init_525 : decode cX12_init 525 = .ok (.bipush 24, 2) := by decide +kernel
theorem dX12_init_527 : decode cX12_init 527 = .ok (.newarray .int, 2) := by decide +kernel
theorem dX12_init_529 : decode cX12_init 529 = .ok (.putfield 197, 3) := by decide +kernel
theorem dX12_init_532 : decode cX12_init 532 = .ok (.aload_n 0, 1) := by decide +kernel
theorem dX12_init_533 : decode cX12_init 533 = .ok (.bipush 24, 2) := by decide +kernel
theorem dX12_init_535 : decode cX12_init 535 = .ok (.bipush 24, 2) := by decide +kernel
theorem dX12_init_537 : decode cX12_init 537 = .ok (.multianewarray 81 2, 4) := by decide +kernel
theorem dX12_init_541 : decode cX12_init 541 = .ok (.putfield 200, 3) := by decide +kernel
theorem dX12_init_544 : decode cX12_init 544 = .ok (.aload_n 0, 1) := by decide +kernel
theorem dX12_init_545 : decode cX12_init 545 = .ok (.bipush 24, 2) := by decide +kernel
theorem dX12_init_547 : decode cX12_init 547 = .ok (.sipush 200, 3) := by decide +kernel
theorem dX12_init_550 : decode cX12_init 550 = .ok (.multianewarray 81 2, 4) := by decide +kernel
theorem dX12_init_554 : decode cX12_init 554 = .ok (.putfield 203, 3) := by decide +kernel
theorem dX12_init_557 : decode cX12_init 557 = .ok (.aload_n 0, 1) := by decide +kernel
theorem dX12_init_558 : decode cX12_init 558 = .ok (.sipush 200, 3) := by decide +kernel
theorem dX12_init_561 : decode cX12_init 561 = .ok (.iconst 5, 1) := by decide +kernel
theorem dX12_init_562 : decode cX12_init 562 = .ok (.multianewarray 206 2, 4) := by decide +kernel
theorem dX12_init_566 : decode cX12_init 566 = .ok (.putfield 208, 3) := by decide +kernel
theorem dX12_init_569 : decode cX12_init 569 = .ok (.aload_n 0, 1) := by decide +kernel
theorem dX12_init_570 : decode cX12_init 570 = .ok (.bipush 6, 2) := by decide +kernel
theorem dX12_init_572 : decode cX12_init 572 = .ok (.newarray .int, 2) := by decide +kernel
theorem dX12_init_574 : decode cX12_init 574 = .ok (.putfield 211, 3) := by decide +kernel
theorem dX12_init_577 : decode cX12_init 577 = .ok (.aload_n 0, 1) := by decide +kernel
theorem dX12_init_578 : decode cX12_init 578 = .ok (.bipush 6, 2) := by decide +kernel
theorem dX12_init_580 : decode cX12_init 580 = .ok (.newarray .int, 2) := by decide +kernel
theorem dX12_init_582 : decode cX12_init 582 = .ok (.putfield 214, 3) := by decide +kernel
theorem dX12_init_585 : decode cX12_init 585 = .ok (.aload_n 0, 1) := by decide +kernel
theorem dX12_init_586 : decode cX12_init 586 = .ok (.bipush 6, 2) := by decide +kernel
theorem dX12_init_588 : decode cX12_init 588 = .ok (.newarray .int, 2) := by decide +kernel
theorem dX12_init_590 : decode cX12_init 590 = .ok (.putfield 217, 3) := by decide +kernel
theorem dX12_init_593 : decode cX12_init 593 = .ok (.aload_n 0, 1) := by decide +kernel
theorem dX12_init_594 : decode cX12_init 594 = .ok (.bipush 6, 2) := by decide +kernel
theorem dX12_init_596 : decode cX12_init 596 = .ok (.newarray .int, 2) := by decide +kernel
theorem dX12_init_598 : decode cX12_init 598 = .ok (.putfield 220, 3) := by decide +kernel
theorem dX12_init_601 : decode cX12_init 601 = .ok (.aload_n 0, 1) := by decide +kernel
theorem dX12_init_602 : decode cX12_init 602 = .ok (.bipush 6, 2) := by decide +kernel
theorem dX12_init_604 : decode cX12_init 604 = .ok (.newarray .int, 2) := by decide +kernel
theorem dX12_init_606 : decode cX12_init 606 = .ok (.putfield 223, 3) := by decide +kernel
theorem dX12_init_609 : decode cX12_init 609 = .ok (.aload_n 0, 1) := by decide +kernel
theorem dX12_init_610 : decode cX12_init 610 = .ok (.bipush 6, 2) := by decide +kernel
theorem dX12_init_612 : decode cX12_init 612 = .ok (.newarray .int, 2) := by decide +kernel
theorem dX12_init_614 : decode cX12_init 614 = .ok (.putfield 226, 3) := by decide +kernel
theorem dX12_init_617 : decode cX12_init 617 = .ok (.aload_n 0, 1) := by decide +kernel
theorem dX12_init_618 : decode cX12_init 618 = .ok (.bipush 40, 2) := by decide +kernel
theorem dX12_init_620 : decode cX12_init 620 = .ok (.newarray .int, 2) := by decide +kernel
theorem dX12_init_622 : decode cX12_init 622 = .ok (.putfield 229, 3) := by decide +kernel
theorem dX12_init_625 : decode cX12_init 625 = .ok (.aload_n 0, 1) := by decide +kernel
theorem dX12_init_626 : decode cX12_init 626 = .ok (.bipush 40, 2) := by decide +kernel
theorem dX12_init_628 : decode cX12_init 628 = .ok (.newarray .int, 2) := by decide +kernel
theorem dX12_init_630 : decode cX12_init 630 = .ok (.putfield 232, 3) := by decide +kernel
theorem dX12_init_633 : decode cX12_init 633 = .ok (.aload_n 0, 1) := by decide +kernel
theorem dX12_init_634 : decode cX12_init 634 = .ok (.bipush 40, 2) := by decide +kernel
theorem dX12_init_636 : decode cX12_init 636 = .ok (.newarray .int, 2) := by decide +kernel
theorem dX12_init_638 : decode cX12_init 638 = .ok (.putfield 235, 3) := by decide +kernel
theorem dX12_init_641 : decode cX12_init 641 = .ok (.aload_n 0, 1) := by decide +kernel
theorem dX12_init_642 : decode cX12_init 642 = .ok (.bipush 40, 2) := by decide +kernel
theorem dX12_init_644 : decode cX12_init 644 = .ok (.newarray .int, 2) := by decide +kernel
theorem dX12_init_646 : decode cX12_init 646 = .ok (.putfield 238, 3) := by decide +kernel
theorem dX12_init_649 : decode cX12_init 649 = .ok (.aload_n 0, 1) := by decide +kernel
theorem dX12_init_650 : decode cX12_init 650 = .ok (.bipush 40, 2) := by decide +kernel
theorem dX12_init_652 : decode cX12_init 652 = .ok (.newarray .int, 2) := by decide +kernel
theorem dX12_init_654 : decode cX12_init 654 = .ok (.putfield 241, 3) := by decide +kernel
theorem dX12_init_657 : decode cX12_init 657 = .ok (.return_, 1) := by decide +kernel
theorem dX12_in_0 : decode cX12_in 0 = .ok (.lload_n 0, 1) := by decide +kernel
theorem dX12_in_1 : decode cX12_in 1 = .ok (.lload_n 2, 1) := by decide +kernel
theorem dX12_in_2 : decode cX12_in 2 = .ok (.lcmp, 1) := by decide +kernel
theorem dX12_in_3 : decode cX12_in 3 = .ok (.ifCond .lt 14, 3) := by decide +kernel
theorem dX12_in_6 : decode cX12_in 6 = .ok (.lload_n 0, 1) := by decide +kernel
theorem dX12_in_7 : decode cX12_in 7 = .ok (.lload 4, 2) := by decide +kernel
theorem dX12_in_9 : decode cX12_in 9 = .ok (.lcmp, 1) := by decide +kernel
theorem dX12_in_10 : decode cX12_in 10 = .ok (.ifCond .gt 7, 3) := by decide +kernel
theorem dX12_in_13 : decode cX12_in 13 = .ok (.iconst 1, 1) := by decide +kernel
theorem dX12_in_14 : decode cX12_in 14 = .ok (.goto 4, 3) := by decide +kernel
theorem dX12_in_17 : decode cX12_in 17 = .ok (.iconst 0, 1) := by decide +kernel
theorem dX12_in_18 : decode cX12_in 18 = .ok (.ireturn, 1) := by decide +kernel
theorem dX12_size_0 : decode cX12_size 0 = .ok (.iload_n 0, 1) := by decide +kernel
theorem dX12_size_1 : decode cX12_size 1 = .ok (.ifCond .ge 8, 3) := by decide +kernel
theorem dX12_size_4 : decode cX12_size 4 = .ok (.iload_n 0, 1) := by decide +kernel
theorem dX12_size_5 : decode cX12_size 5 = .ok (.ineg, 1) := by decide +kernel
theorem dX12_size_6 : decode cX12_size 6 = .ok (.goto 4, 3) := by decide +kernel
theorem dX12_size_9 : decode cX12_size 9 = .ok (.iload_n 0, 1) := by decide +kernel
theorem dX12_size_10 : decode cX12_size 10 = .ok (.ireturn, 1) := by decide +kernel
theorem dX12_isTown_0 : decode cX12_isTown 0 = .ok (.iload_n 1, 1) := by decide +kernel
theorem dX12_isTown_1 : decode cX12_isTown 1 = .ok (.i2l, 1) := by decide +kernel
theorem dX12_isTown_2 : decode cX12_isTown 2 = .ok (.lconst 0, 1) := by decide +kernel
theorem dX12_isTown_3 : decode cX12_isTown 3 = .ok (.aload_n 0, 1) := by decide +kernel
theorem dX12_isTown_4 : decode cX12_isTown 4 = .ok (.getfield 244, 3) := by decide +kernel
theorem dX12_isTown_7 : decode cX12_isTown 7 = .ok (.iconst 1, 1) := by decide +kernel
theorem dX12_isTown_8 : decode cX12_isTown 8 = .ok (.isub, 1) := by decide +kernel
theorem dX12_isTown_9 : decode cX12_isTown 9 = .ok (.i2l, 1) := by decide +kernel
theorem dX12_isTown_10 : decode cX12_isTown 10 = .ok (.invokestatic 247, 3) := by decide +kernel
theorem dX12_isTown_13 : decode cX12_isTown 13 = .ok (.ireturn, 1) := by decide +kernel
theorem dX12_isHome_0 : decode cX12_isHome 0 = .ok (.iload_n 1, 1) := by decide +kernel
theorem dX12_isHome_1 : decode cX12_isHome 1 = .ok (.i2l, 1) := by decide +kernel
theorem dX12_isHome_2 : decode cX12_isHome 2 = .ok (.lconst 0, 1) := by decide +kernel
theorem dX12_isHome_3 : decode cX12_isHome 3 = .ok (.aload_n 0, 1) := by decide +kernel
theorem dX12_isHome_4 : decode cX12_isHome 4 = .ok (.getfield 251, 3) := by decide +kernel
theorem dX12_isHome_7 : decode cX12_isHome 7 = .ok (.iconst 1, 1) := by decide +kernel
theorem dX12_isHome_8 : decode cX12_isHome 8 = .ok (.isub, 1) := by decide +kernel
theorem dX12_isHome_9 : decode cX12_isHome 9 = .ok (.i2l, 1) := by decide +kernel
theorem dX12_isHome_10 : decode cX12_isHome 10 = .ok (.invokestatic 247, 3) := by decide +kernel
theorem dX12_isHome_13 : decode cX12_isHome 13 = .ok (.ireturn, 1) := by decide +kernel
theorem dX12_isFamily_0 : decode cX12_isFamily 0 = .ok (.iload_n 1, 1) := by decide +kernel
theorem dX12_isFamily_1 : decode cX12_isFamily 1 = .ok (.i2l, 1) := by decide +kernel
theorem dX12_isFamily_2 : decode cX12_isFamily 2 = .ok (.lconst 0, 1) := by decide +kernel
theorem dX12_isFamily_3 : decode cX12_isFamily 3 = .ok (.aload_n 0, 1) := by decide +kernel
theorem dX12_isFamily_4 : decode cX12_isFamily 4 = .ok (.getfield 254, 3) := by decide +kernel
theorem dX12_isFamily_7 : decode cX12_isFamily 7 = .ok (.iconst 1, 1) := by decide +kernel
theorem dX12_isFamily_8 : decode cX12_isFamily 8 = .ok (.isub, 1) := by decide +kernel
theorem dX12_isFamily_9 : decode cX12_isFamily 9 = .ok (.i2l, 1) := by decide +kernel
theorem dX12_isFamily_10 : decode cX12_isFamily 10 = .ok (.invokestatic 247, 3) := by decide +kernel
theorem dX12_isFamily_13 : decode cX12_isFamily 13 = .ok (.ireturn, 1) := by decide +kernel
theorem dX12_town_0 : decode cX12_town 0 = .ok (.iload_n 1, 1) := by decide +kernel
theorem dX12_town_1 : decode cX12_town 1 = .ok (.i2l, 1) := by decide +kernel
theorem dX12_town_2 : decode cX12_town 2 = .ok (.lconst 0, 1) := by decide +kernel
theorem dX12_town_3 : decode cX12_town 3 = .ok (.ldc2_w 257, 3) := by decide +kernel
theorem dX12_town_6 : decode cX12_town 6 = .ok (.invokestatic 247, 3) := by decide +kernel
theorem dX12_town_9 : decode cX12_town 9 = .ok (.ifCond .eq 46, 3) := by decide +kernel
theorem dX12_town_12 : decode cX12_town 12 = .ok (.iload_n 2, 1) := by decide +kernel
theorem dX12_town_13 : decode cX12_town 13 = .ok (.ifCond .lt 42, 3) := by decide +kernel
theorem dX12_town_16 : decode cX12_town 16 = .ok (.iload_n 2, 1) := by decide +kernel
theorem dX12_town_17 : decode cX12_town 17 = .ok (.bipush 100, 2) := by decide +kernel
theorem dX12_town_19 : decode cX12_town 19 = .ok (.idiv, 1) := by decide +kernel
theorem dX12_town_20 : decode cX12_town 20 = .ok (.bipush 15, 2) := by decide +kernel
theorem dX12_town_22 : decode cX12_town 22 = .ok (.if_icmp .gt 33, 3) := by decide +kernel
theorem dX12_town_25 : decode cX12_town 25 = .ok (.iload_n 2, 1) := by decide +kernel
theorem dX12_town_26 : decode cX12_town 26 = .ok (.bipush 100, 2) := by decide +kernel
theorem dX12_town_28 : decode cX12_town 28 = .ok (.irem, 1) := by decide +kernel
theorem dX12_town_29 : decode cX12_town 29 = .ok (.bipush 40, 2) := by decide +kernel
theorem dX12_town_31 : decode cX12_town 31 = .ok (.if_icmp .gt 24, 3) := by decide +kernel
theorem dX12_town_34 : decode cX12_town 34 = .ok (.iload_n 3, 1) := by decide +kernel
theorem dX12_town_35 : decode cX12_town 35 = .ok (.i2l, 1) := by decide +kernel
theorem dX12_town_36 : decode cX12_town 36 = .ok (.lconst 0, 1) := by decide +kernel
theorem dX12_town_37 : decode cX12_town 37 = .ok (.ldc2_w 259, 3) := by decide +kernel
theorem dX12_town_40 : decode cX12_town 40 = .ok (.invokestatic 247, 3) := by decide +kernel
theorem dX12_town_43 : decode cX12_town 43 = .ok (.ifCond .eq 12, 3) := by decide +kernel
theorem dX12_town_46 : decode cX12_town 46 = .ok (.aload_n 0, 1) := by decide +kernel
theorem dX12_town_47 : decode cX12_town 47 = .ok (.getfield 244, 3) := by decide +kernel
theorem dX12_town_50 : decode cX12_town 50 = .ok (.bipush 8, 2) := by decide +kernel
theorem dX12_town_52 : decode cX12_town 52 = .ok (.if_icmp .ne 5, 3) := by decide +kernel
theorem dX12_town_55 : decode cX12_town 55 = .ok (.iconst (-1), 1) := by decide +kernel
theorem dX12_town_56 : decode cX12_town 56 = .ok (.ireturn, 1) := by decide +kernel
theorem dX12_town_57 : decode cX12_town 57 = .ok (.aload_n 0, 1) := by decide +kernel
theorem dX12_town_58 : decode cX12_town 58 = .ok (.getfield 9, 3) := by decide +kernel
theorem dX12_town_61 : decode cX12_town 61 = .ok (.aload_n 0, 1) := by decide +kernel
theorem dX12_town_62 : decode cX12_town 62 = .ok (.getfield 244, 3) := by decide +kernel
theorem dX12_town_65 : decode cX12_town 65 = .ok (.iload_n 1, 1) := by decide +kernel
theorem dX12_town_66 : decode cX12_town 66 = .ok (.iastore, 1) := by decide +kernel
theorem dX12_town_67 : decode cX12_town 67 = .ok (.aload_n 0, 1) := by decide +kernel
theorem dX12_town_68 : decode cX12_town 68 = .ok (.getfield 13, 3) := by decide +kernel
theorem dX12_town_71 : decode cX12_town 71 = .ok (.aload_n 0, 1) := by decide +kernel
theorem dX12_town_72 : decode cX12_town 72 = .ok (.getfield 244, 3) := by decide +kernel
theorem dX12_town_75 : decode cX12_town 75 = .ok (.iload_n 2, 1) := by decide +kernel
theorem dX12_town_76 : decode cX12_town 76 = .ok (.bipush 100, 2) := by decide +kernel
theorem dX12_town_78 : decode cX12_town 78 = .ok (.idiv, 1) := by decide +kernel
theorem dX12_town_79 : decode cX12_town 79 = .ok (.iastore, 1) := by decide +kernel
theorem dX12_town_80 : decode cX12_town 80 = .ok (.aload_n 0, 1) := by decide +kernel
theorem dX12_town_81 : decode cX12_town 81 = .ok (.getfield 16, 3) := by decide +kernel
theorem dX12_town_84 : decode cX12_town 84 = .ok (.aload_n 0, 1) := by decide +kernel
theorem dX12_town_85 : decode cX12_town 85 = .ok (.getfield 244, 3) := by decide +kernel
theorem dX12_town_88 : decode cX12_town 88 = .ok (.iload_n 2, 1) := by decide +kernel
theorem dX12_town_89 : decode cX12_town 89 = .ok (.bipush 100, 2) := by decide +kernel
theorem dX12_town_91 : decode cX12_town 91 = .ok (.irem, 1) := by decide +kernel
theorem dX12_town_92 : decode cX12_town 92 = .ok (.iastore, 1) := by decide +kernel
theorem dX12_town_93 : decode cX12_town 93 = .ok (.aload_n 0, 1) := by decide +kernel
theorem dX12_town_94 : decode cX12_town 94 = .ok (.getfield 19, 3) := by decide +kernel
theorem dX12_town_97 : decode cX12_town 97 = .ok (.aload_n 0, 1) := by decide +kernel
theorem dX12_town_98 : decode cX12_town 98 = .ok (.getfield 244, 3) := by decide +kernel
theorem dX12_town_101 : decode cX12_town 101 = .ok (.iload_n 3, 1) := by decide +kernel
theorem dX12_town_102 : decode cX12_town 102 = .ok (.iastore, 1) := by decide +kernel
theorem dX12_town_103 : decode cX12_town 103 = .ok (.aload_n 0, 1) := by decide +kernel
theorem dX12_town_104 : decode cX12_town 104 = .ok (.dup, 1) := by decide +kernel
theorem dX12_town_105 : decode cX12_town 105 = .ok (.getfield 244, 3) := by decide +kernel
theorem dX12_town_108 : decode cX12_town 108 = .ok (.iconst 1, 1) := by decide +kernel
theorem dX12_town_109 : decode cX12_town 109 = .ok (.iadd, 1) := by decide +kernel
theorem dX12_town_110 : decode cX12_town 110 = .ok (.putfield 244, 3) := by decide +kernel
theorem dX12_town_113 : decode cX12_town 113 = .ok (.aload_n 0, 1) := by decide +kernel
theorem dX12_town_114 : decode cX12_town 114 = .ok (.getfield 244, 3) := by decide +kernel
theorem dX12_town_117 : decode cX12_town 117 = .ok (.iconst 1, 1) := by decide +kernel
theorem dX12_town_118 : decode cX12_town 118 = .ok (.isub, 1) := by decide +kernel
theorem dX12_town_119 : decode cX12_town 119 = .ok (.ireturn, 1) := by decide +kernel
theorem dX12_full_0 : decode cX12_full 0 = .ok (.aload_n 0, 1) := by decide +kernel
theorem dX12_full_1 : decode cX12_full 1 = .ok (.iload_n 1, 1) := by decide +kernel
theorem dX12_full_2 : decode cX12_full 2 = .ok (.invokevirtual 261, 3) := by decide +kernel
theorem dX12_full_5 : decode cX12_full 5 = .ok (.ifCond .eq 13, 3) := by decide +kernel
theorem dX12_full_8 : decode cX12_full 8 = .ok (.aload_n 0, 1) := by decide +kernel
theorem dX12_full_9 : decode cX12_full 9 = .ok (.getfield 26, 3) := by decide +kernel
theorem dX12_full_12 : decode cX12_full 12 = .ok (.iload_n 1, 1) := by decide +kernel
theorem dX12_full_13 : decode cX12_full 13 = .ok (.baload, 1) := by decide +kernel
theorem dX12_full_14 : decode cX12_full 14 = .ok (.iload_n 2, 1) := by decide +kernel
theorem dX12_full_15 : decode cX12_full 15 = .ok (.if_icmp .ne 5, 3) := by decide +kernel
theorem dX12_full_18 : decode cX12_full 18 = .ok (.iconst 0, 1) := by decide +kernel
theorem dX12_full_19 : decode cX12_full 19 = .ok (.ireturn, 1) := by decide +kernel
theorem dX12_full_20 : decode cX12_full 20 = .ok (.aload_n 0, 1) := by decide +kernel
theorem dX12_full_21 : decode cX12_full 21 = .ok (.getfield 26, 3) := by decide +kernel
theorem dX12_full_24 : decode cX12_full 24 = .ok (.iload_n 1, 1) := by decide +kernel
theorem dX12_full_25 : decode cX12_full 25 = .ok (.iload_n 2, 1) := by decide +kernel
theorem dX12_full_26 : decode cX12_full 26 = .ok (.bastore, 1) := by decide +kernel
theorem dX12_full_27 : decode cX12_full 27 = .ok (.iconst 1, 1) := by decide +kernel
theorem dX12_full_28 : decode cX12_full 28 = .ok (.ireturn, 1) := by decide +kernel
theorem dX12_areDays_0 : decode cX12_areDays 0 = .ok (.iload_n 0, 1) := by decide +kernel
theorem dX12_areDays_1 : decode cX12_areDays 1 = .ok (.ifCond .lt 31, 3) := by decide +kernel
theorem dX12_areDays_4 : decode cX12_areDays 4 = .ok (.iload_n 0, 1) := by decide +kernel
theorem dX12_areDays_5 : decode cX12_areDays 5 = .ok (.sipush 1000, 3) := by decide +kernel
theorem dX12_areDays_8 : decode cX12_areDays 8 = .ok (.idiv, 1) := by decide +kernel
theorem dX12_areDays_9 : decode cX12_areDays 9 = .ok (.iload_n 0, 1) := by decide +kernel
theorem dX12_areDays_10 : decode cX12_areDays 10 = .ok (.sipush 1000, 3) := by decide +kernel
theorem dX12_areDays_13 : decode cX12_areDays 13 = .ok (.irem, 1) := by decide +kernel
theorem dX12_areDays_14 : decode cX12_areDays 14 = .ok (.if_icmp .gt 18, 3) := by decide +kernel
theorem dX12_areDays_17 : decode cX12_areDays 17 = .ok (.iload_n 0, 1) := by decide +kernel
theorem dX12_areDays_18 : decode cX12_areDays 18 = .ok (.sipush 1000, 3) := by decide +kernel
theorem dX12_areDays_21 : decode cX12_areDays 21 = .ok (.irem, 1) := by decide +kernel
theorem dX12_areDays_22 : decode cX12_areDays 22 = .ok (.sipush 200, 3) := by decide +kernel
theorem dX12_areDays_25 : decode cX12_areDays 25 = .ok (.if_icmp .gt 7, 3) := by decide +kernel
theorem dX12_areDays_28 : decode cX12_areDays 28 = .ok (.iconst 1, 1) := by decide +kernel
theorem dX12_areDays_29 : decode cX12_areDays 29 = .ok (.goto 4, 3) := by decide +kernel
theorem dX12_areDays_32 : decode cX12_areDays 32 = .ok (.iconst 0, 1) := by decide +kernel
theorem dX12_areDays_33 : decode cX12_areDays 33 = .ok (.ireturn, 1) := by decide +kernel
theorem dX12_home_0 : decode cX12_home 0 = .ok (.aload_n 0, 1) := by decide +kernel
theorem dX12_home_1 : decode cX12_home 1 = .ok (.iload_n 1, 1) := by decide +kernel
theorem dX12_home_2 : decode cX12_home 2 = .ok (.invokevirtual 261, 3) := by decide +kernel
theorem dX12_home_5 : decode cX12_home 5 = .ok (.ifCond .eq 57, 3) := by decide +kernel
theorem dX12_home_8 : decode cX12_home 8 = .ok (.iload_n 2, 1) := by decide +kernel
theorem dX12_home_9 : decode cX12_home 9 = .ok (.ifCond .lt 53, 3) := by decide +kernel
theorem dX12_home_12 : decode cX12_home 12 = .ok (.iload_n 2, 1) := by decide +kernel
theorem dX12_home_13 : decode cX12_home 13 = .ok (.bipush 100, 2) := by decide +kernel
theorem dX12_home_15 : decode cX12_home 15 = .ok (.idiv, 1) := by decide +kernel
theorem dX12_home_16 : decode cX12_home 16 = .ok (.i2l, 1) := by decide +kernel
theorem dX12_home_17 : decode cX12_home 17 = .ok (.lconst 1, 1) := by decide +kernel
theorem dX12_home_18 : decode cX12_home 18 = .ok (.ldc2_w 265, 3) := by decide +kernel
theorem dX12_home_21 : decode cX12_home 21 = .ok (.invokestatic 247, 3) := by decide +kernel
theorem dX12_home_24 : decode cX12_home 24 = .ok (.ifCond .eq 38, 3) := by decide +kernel
theorem dX12_home_27 : decode cX12_home 27 = .ok (.iload_n 2, 1) := by decide +kernel
theorem dX12_home_28 : decode cX12_home 28 = .ok (.bipush 10, 2) := by decide +kernel
theorem dX12_home_30 : decode cX12_home 30 = .ok (.idiv, 1) := by decide +kernel
theorem dX12_home_31 : decode cX12_home 31 = .ok (.bipush 10, 2) := by decide +kernel
theorem dX12_home_33 : decode cX12_home 33 = .ok (.irem, 1) := by decide +kernel
theorem dX12_home_34 : decode cX12_home 34 = .ok (.iconst 1, 1) := by decide +kernel
theorem dX12_home_35 : decode cX12_home 35 = .ok (.if_icmp .gt 27, 3) := by decide +kernel
theorem dX12_home_38 : decode cX12_home 38 = .ok (.iload_n 2, 1) := by decide +kernel
theorem dX12_home_39 : decode cX12_home 39 = .ok (.bipush 10, 2) := by decide +kernel
theorem dX12_home_41 : decode cX12_home 41 = .ok (.irem, 1) := by decide +kernel
theorem dX12_home_42 : decode cX12_home 42 = .ok (.iconst 4, 1) := by decide +kernel
theorem dX12_home_43 : decode cX12_home 43 = .ok (.if_icmp .gt 19, 3) := by decide +kernel
theorem dX12_home_46 : decode cX12_home 46 = .ok (.iload_n 3, 1) := by decide +kernel
theorem dX12_home_47 : decode cX12_home 47 = .ok (.invokestatic 267, 3) := by decide +kernel
theorem dX12_home_50 : decode cX12_home 50 = .ok (.ifCond .eq 12, 3) := by decide +kernel
theorem dX12_home_53 : decode cX12_home 53 = .ok (.aload_n 0, 1) := by decide +kernel
theorem dX12_home_54 : decode cX12_home 54 = .ok (.getfield 251, 3) := by decide +kernel
theorem dX12_home_57 : decode cX12_home 57 = .ok (.bipush 24, 2) := by decide +kernel
theorem dX12_home_59 : decode cX12_home 59 = .ok (.if_icmp .ne 5, 3) := by decide +kernel
theorem dX12_home_62 : decode cX12_home 62 = .ok (.iconst (-1), 1) := by decide +kernel
theorem dX12_home_63 : decode cX12_home 63 = .ok (.ireturn, 1) := by decide +kernel
theorem dX12_home_64 : decode cX12_home 64 = .ok (.aload_n 0, 1) := by decide +kernel
theorem dX12_home_65 : decode cX12_home 65 = .ok (.getfield 30, 3) := by decide +kernel
theorem dX12_home_68 : decode cX12_home 68 = .ok (.aload_n 0, 1) := by decide +kernel
theorem dX12_home_69 : decode cX12_home 69 = .ok (.getfield 251, 3) := by decide +kernel
theorem dX12_home_72 : decode cX12_home 72 = .ok (.iload_n 1, 1) := by decide +kernel
theorem dX12_home_73 : decode cX12_home 73 = .ok (.iastore, 1) := by decide +kernel
theorem dX12_home_74 : decode cX12_home 74 = .ok (.aload_n 0, 1) := by decide +kernel
theorem dX12_home_75 : decode cX12_home 75 = .ok (.getfield 33, 3) := by decide +kernel
theorem dX12_home_78 : decode cX12_home 78 = .ok (.aload_n 0, 1) := by decide +kernel
theorem dX12_home_79 : decode cX12_home 79 = .ok (.getfield 251, 3) := by decide +kernel
theorem dX12_home_82 : decode cX12_home 82 = .ok (.iload_n 2, 1) := by decide +kernel
theorem dX12_home_83 : decode cX12_home 83 = .ok (.bipush 100, 2) := by decide +kernel
theorem dX12_home_85 : decode cX12_home 85 = .ok (.idiv, 1) := by decide +kernel
theorem dX12_home_86 : decode cX12_home 86 = .ok (.iastore, 1) := by decide +kernel
theorem dX12_home_87 : decode cX12_home 87 = .ok (.aload_n 0, 1) := by decide +kernel
theorem dX12_home_88 : decode cX12_home 88 = .ok (.getfield 36, 3) := by decide +kernel
theorem dX12_home_91 : decode cX12_home 91 = .ok (.aload_n 0, 1) := by decide +kernel
theorem dX12_home_92 : decode cX12_home 92 = .ok (.getfield 251, 3) := by decide +kernel
theorem dX12_home_95 : decode cX12_home 95 = .ok (.iload_n 2, 1) := by decide +kernel
theorem dX12_home_96 : decode cX12_home 96 = .ok (.bipush 10, 2) := by decide +kernel
theorem dX12_home_98 : decode cX12_home 98 = .ok (.idiv, 1) := by decide +kernel
theorem dX12_home_99 : decode cX12_home 99 = .ok (.bipush 10, 2) := by decide +kernel
theorem dX12_home_101 : decode cX12_home 101 = .ok (.irem, 1) := by decide +kernel
theorem dX12_home_102 : decode cX12_home 102 = .ok (.iastore, 1) := by decide +kernel
theorem dX12_home_103 : decode cX12_home 103 = .ok (.aload_n 0, 1) := by decide +kernel
theorem dX12_home_104 : decode cX12_home 104 = .ok (.getfield 39, 3) := by decide +kernel
theorem dX12_home_107 : decode cX12_home 107 = .ok (.aload_n 0, 1) := by decide +kernel
theorem dX12_home_108 : decode cX12_home 108 = .ok (.getfield 251, 3) := by decide +kernel
theorem dX12_home_111 : decode cX12_home 111 = .ok (.iload_n 2, 1) := by decide +kernel
theorem dX12_home_112 : decode cX12_home 112 = .ok (.bipush 10, 2) := by decide +kernel
theorem dX12_home_114 : decode cX12_home 114 = .ok (.irem, 1) := by decide +kernel
theorem dX12_home_115 : decode cX12_home 115 = .ok (.iastore, 1) := by decide +kernel
theorem dX12_home_116 : decode cX12_home 116 = .ok (.aload_n 0, 1) := by decide +kernel
theorem dX12_home_117 : decode cX12_home 117 = .ok (.getfield 42, 3) := by decide +kernel
theorem dX12_home_120 : decode cX12_home 120 = .ok (.aload_n 0, 1) := by decide +kernel
theorem dX12_home_121 : decode cX12_home 121 = .ok (.getfield 251, 3) := by decide +kernel
theorem dX12_home_124 : decode cX12_home 124 = .ok (.iload_n 3, 1) := by decide +kernel
theorem dX12_home_125 : decode cX12_home 125 = .ok (.sipush 1000, 3) := by decide +kernel
theorem dX12_home_128 : decode cX12_home 128 = .ok (.idiv, 1) := by decide +kernel
theorem dX12_home_129 : decode cX12_home 129 = .ok (.iastore, 1) := by decide +kernel
theorem dX12_home_130 : decode cX12_home 130 = .ok (.aload_n 0, 1) := by decide +kernel
theorem dX12_home_131 : decode cX12_home 131 = .ok (.getfield 45, 3) := by decide +kernel
theorem dX12_home_134 : decode cX12_home 134 = .ok (.aload_n 0, 1) := by decide +kernel
theorem dX12_home_135 : decode cX12_home 135 = .ok (.getfield 251, 3) := by decide +kernel
theorem dX12_home_138 : decode cX12_home 138 = .ok (.iload_n 3, 1) := by decide +kernel
theorem dX12_home_139 : decode cX12_home 139 = .ok (.sipush 1000, 3) := by decide +kernel
theorem dX12_home_142 : decode cX12_home 142 = .ok (.irem, 1) := by decide +kernel
theorem dX12_home_143 : decode cX12_home 143 = .ok (.iastore, 1) := by decide +kernel
theorem dX12_home_144 : decode cX12_home 144 = .ok (.aload_n 0, 1) := by decide +kernel
theorem dX12_home_145 : decode cX12_home 145 = .ok (.dup, 1) := by decide +kernel
theorem dX12_home_146 : decode cX12_home 146 = .ok (.getfield 251, 3) := by decide +kernel
theorem dX12_home_149 : decode cX12_home 149 = .ok (.iconst 1, 1) := by decide +kernel
theorem dX12_home_150 : decode cX12_home 150 = .ok (.iadd, 1) := by decide +kernel
theorem dX12_home_151 : decode cX12_home 151 = .ok (.putfield 251, 3) := by decide +kernel
theorem dX12_home_154 : decode cX12_home 154 = .ok (.aload_n 0, 1) := by decide +kernel
theorem dX12_home_155 : decode cX12_home 155 = .ok (.getfield 251, 3) := by decide +kernel
theorem dX12_home_158 : decode cX12_home 158 = .ok (.iconst 1, 1) := by decide +kernel
theorem dX12_home_159 : decode cX12_home 159 = .ok (.isub, 1) := by decide +kernel
theorem dX12_home_160 : decode cX12_home 160 = .ok (.ireturn, 1) := by decide +kernel
theorem dX12_beds_0 : decode cX12_beds 0 = .ok (.iload_n 1, 1) := by decide +kernel
theorem dX12_beds_1 : decode cX12_beds 1 = .ok (.i2l, 1) := by decide +kernel
theorem dX12_beds_2 : decode cX12_beds 2 = .ok (.lconst 0, 1) := by decide +kernel
theorem dX12_beds_3 : decode cX12_beds 3 = .ok (.ldc2_w 270, 3) := by decide +kernel
theorem dX12_beds_6 : decode cX12_beds 6 = .ok (.invokestatic 247, 3) := by decide +kernel
theorem dX12_beds_9 : decode cX12_beds 9 = .ok (.ifCond .ne 5, 3) := by decide +kernel
theorem dX12_beds_12 : decode cX12_beds 12 = .ok (.iconst 0, 1) := by decide +kernel
theorem dX12_beds_13 : decode cX12_beds 13 = .ok (.ireturn, 1) := by decide +kernel
theorem dX12_beds_14 : decode cX12_beds 14 = .ok (.aload_n 0, 1) := by decide +kernel
theorem dX12_beds_15 : decode cX12_beds 15 = .ok (.iload_n 1, 1) := by decide +kernel
theorem dX12_beds_16 : decode cX12_beds 16 = .ok (.putfield 272, 3) := by decide +kernel
theorem dX12_beds_19 : decode cX12_beds 19 = .ok (.iconst 1, 1) := by decide +kernel
theorem dX12_beds_20 : decode cX12_beds 20 = .ok (.ireturn, 1) := by decide +kernel
theorem dX12_family_0 : decode cX12_family 0 = .ok (.iload_n 1, 1) := by decide +kernel
theorem dX12_family_1 : decode cX12_family 1 = .ok (.ifCond .lt 80, 3) := by decide +kernel
theorem dX12_family_4 : decode cX12_family 4 = .ok (.iload_n 2, 1) := by decide +kernel
theorem dX12_family_5 : decode cX12_family 5 = .ok (.ifCond .lt 76, 3) := by decide +kernel
theorem dX12_family_8 : decode cX12_family 8 = .ok (.iload_n 1, 1) := by decide +kernel
theorem dX12_family_9 : decode cX12_family 9 = .ok (.bipush 100, 2) := by decide +kernel
theorem dX12_family_11 : decode cX12_family 11 = .ok (.idiv, 1) := by decide +kernel
theorem dX12_family_12 : decode cX12_family 12 = .ok (.i2l, 1) := by decide +kernel
theorem dX12_family_13 : decode cX12_family 13 = .ok (.lconst 1, 1) := by decide +kernel
theorem dX12_family_14 : decode cX12_family 14 = .ok (.ldc2_w 265, 3) := by decide +kernel
theorem dX12_family_17 : decode cX12_family 17 = .ok (.invokestatic 247, 3) := by decide +kernel
theorem dX12_family_20 : decode cX12_family 20 = .ok (.ifCond .eq 61, 3) := by decide +kernel
theorem dX12_family_23 : decode cX12_family 23 = .ok (.iload_n 1, 1) := by decide +kernel
theorem dX12_family_24 : decode cX12_family 24 = .ok (.bipush 10, 2) := by decide +kernel
theorem dX12_family_26 : decode cX12_family 26 = .ok (.idiv, 1) := by decide +kernel
theorem dX12_family_27 : decode cX12_family 27 = .ok (.bipush 10, 2) := by decide +kernel
theorem dX12_family_29 : decode cX12_family 29 = .ok (.irem, 1) := by decide +kernel
theorem dX12_family_30 : decode cX12_family 30 = .ok (.iload_n 1, 1) := by decide +kernel
theorem dX12_family_31 : decode cX12_family 31 = .ok (.bipush 100, 2) := by decide +kernel
theorem dX12_family_33 : decode cX12_family 33 = .ok (.idiv, 1) := by decide +kernel
theorem dX12_family_34 : decode cX12_family 34 = .ok (.if_icmp .gt 47, 3) := by decide +kernel
theorem dX12_family_37 : decode cX12_family 37 = .ok (.iload_n 1, 1) := by decide +kernel
theorem dX12_family_38 : decode cX12_family 38 = .ok (.bipush 10, 2) := by decide +kernel
theorem dX12_family_40 : decode cX12_family 40 = .ok (.irem, 1) := by decide +kernel
theorem dX12_family_41 : decode cX12_family 41 = .ok (.iconst 1, 1) := by decide +kernel
theorem dX12_family_42 : decode cX12_family 42 = .ok (.if_icmp .gt 39, 3) := by decide +kernel
theorem dX12_family_45 : decode cX12_family 45 = .ok (.iload_n 2, 1) := by decide +kernel
theorem dX12_family_46 : decode cX12_family 46 = .ok (.bipush 100, 2) := by decide +kernel
theorem dX12_family_48 : decode cX12_family 48 = .ok (.idiv, 1) := by decide +kernel
theorem dX12_family_49 : decode cX12_family 49 = .ok (.iconst 3, 1) := by decide +kernel
theorem dX12_family_50 : decode cX12_family 50 = .ok (.if_icmp .gt 31, 3) := by decide +kernel
theorem dX12_family_53 : decode cX12_family 53 = .ok (.iload_n 2, 1) := by decide +kernel
theorem dX12_family_54 : decode cX12_family 54 = .ok (.bipush 10, 2) := by decide +kernel
theorem dX12_family_56 : decode cX12_family 56 = .ok (.idiv, 1) := by decide +kernel
theorem dX12_family_57 : decode cX12_family 57 = .ok (.bipush 10, 2) := by decide +kernel
theorem dX12_family_59 : decode cX12_family 59 = .ok (.irem, 1) := by decide +kernel
theorem dX12_family_60 : decode cX12_family 60 = .ok (.iconst 5, 1) := by decide +kernel
theorem dX12_family_61 : decode cX12_family 61 = .ok (.if_icmp .gt 20, 3) := by decide +kernel
theorem dX12_family_64 : decode cX12_family 64 = .ok (.iload_n 2, 1) := by decide +kernel
theorem dX12_family_65 : decode cX12_family 65 = .ok (.bipush 10, 2) := by decide +kernel
theorem dX12_family_67 : decode cX12_family 67 = .ok (.irem, 1) := by decide +kernel
theorem dX12_family_68 : decode cX12_family 68 = .ok (.iconst 5, 1) := by decide +kernel
theorem dX12_family_69 : decode cX12_family 69 = .ok (.if_icmp .gt 12, 3) := by decide +kernel
theorem dX12_family_72 : decode cX12_family 72 = .ok (.aload_n 0, 1) := by decide +kernel
theorem dX12_family_73 : decode cX12_family 73 = .ok (.getfield 254, 3) := by decide +kernel
theorem dX12_family_76 : decode cX12_family 76 = .ok (.bipush 24, 2) := by decide +kernel
theorem dX12_family_78 : decode cX12_family 78 = .ok (.if_icmp .ne 5, 3) := by decide +kernel
theorem dX12_family_81 : decode cX12_family 81 = .ok (.iconst (-1), 1) := by decide +kernel
theorem dX12_family_82 : decode cX12_family 82 = .ok (.ireturn, 1) := by decide +kernel
theorem dX12_family_83 : decode cX12_family 83 = .ok (.aload_n 0, 1) := by decide +kernel
theorem dX12_family_84 : decode cX12_family 84 = .ok (.getfield 254, 3) := by decide +kernel
theorem dX12_family_87 : decode cX12_family 87 = .ok (.istore_n 3, 1) := by decide +kernel
theorem dX12_family_88 : decode cX12_family 88 = .ok (.aload_n 0, 1) := by decide +kernel
theorem dX12_family_89 : decode cX12_family 89 = .ok (.getfield 48, 3) := by decide +kernel
theorem dX12_family_92 : decode cX12_family 92 = .ok (.iload_n 3, 1) := by decide +kernel
theorem dX12_family_93 : decode cX12_family 93 = .ok (.iload_n 1, 1) := by decide +kernel
theorem dX12_family_94 : decode cX12_family 94 = .ok (.bipush 100, 2) := by decide +kernel
theorem dX12_family_96 : decode cX12_family 96 = .ok (.idiv, 1) := by decide +kernel
theorem dX12_family_97 : decode cX12_family 97 = .ok (.iastore, 1) := by decide +kernel
theorem dX12_family_98 : decode cX12_family 98 = .ok (.aload_n 0, 1) := by decide +kernel
theorem dX12_family_99 : decode cX12_family 99 = .ok (.getfield 51, 3) := by decide +kernel
theorem dX12_family_102 : decode cX12_family 102 = .ok (.iload_n 3, 1) := by decide +kernel
theorem dX12_family_103 : decode cX12_family 103 = .ok (.iload_n 1, 1) := by decide +kernel
theorem dX12_family_104 : decode cX12_family 104 = .ok (.bipush 10, 2) := by decide +kernel
theorem dX12_family_106 : decode cX12_family 106 = .ok (.idiv, 1) := by decide +kernel
theorem dX12_family_107 : decode cX12_family 107 = .ok (.bipush 10, 2) := by decide +kernel
theorem dX12_family_109 : decode cX12_family 109 = .ok (.irem, 1) := by decide +kernel
theorem dX12_family_110 : decode cX12_family 110 = .ok (.iastore, 1) := by decide +kernel
theorem dX12_family_111 : decode cX12_family 111 = .ok (.aload_n 0, 1) := by decide +kernel
theorem dX12_family_112 : decode cX12_family 112 = .ok (.getfield 54, 3) := by decide +kernel
theorem dX12_family_115 : decode cX12_family 115 = .ok (.iload_n 3, 1) := by decide +kernel
theorem dX12_family_116 : decode cX12_family 116 = .ok (.iload_n 1, 1) := by decide +kernel
theorem dX12_family_117 : decode cX12_family 117 = .ok (.bipush 10, 2) := by decide +kernel
theorem dX12_family_119 : decode cX12_family 119 = .ok (.irem, 1) := by decide +kernel
theorem dX12_family_120 : decode cX12_family 120 = .ok (.iastore, 1) := by decide +kernel
theorem dX12_family_121 : decode cX12_family 121 = .ok (.aload_n 0, 1) := by decide +kernel
theorem dX12_family_122 : decode cX12_family 122 = .ok (.getfield 57, 3) := by decide +kernel
theorem dX12_family_125 : decode cX12_family 125 = .ok (.iload_n 3, 1) := by decide +kernel
theorem dX12_family_126 : decode cX12_family 126 = .ok (.iload_n 2, 1) := by decide +kernel
theorem dX12_family_127 : decode cX12_family 127 = .ok (.bipush 100, 2) := by decide +kernel
theorem dX12_family_129 : decode cX12_family 129 = .ok (.idiv, 1) := by decide +kernel
theorem dX12_family_130 : decode cX12_family 130 = .ok (.iastore, 1) := by decide +kernel
theorem dX12_family_131 : decode cX12_family 131 = .ok (.aload_n 0, 1) := by decide +kernel
theorem dX12_family_132 : decode cX12_family 132 = .ok (.getfield 60, 3) := by decide +kernel
theorem dX12_family_135 : decode cX12_family 135 = .ok (.iload_n 3, 1) := by decide +kernel
theorem dX12_family_136 : decode cX12_family 136 = .ok (.iload_n 2, 1) := by decide +kernel
theorem dX12_family_137 : decode cX12_family 137 = .ok (.bipush 10, 2) := by decide +kernel
theorem dX12_family_139 : decode cX12_family 139 = .ok (.idiv, 1) := by decide +kernel
theorem dX12_family_140 : decode cX12_family 140 = .ok (.bipush 10, 2) := by decide +kernel
theorem dX12_family_142 : decode cX12_family 142 = .ok (.irem, 1) := by decide +kernel
theorem dX12_family_143 : decode cX12_family 143 = .ok (.iastore, 1) := by decide +kernel
theorem dX12_family_144 : decode cX12_family 144 = .ok (.aload_n 0, 1) := by decide +kernel
theorem dX12_family_145 : decode cX12_family 145 = .ok (.getfield 63, 3) := by decide +kernel
theorem dX12_family_148 : decode cX12_family 148 = .ok (.iload_n 3, 1) := by decide +kernel
theorem dX12_family_149 : decode cX12_family 149 = .ok (.iload_n 2, 1) := by decide +kernel
theorem dX12_family_150 : decode cX12_family 150 = .ok (.bipush 10, 2) := by decide +kernel
theorem dX12_family_152 : decode cX12_family 152 = .ok (.irem, 1) := by decide +kernel
theorem dX12_family_153 : decode cX12_family 153 = .ok (.iastore, 1) := by decide +kernel
theorem dX12_family_154 : decode cX12_family 154 = .ok (.aload_n 0, 1) := by decide +kernel
theorem dX12_family_155 : decode cX12_family 155 = .ok (.getfield 66, 3) := by decide +kernel
theorem dX12_family_158 : decode cX12_family 158 = .ok (.iload_n 3, 1) := by decide +kernel
theorem dX12_family_159 : decode cX12_family 159 = .ok (.iconst 0, 1) := by decide +kernel
theorem dX12_family_160 : decode cX12_family 160 = .ok (.iastore, 1) := by decide +kernel
theorem dX12_family_161 : decode cX12_family 161 = .ok (.aload_n 0, 1) := by decide +kernel
theorem dX12_family_162 : decode cX12_family 162 = .ok (.getfield 69, 3) := by decide +kernel
theorem dX12_family_165 : decode cX12_family 165 = .ok (.iload_n 3, 1) := by decide +kernel
theorem dX12_family_166 : decode cX12_family 166 = .ok (.iconst (-1), 1) := by decide +kernel
theorem dX12_family_167 : decode cX12_family 167 = .ok (.iastore, 1) := by decide +kernel
theorem dX12_family_168 : decode cX12_family 168 = .ok (.aload_n 0, 1) := by decide +kernel
theorem dX12_family_169 : decode cX12_family 169 = .ok (.getfield 75, 3) := by decide +kernel
theorem dX12_family_172 : decode cX12_family 172 = .ok (.iload_n 3, 1) := by decide +kernel
theorem dX12_family_173 : decode cX12_family 173 = .ok (.aload_n 0, 1) := by decide +kernel
theorem dX12_family_174 : decode cX12_family 174 = .ok (.getfield 275, 3) := by decide +kernel
theorem dX12_family_177 : decode cX12_family 177 = .ok (.iastore, 1) := by decide +kernel
theorem dX12_family_178 : decode cX12_family 178 = .ok (.aload_n 0, 1) := by decide +kernel
theorem dX12_family_179 : decode cX12_family 179 = .ok (.getfield 78, 3) := by decide +kernel
theorem dX12_family_182 : decode cX12_family 182 = .ok (.iload_n 3, 1) := by decide +kernel
theorem dX12_family_183 : decode cX12_family 183 = .ok (.iconst (-1), 1) := by decide +kernel
theorem dX12_family_184 : decode cX12_family 184 = .ok (.iastore, 1) := by decide +kernel
theorem dX12_family_185 : decode cX12_family 185 = .ok (.aload_n 0, 1) := by decide +kernel
theorem dX12_family_186 : decode cX12_family 186 = .ok (.dup, 1) := by decide +kernel
theorem dX12_family_187 : decode cX12_family 187 = .ok (.getfield 254, 3) := by decide +kernel
theorem dX12_family_190 : decode cX12_family 190 = .ok (.iconst 1, 1) := by decide +kernel
theorem dX12_family_191 : decode cX12_family 191 = .ok (.iadd, 1) := by decide +kernel
theorem dX12_family_192 : decode cX12_family 192 = .ok (.putfield 254, 3) := by decide +kernel
theorem dX12_family_195 : decode cX12_family 195 = .ok (.aload_n 0, 1) := by decide +kernel
theorem dX12_family_196 : decode cX12_family 196 = .ok (.iconst 0, 1) := by decide +kernel
theorem dX12_family_197 : decode cX12_family 197 = .ok (.putfield 278, 3) := by decide +kernel
theorem dX12_family_200 : decode cX12_family 200 = .ok (.iload_n 3, 1) := by decide +kernel
theorem dX12_family_201 : decode cX12_family 201 = .ok (.ireturn, 1) := by decide +kernel
theorem dX12_wish_0 : decode cX12_wish 0 = .ok (.aload_n 0, 1) := by decide +kernel
theorem dX12_wish_1 : decode cX12_wish 1 = .ok (.iload_n 1, 1) := by decide +kernel
theorem dX12_wish_2 : decode cX12_wish 2 = .ok (.invokevirtual 282, 3) := by decide +kernel
theorem dX12_wish_5 : decode cX12_wish 5 = .ok (.ifCond .eq 26, 3) := by decide +kernel
theorem dX12_wish_8 : decode cX12_wish 8 = .ok (.aload_n 0, 1) := by decide +kernel
theorem dX12_wish_9 : decode cX12_wish 9 = .ok (.getfield 66, 3) := by decide +kernel
theorem dX12_wish_12 : decode cX12_wish 12 = .ok (.iload_n 1, 1) := by decide +kernel
theorem dX12_wish_13 : decode cX12_wish 13 = .ok (.iaload, 1) := by decide +kernel
theorem dX12_wish_14 : decode cX12_wish 14 = .ok (.iconst 2, 1) := by decide +kernel
theorem dX12_wish_15 : decode cX12_wish 15 = .ok (.if_icmp .eq 16, 3) := by decide +kernel
theorem dX12_wish_18 : decode cX12_wish 18 = .ok (.iload_n 2, 1) := by decide +kernel
theorem dX12_wish_19 : decode cX12_wish 19 = .ok (.iconst (-1), 1) := by decide +kernel
theorem dX12_wish_20 : decode cX12_wish 20 = .ok (.if_icmp .eq 13, 3) := by decide +kernel
theorem dX12_wish_23 : decode cX12_wish 23 = .ok (.aload_n 0, 1) := by decide +kernel
theorem dX12_wish_24 : decode cX12_wish 24 = .ok (.iload_n 2, 1) := by decide +kernel
theorem dX12_wish_25 : decode cX12_wish 25 = .ok (.invokevirtual 261, 3) := by decide +kernel
theorem dX12_wish_28 : decode cX12_wish 28 = .ok (.ifCond .ne 5, 3) := by decide +kernel
theorem dX12_wish_31 : decode cX12_wish 31 = .ok (.iconst 0, 1) := by decide +kernel
theorem dX12_wish_32 : decode cX12_wish 32 = .ok (.ireturn, 1) := by decide +kernel
theorem dX12_wish_33 : decode cX12_wish 33 = .ok (.aload_n 0, 1) := by decide +kernel
theorem dX12_wish_34 : decode cX12_wish 34 = .ok (.getfield 78, 3) := by decide +kernel
theorem dX12_wish_37 : decode cX12_wish 37 = .ok (.iload_n 1, 1) := by decide +kernel
theorem dX12_wish_38 : decode cX12_wish 38 = .ok (.iload_n 2, 1) := by decide +kernel
theorem dX12_wish_39 : decode cX12_wish 39 = .ok (.iastore, 1) := by decide +kernel
theorem dX12_wish_40 : decode cX12_wish 40 = .ok (.iconst 1, 1) := by decide +kernel
theorem dX12_wish_41 : decode cX12_wish 41 = .ok (.ireturn, 1) := by decide +kernel
theorem dX12_apart_0 : decode cX12_apart 0 = .ok (.iload_n 1, 1) := by decide +kernel
theorem dX12_apart_1 : decode cX12_apart 1 = .ok (.i2l, 1) := by decide +kernel
theorem dX12_apart_2 : decode cX12_apart 2 = .ok (.lconst 0, 1) := by decide +kernel
theorem dX12_apart_3 : decode cX12_apart 3 = .ok (.ldc2_w 285, 3) := by decide +kernel
theorem dX12_apart_6 : decode cX12_apart 6 = .ok (.invokestatic 247, 3) := by decide +kernel
theorem dX12_apart_9 : decode cX12_apart 9 = .ok (.ifCond .eq 32, 3) := by decide +kernel
theorem dX12_apart_12 : decode cX12_apart 12 = .ok (.iload_n 2, 1) := by decide +kernel
theorem dX12_apart_13 : decode cX12_apart 13 = .ok (.i2l, 1) := by decide +kernel
theorem dX12_apart_14 : decode cX12_apart 14 = .ok (.lconst 0, 1) := by decide +kernel
theorem dX12_apart_15 : decode cX12_apart 15 = .ok (.ldc2_w 285, 3) := by decide +kernel
theorem dX12_apart_18 : decode cX12_apart 18 = .ok (.invokestatic 247, 3) := by decide +kernel
theorem dX12_apart_21 : decode cX12_apart 21 = .ok (.ifCond .eq 20, 3) := by decide +kernel
theorem dX12_apart_24 : decode cX12_apart 24 = .ok (.iload_n 1, 1) := by decide +kernel
theorem dX12_apart_25 : decode cX12_apart 25 = .ok (.iload_n 2, 1) := by decide +kernel
theorem dX12_apart_26 : decode cX12_apart 26 = .ok (.if_icmp .eq 15, 3) := by decide +kernel
theorem dX12_apart_29 : decode cX12_apart 29 = .ok (.iload_n 3, 1) := by decide +kernel
theorem dX12_apart_30 : decode cX12_apart 30 = .ok (.i2l, 1) := by decide +kernel
theorem dX12_apart_31 : decode cX12_apart 31 = .ok (.lconst 0, 1) := by decide +kernel
theorem dX12_apart_32 : decode cX12_apart 32 = .ok (.ldc2_w 270, 3) := by decide +kernel
theorem dX12_apart_35 : decode cX12_apart 35 = .ok (.invokestatic 247, 3) := by decide +kernel
theorem dX12_apart_38 : decode cX12_apart 38 = .ok (.ifCond .ne 5, 3) := by decide +kernel
theorem dX12_apart_41 : decode cX12_apart 41 = .ok (.iconst 0, 1) := by decide +kernel
theorem dX12_apart_42 : decode cX12_apart 42 = .ok (.ireturn, 1) := by decide +kernel
theorem dX12_apart_43 : decode cX12_apart 43 = .ok (.aload_n 0, 1) := by decide +kernel
theorem dX12_apart_44 : decode cX12_apart 44 = .ok (.getfield 83, 3) := by decide +kernel
theorem dX12_apart_47 : decode cX12_apart 47 = .ok (.iload_n 1, 1) := by decide +kernel
theorem dX12_apart_48 : decode cX12_apart 48 = .ok (.aaload, 1) := by decide +kernel
theorem dX12_apart_49 : decode cX12_apart 49 = .ok (.iload_n 2, 1) := by decide +kernel
theorem dX12_apart_50 : decode cX12_apart 50 = .ok (.iload_n 3, 1) := by decide +kernel
theorem dX12_apart_51 : decode cX12_apart 51 = .ok (.iastore, 1) := by decide +kernel
theorem dX12_apart_52 : decode cX12_apart 52 = .ok (.aload_n 0, 1) := by decide +kernel
theorem dX12_apart_53 : decode cX12_apart 53 = .ok (.getfield 83, 3) := by decide +kernel
theorem dX12_apart_56 : decode cX12_apart 56 = .ok (.iload_n 2, 1) := by decide +kernel
theorem dX12_apart_57 : decode cX12_apart 57 = .ok (.aaload, 1) := by decide +kernel
theorem dX12_apart_58 : decode cX12_apart 58 = .ok (.iload_n 1, 1) := by decide +kernel
theorem dX12_apart_59 : decode cX12_apart 59 = .ok (.iload_n 3, 1) := by decide +kernel
theorem dX12_apart_60 : decode cX12_apart 60 = .ok (.iastore, 1) := by decide +kernel
theorem dX12_apart_61 : decode cX12_apart 61 = .ok (.iconst 1, 1) := by decide +kernel
theorem dX12_apart_62 : decode cX12_apart 62 = .ok (.ireturn, 1) := by decide +kernel
theorem dX12_isHoused_0 : decode cX12_isHoused 0 = .ok (.aload_n 0, 1) := by decide +kernel
theorem dX12_isHoused_1 : decode cX12_isHoused 1 = .ok (.getfield 66, 3) := by decide +kernel
theorem dX12_isHoused_4 : decode cX12_isHoused 4 = .ok (.iload_n 1, 1) := by decide +kernel
theorem dX12_isHoused_5 : decode cX12_isHoused 5 = .ok (.iaload, 1) := by decide +kernel
theorem dX12_isHoused_6 : decode cX12_isHoused 6 = .ok (.iconst 1, 1) := by decide +kernel
theorem dX12_isHoused_7 : decode cX12_isHoused 7 = .ok (.if_icmp .ne 7, 3) := by decide +kernel
theorem dX12_isHoused_10 : decode cX12_isHoused 10 = .ok (.iconst 1, 1) := by decide +kernel
theorem dX12_isHoused_11 : decode cX12_isHoused 11 = .ok (.goto 4, 3) := by decide +kernel
theorem dX12_isHoused_14 : decode cX12_isHoused 14 = .ok (.iconst 0, 1) := by decide +kernel
theorem dX12_isHoused_15 : decode cX12_isHoused 15 = .ok (.ireturn, 1) := by decide +kernel
theorem dX12_townFor_0 : decode cX12_townFor 0 = .ok (.aload_n 0, 1) := by decide +kernel
theorem dX12_townFor_1 : decode cX12_townFor 1 = .ok (.iload_n 1, 1) := by decide +kernel
theorem dX12_townFor_2 : decode cX12_townFor 2 = .ok (.invokevirtual 287, 3) := by decide +kernel
theorem dX12_townFor_5 : decode cX12_townFor 5 = .ok (.ifCond .eq 17, 3) := by decide +kernel
theorem dX12_townFor_8 : decode cX12_townFor 8 = .ok (.aload_n 0, 1) := by decide +kernel
theorem dX12_townFor_9 : decode cX12_townFor 9 = .ok (.getfield 30, 3) := by decide +kernel
theorem dX12_townFor_12 : decode cX12_townFor 12 = .ok (.aload_n 0, 1) := by decide +kernel
theorem dX12_townFor_13 : decode cX12_townFor 13 = .ok (.getfield 69, 3) := by decide +kernel
theorem dX12_townFor_16 : decode cX12_townFor 16 = .ok (.iload_n 1, 1) := by decide +kernel
theorem dX12_townFor_17 : decode cX12_townFor 17 = .ok (.iaload, 1) := by decide +kernel
theorem dX12_townFor_18 : decode cX12_townFor 18 = .ok (.iaload, 1) := by decide +kernel
theorem dX12_townFor_19 : decode cX12_townFor 19 = .ok (.goto 4, 3) := by decide +kernel
theorem dX12_townFor_22 : decode cX12_townFor 22 = .ok (.iconst (-1), 1) := by decide +kernel
theorem dX12_townFor_23 : decode cX12_townFor 23 = .ok (.ireturn, 1) := by decide +kernel
theorem dX12_isRecord_0 : decode cX12_isRecord 0 = .ok (.iload_n 1, 1) := by decide +kernel
theorem dX12_isRecord_1 : decode cX12_isRecord 1 = .ok (.i2l, 1) := by decide +kernel
theorem dX12_isRecord_2 : decode cX12_isRecord 2 = .ok (.lconst 0, 1) := by decide +kernel
theorem dX12_isRecord_3 : decode cX12_isRecord 3 = .ok (.aload_n 0, 1) := by decide +kernel
theorem dX12_isRecord_4 : decode cX12_isRecord 4 = .ok (.getfield 290, 3) := by decide +kernel
theorem dX12_isRecord_7 : decode cX12_isRecord 7 = .ok (.iconst 1, 1) := by decide +kernel
theorem dX12_isRecord_8 : decode cX12_isRecord 8 = .ok (.isub, 1) := by decide +kernel
theorem dX12_isRecord_9 : decode cX12_isRecord 9 = .ok (.i2l, 1) := by decide +kernel
theorem dX12_isRecord_10 : decode cX12_isRecord 10 = .ok (.invokestatic 247, 3) := by decide +kernel
theorem dX12_isRecord_13 : decode cX12_isRecord 13 = .ok (.ireturn, 1) := by decide +kernel
theorem dX12_record_0 : decode cX12_record 0 = .ok (.iload_n 1, 1) := by decide +kernel
theorem dX12_record_1 : decode cX12_record 1 = .ok (.i2l, 1) := by decide +kernel
theorem dX12_record_2 : decode cX12_record 2 = .ok (.lconst 0, 1) := by decide +kernel
theorem dX12_record_3 : decode cX12_record 3 = .ok (.ldc2_w 293, 3) := by decide +kernel
theorem dX12_record_6 : decode cX12_record 6 = .ok (.invokestatic 247, 3) := by decide +kernel
theorem dX12_record_9 : decode cX12_record 9 = .ok (.ifCond .eq 59, 3) := by decide +kernel
theorem dX12_record_12 : decode cX12_record 12 = .ok (.iload_n 2, 1) := by decide +kernel
theorem dX12_record_13 : decode cX12_record 13 = .ok (.i2l, 1) := by decide +kernel
theorem dX12_record_14 : decode cX12_record 14 = .ok (.lconst 0, 1) := by decide +kernel
theorem dX12_record_15 : decode cX12_record 15 = .ok (.ldc2_w 295, 3) := by decide +kernel
theorem dX12_record_18 : decode cX12_record 18 = .ok (.invokestatic 247, 3) := by decide +kernel
theorem dX12_record_21 : decode cX12_record 21 = .ok (.ifCond .eq 47, 3) := by decide +kernel
theorem dX12_record_24 : decode cX12_record 24 = .ok (.iload_n 3, 1) := by decide +kernel
theorem dX12_record_25 : decode cX12_record 25 = .ok (.i2l, 1) := by decide +kernel
theorem dX12_record_26 : decode cX12_record 26 = .ok (.lconst 0, 1) := by decide +kernel
theorem dX12_record_27 : decode cX12_record 27 = .ok (.ldc2_w 297, 3) := by decide +kernel
theorem dX12_record_30 : decode cX12_record 30 = .ok (.invokestatic 247, 3) := by decide +kernel
theorem dX12_record_33 : decode cX12_record 33 = .ok (.ifCond .eq 35, 3) := by decide +kernel
theorem dX12_record_36 : decode cX12_record 36 = .ok (.iload 4, 2) := by decide +kernel
theorem dX12_record_38 : decode cX12_record 38 = .ok (.invokestatic 267, 3) := by decide +kernel
theorem dX12_record_41 : decode cX12_record 41 = .ok (.ifCond .eq 27, 3) := by decide +kernel
theorem dX12_record_44 : decode cX12_record 44 = .ok (.iload 5, 2) := by decide +kernel
theorem dX12_record_46 : decode cX12_record 46 = .ok (.iconst (-1), 1) := by decide +kernel
theorem dX12_record_47 : decode cX12_record 47 = .ok (.if_icmp .eq 12, 3) := by decide +kernel
theorem dX12_record_50 : decode cX12_record 50 = .ok (.aload_n 0, 1) := by decide +kernel
theorem dX12_record_51 : decode cX12_record 51 = .ok (.iload 5, 2) := by decide +kernel
theorem dX12_record_53 : decode cX12_record 53 = .ok (.invokevirtual 282, 3) := by decide +kernel
theorem dX12_record_56 : decode cX12_record 56 = .ok (.ifCond .eq 12, 3) := by decide +kernel
theorem dX12_record_59 : decode cX12_record 59 = .ok (.aload_n 0, 1) := by decide +kernel
theorem dX12_record_60 : decode cX12_record 60 = .ok (.getfield 290, 3) := by decide +kernel
theorem dX12_record_63 : decode cX12_record 63 = .ok (.bipush 60, 2) := by decide +kernel
theorem dX12_record_65 : decode cX12_record 65 = .ok (.if_icmp .ne 5, 3) := by decide +kernel
theorem dX12_record_68 : decode cX12_record 68 = .ok (.iconst (-1), 1) := by decide +kernel
theorem dX12_record_69 : decode cX12_record 69 = .ok (.ireturn, 1) := by decide +kernel
theorem dX12_record_70 : decode cX12_record 70 = .ok (.aload_n 0, 1) := by decide +kernel
theorem dX12_record_71 : decode cX12_record 71 = .ok (.getfield 86, 3) := by decide +kernel
theorem dX12_record_74 : decode cX12_record 74 = .ok (.aload_n 0, 1) := by decide +kernel
theorem dX12_record_75 : decode cX12_record 75 = .ok (.getfield 290, 3) := by decide +kernel
theorem dX12_record_78 : decode cX12_record 78 = .ok (.iload_n 1, 1) := by decide +kernel
theorem dX12_record_79 : decode cX12_record 79 = .ok (.iastore, 1) := by decide +kernel
theorem dX12_record_80 : decode cX12_record 80 = .ok (.aload_n 0, 1) := by decide +kernel
theorem dX12_record_81 : decode cX12_record 81 = .ok (.getfield 89, 3) := by decide +kernel
theorem dX12_record_84 : decode cX12_record 84 = .ok (.aload_n 0, 1) := by decide +kernel
theorem dX12_record_85 : decode cX12_record 85 = .ok (.getfield 290, 3) := by decide +kernel
theorem dX12_record_88 : decode cX12_record 88 = .ok (.iload_n 2, 1) := by decide +kernel
theorem dX12_record_89 : decode cX12_record 89 = .ok (.iastore, 1) := by decide +kernel
theorem dX12_record_90 : decode cX12_record 90 = .ok (.aload_n 0, 1) := by decide +kernel
theorem dX12_record_91 : decode cX12_record 91 = .ok (.getfield 92, 3) := by decide +kernel
theorem dX12_record_94 : decode cX12_record 94 = .ok (.aload_n 0, 1) := by decide +kernel
theorem dX12_record_95 : decode cX12_record 95 = .ok (.getfield 290, 3) := by decide +kernel
theorem dX12_record_98 : decode cX12_record 98 = .ok (.iload_n 3, 1) := by decide +kernel
theorem dX12_record_99 : decode cX12_record 99 = .ok (.iastore, 1) := by decide +kernel
theorem dX12_record_100 : decode cX12_record 100 = .ok (.aload_n 0, 1) := by decide +kernel
theorem dX12_record_101 : decode cX12_record 101 = .ok (.getfield 95, 3) := by decide +kernel
theorem dX12_record_104 : decode cX12_record 104 = .ok (.aload_n 0, 1) := by decide +kernel
theorem dX12_record_105 : decode cX12_record 105 = .ok (.getfield 290, 3) := by decide +kernel
theorem dX12_record_108 : decode cX12_record 108 = .ok (.iload 4, 2) := by decide +kernel
theorem dX12_record_110 : decode cX12_record 110 = .ok (.sipush 1000, 3) := by decide +kernel
theorem dX12_record_113 : decode cX12_record 113 = .ok (.idiv, 1) := by decide +kernel
theorem dX12_record_114 : decode cX12_record 114 = .ok (.iastore, 1) := by decide +kernel
theorem dX12_record_115 : decode cX12_record 115 = .ok (.aload_n 0, 1) := by decide +kernel
theorem dX12_record_116 : decode cX12_record 116 = .ok (.getfield 98, 3) := by decide +kernel
theorem dX12_record_119 : decode cX12_record 119 = .ok (.aload_n 0, 1) := by decide +kernel
theorem dX12_record_120 : decode cX12_record 120 = .ok (.getfield 290, 3) := by decide +kernel
theorem dX12_record_123 : decode cX12_record 123 = .ok (.iload 4, 2) := by decide +kernel
theorem dX12_record_125 : decode cX12_record 125 = .ok (.sipush 1000, 3) := by decide +kernel
theorem dX12_record_128 : decode cX12_record 128 = .ok (.irem, 1) := by decide +kernel
theorem dX12_record_129 : decode cX12_record 129 = .ok (.iastore, 1) := by decide +kernel
theorem dX12_record_130 : decode cX12_record 130 = .ok (.aload_n 0, 1) := by decide +kernel
theorem dX12_record_131 : decode cX12_record 131 = .ok (.getfield 101, 3) := by decide +kernel
theorem dX12_record_134 : decode cX12_record 134 = .ok (.aload_n 0, 1) := by decide +kernel
theorem dX12_record_135 : decode cX12_record 135 = .ok (.getfield 290, 3) := by decide +kernel
theorem dX12_record_138 : decode cX12_record 138 = .ok (.iload 5, 2) := by decide +kernel
theorem dX12_record_140 : decode cX12_record 140 = .ok (.iastore, 1) := by decide +kernel
theorem dX12_record_141 : decode cX12_record 141 = .ok (.aload_n 0, 1) := by decide +kernel
theorem dX12_record_142 : decode cX12_record 142 = .ok (.getfield 104, 3) := by decide +kernel
theorem dX12_record_145 : decode cX12_record 145 = .ok (.aload_n 0, 1) := by decide +kernel
theorem dX12_record_146 : decode cX12_record 146 = .ok (.getfield 290, 3) := by decide +kernel
theorem dX12_record_149 : decode cX12_record 149 = .ok (.aload_n 0, 1) := by decide +kernel
theorem dX12_record_150 : decode cX12_record 150 = .ok (.getfield 290, 3) := by decide +kernel
theorem dX12_record_153 : decode cX12_record 153 = .ok (.iastore, 1) := by decide +kernel
theorem dX12_record_154 : decode cX12_record 154 = .ok (.aload_n 0, 1) := by decide +kernel
theorem dX12_record_155 : decode cX12_record 155 = .ok (.dup, 1) := by decide +kernel
theorem dX12_record_156 : decode cX12_record 156 = .ok (.getfield 290, 3) := by decide +kernel
theorem dX12_record_159 : decode cX12_record 159 = .ok (.iconst 1, 1) := by decide +kernel
theorem dX12_record_160 : decode cX12_record 160 = .ok (.iadd, 1) := by decide +kernel
theorem dX12_record_161 : decode cX12_record 161 = .ok (.putfield 290, 3) := by decide +kernel
theorem dX12_record_164 : decode cX12_record 164 = .ok (.aload_n 0, 1) := by decide +kernel
theorem dX12_record_165 : decode cX12_record 165 = .ok (.iconst 0, 1) := by decide +kernel
theorem dX12_record_166 : decode cX12_record 166 = .ok (.putfield 278, 3) := by decide +kernel
theorem dX12_record_169 : decode cX12_record 169 = .ok (.aload_n 0, 1) := by decide +kernel
theorem dX12_record_170 : decode cX12_record 170 = .ok (.getfield 290, 3) := by decide +kernel
theorem dX12_record_173 : decode cX12_record 173 = .ok (.iconst 1, 1) := by decide +kernel
theorem dX12_record_174 : decode cX12_record 174 = .ok (.isub, 1) := by decide +kernel
theorem dX12_record_175 : decode cX12_record 175 = .ok (.ireturn, 1) := by decide +kernel
theorem dX12_points_0 : decode cX12_points 0 = .ok (.iconst 0, 1) := by decide +kernel
theorem dX12_points_1 : decode cX12_points 1 = .ok (.istore 4, 2) := by decide +kernel
theorem dX12_points_3 : decode cX12_points 3 = .ok (.iload_n 0, 1) := by decide +kernel
theorem dX12_points_4 : decode cX12_points 4 = .ok (.istore 5, 2) := by decide +kernel
theorem dX12_points_6 : decode cX12_points 6 = .ok (.iload_n 2, 1) := by decide +kernel
theorem dX12_points_7 : decode cX12_points 7 = .ok (.istore 6, 2) := by decide +kernel
theorem dX12_points_9 : decode cX12_points 9 = .ok (.iconst 0, 1) := by decide +kernel
theorem dX12_points_10 : decode cX12_points 10 = .ok (.istore 7, 2) := by decide +kernel
theorem dX12_points_12 : decode cX12_points 12 = .ok (.iload 7, 2) := by decide +kernel
theorem dX12_points_14 : decode cX12_points 14 = .ok (.bipush 6, 2) := by decide +kernel
theorem dX12_points_16 : decode cX12_points 16 = .ok (.if_icmp .ge 46, 3) := by decide +kernel
theorem dX12_points_19 : decode cX12_points 19 = .ok (.iload 4, 2) := by decide +kernel
theorem dX12_points_21 : decode cX12_points 21 = .ok (.iload 5, 2) := by decide +kernel
theorem dX12_points_23 : decode cX12_points 23 = .ok (.bipush 10, 2) := by decide +kernel
theorem dX12_points_25 : decode cX12_points 25 = .ok (.irem, 1) := by decide +kernel
theorem dX12_points_26 : decode cX12_points 26 = .ok (.iload 6, 2) := by decide +kernel
theorem dX12_points_28 : decode cX12_points 28 = .ok (.bipush 10, 2) := by decide +kernel
theorem dX12_points_30 : decode cX12_points 30 = .ok (.irem, 1) := by decide +kernel
theorem dX12_points_31 : decode cX12_points 31 = .ok (.if_icmp .ne 7, 3) := by decide +kernel
theorem dX12_points_34 : decode cX12_points 34 = .ok (.iconst 1, 1) := by decide +kernel
theorem dX12_points_35 : decode cX12_points 35 = .ok (.goto 4, 3) := by decide +kernel
theorem dX12_points_38 : decode cX12_points 38 = .ok (.iconst 0, 1) := by decide +kernel
theorem dX12_points_39 : decode cX12_points 39 = .ok (.iadd, 1) := by decide +kernel
theorem dX12_points_40 : decode cX12_points 40 = .ok (.istore 4, 2) := by decide +kernel
theorem dX12_points_42 : decode cX12_points 42 = .ok (.iload 5, 2) := by decide +kernel
theorem dX12_points_44 : decode cX12_points 44 = .ok (.bipush 10, 2) := by decide +kernel
theorem dX12_points_46 : decode cX12_points 46 = .ok (.idiv, 1) := by decide +kernel
theorem dX12_points_47 : decode cX12_points 47 = .ok (.istore 5, 2) := by decide +kernel
theorem dX12_points_49 : decode cX12_points 49 = .ok (.iload 6, 2) := by decide +kernel
theorem dX12_points_51 : decode cX12_points 51 = .ok (.bipush 10, 2) := by decide +kernel
theorem dX12_points_53 : decode cX12_points 53 = .ok (.idiv, 1) := by decide +kernel
theorem dX12_points_54 : decode cX12_points 54 = .ok (.istore 6, 2) := by decide +kernel
theorem dX12_points_56 : decode cX12_points 56 = .ok (.iinc 7 1, 3) := by decide +kernel
theorem dX12_points_59 : decode cX12_points 59 = .ok (.goto (-47), 3) := by decide +kernel
theorem dX12_points_62 : decode cX12_points 62 = .ok (.iload 4, 2) := by decide +kernel
theorem dX12_points_64 : decode cX12_points 64 = .ok (.iload_n 1, 1) := by decide +kernel
theorem dX12_points_65 : decode cX12_points 65 = .ok (.iload_n 3, 1) := by decide +kernel
theorem dX12_points_66 : decode cX12_points 66 = .ok (.isub, 1) := by decide +kernel
theorem dX12_points_67 : decode cX12_points 67 = .ok (.invokestatic 299, 3) := by decide +kernel
theorem dX12_points_70 : decode cX12_points 70 = .ok (.isub, 1) := by decide +kernel
theorem dX12_points_71 : decode cX12_points 71 = .ok (.ireturn, 1) := by decide +kernel
theorem dX12_pointsOf_0 : decode cX12_pointsOf 0 = .ok (.aload_n 0, 1) := by decide +kernel
theorem dX12_pointsOf_1 : decode cX12_pointsOf 1 = .ok (.getfield 89, 3) := by decide +kernel
theorem dX12_pointsOf_4 : decode cX12_pointsOf 4 = .ok (.iload_n 1, 1) := by decide +kernel
theorem dX12_pointsOf_5 : decode cX12_pointsOf 5 = .ok (.iaload, 1) := by decide +kernel
theorem dX12_pointsOf_6 : decode cX12_pointsOf 6 = .ok (.aload_n 0, 1) := by decide +kernel
theorem dX12_pointsOf_7 : decode cX12_pointsOf 7 = .ok (.getfield 92, 3) := by decide +kernel
theorem dX12_pointsOf_10 : decode cX12_pointsOf 10 = .ok (.iload_n 1, 1) := by decide +kernel
theorem dX12_pointsOf_11 : decode cX12_pointsOf 11 = .ok (.iaload, 1) := by decide +kernel
theorem dX12_pointsOf_12 : decode cX12_pointsOf 12 = .ok (.aload_n 0, 1) := by decide +kernel
theorem dX12_pointsOf_13 : decode cX12_pointsOf 13 = .ok (.getfield 89, 3) := by decide +kernel
theorem dX12_pointsOf_16 : decode cX12_pointsOf 16 = .ok (.iload_n 2, 1) := by decide +kernel
theorem dX12_pointsOf_17 : decode cX12_pointsOf 17 = .ok (.iaload, 1) := by decide +kernel
theorem dX12_pointsOf_18 : decode cX12_pointsOf 18 = .ok (.aload_n 0, 1) := by decide +kernel
theorem dX12_pointsOf_19 : decode cX12_pointsOf 19 = .ok (.getfield 92, 3) := by decide +kernel
theorem dX12_pointsOf_22 : decode cX12_pointsOf 22 = .ok (.iload_n 2, 1) := by decide +kernel
theorem dX12_pointsOf_23 : decode cX12_pointsOf 23 = .ok (.iaload, 1) := by decide +kernel
theorem dX12_pointsOf_24 : decode cX12_pointsOf 24 = .ok (.invokestatic 303, 3) := by decide +kernel
theorem dX12_pointsOf_27 : decode cX12_pointsOf 27 = .ok (.ireturn, 1) := by decide +kernel
theorem dX12_areBarred_0 : decode cX12_areBarred 0 = .ok (.aload_n 0, 1) := by decide +kernel
theorem dX12_areBarred_1 : decode cX12_areBarred 1 = .ok (.getfield 95, 3) := by decide +kernel
theorem dX12_areBarred_4 : decode cX12_areBarred 4 = .ok (.iload_n 1, 1) := by decide +kernel
theorem dX12_areBarred_5 : decode cX12_areBarred 5 = .ok (.iaload, 1) := by decide +kernel
theorem dX12_areBarred_6 : decode cX12_areBarred 6 = .ok (.aload_n 0, 1) := by decide +kernel
theorem dX12_areBarred_7 : decode cX12_areBarred 7 = .ok (.getfield 98, 3) := by decide +kernel
theorem dX12_areBarred_10 : decode cX12_areBarred 10 = .ok (.iload_n 2, 1) := by decide +kernel
theorem dX12_areBarred_11 : decode cX12_areBarred 11 = .ok (.iaload, 1) := by decide +kernel
theorem dX12_areBarred_12 : decode cX12_areBarred 12 = .ok (.if_icmp .gt 22, 3) := by decide +kernel
theorem dX12_areBarred_15 : decode cX12_areBarred 15 = .ok (.aload_n 0, 1) := by decide +kernel
theorem dX12_areBarred_16 : decode cX12_areBarred 16 = .ok (.getfield 95, 3) := by decide +kernel
theorem dX12_areBarred_19 : decode cX12_areBarred 19 = .ok (.iload_n 2, 1) := by decide +kernel
theorem dX12_areBarred_20 : decode cX12_areBarred 20 = .ok (.iaload, 1) := by decide +kernel
theorem dX12_areBarred_21 : decode cX12_areBarred 21 = .ok (.aload_n 0, 1) := by decide +kernel
theorem dX12_areBarred_22 : decode cX12_areBarred 22 = .ok (.getfield 98, 3) := by decide +kernel
theorem dX12_areBarred_25 : decode cX12_areBarred 25 = .ok (.iload_n 1, 1) := by decide +kernel
theorem dX12_areBarred_26 : decode cX12_areBarred 26 = .ok (.iaload, 1) := by decide +kernel
theorem dX12_areBarred_27 : decode cX12_areBarred 27 = .ok (.if_icmp .gt 7, 3) := by decide +kernel
theorem dX12_areBarred_30 : decode cX12_areBarred 30 = .ok (.iconst 1, 1) := by decide +kernel
theorem dX12_areBarred_31 : decode cX12_areBarred 31 = .ok (.goto 4, 3) := by decide +kernel
theorem dX12_areBarred_34 : decode cX12_areBarred 34 = .ok (.iconst 0, 1) := by decide +kernel
theorem dX12_areBarred_35 : decode cX12_areBarred 35 = .ok (.ireturn, 1) := by decide +kernel
theorem dX12_alike_0 : decode cX12_alike 0 = .ok (.aload_n 0, 1) := by decide +kernel
theorem dX12_alike_1 : decode cX12_alike 1 = .ok (.iload_n 1, 1) := by decide +kernel
theorem dX12_alike_2 : decode cX12_alike 2 = .ok (.invokevirtual 307, 3) := by decide +kernel
theorem dX12_alike_5 : decode cX12_alike 5 = .ok (.ifCond .eq 35, 3) := by decide +kernel
theorem dX12_alike_8 : decode cX12_alike 8 = .ok (.aload_n 0, 1) := by decide +kernel
theorem dX12_alike_9 : decode cX12_alike 9 = .ok (.iload_n 2, 1) := by decide +kernel
theorem dX12_alike_10 : decode cX12_alike 10 = .ok (.invokevirtual 307, 3) := by decide +kernel
theorem dX12_alike_13 : decode cX12_alike 13 = .ok (.ifCond .eq 27, 3) := by decide +kernel
theorem dX12_alike_16 : decode cX12_alike 16 = .ok (.aload_n 0, 1) := by decide +kernel
theorem dX12_alike_17 : decode cX12_alike 17 = .ok (.getfield 86, 3) := by decide +kernel
theorem dX12_alike_20 : decode cX12_alike 20 = .ok (.iload_n 1, 1) := by decide +kernel
theorem dX12_alike_21 : decode cX12_alike 21 = .ok (.iaload, 1) := by decide +kernel
theorem dX12_alike_22 : decode cX12_alike 22 = .ok (.aload_n 0, 1) := by decide +kernel
theorem dX12_alike_23 : decode cX12_alike 23 = .ok (.getfield 86, 3) := by decide +kernel
theorem dX12_alike_26 : decode cX12_alike 26 = .ok (.iload_n 2, 1) := by decide +kernel
theorem dX12_alike_27 : decode cX12_alike 27 = .ok (.iaload, 1) := by decide +kernel
theorem dX12_alike_28 : decode cX12_alike 28 = .ok (.if_icmp .eq 12, 3) := by decide +kernel
theorem dX12_alike_31 : decode cX12_alike 31 = .ok (.aload_n 0, 1) := by decide +kernel
theorem dX12_alike_32 : decode cX12_alike 32 = .ok (.iload_n 1, 1) := by decide +kernel
theorem dX12_alike_33 : decode cX12_alike 33 = .ok (.iload_n 2, 1) := by decide +kernel
theorem dX12_alike_34 : decode cX12_alike 34 = .ok (.invokevirtual 310, 3) := by decide +kernel
theorem dX12_alike_37 : decode cX12_alike 37 = .ok (.ifCond .eq 7, 3) := by decide +kernel
theorem dX12_alike_40 : decode cX12_alike 40 = .ok (.ldc_w 314, 3) := by decide +kernel
theorem dX12_alike_43 : decode cX12_alike 43 = .ok (.ireturn, 1) := by decide +kernel
theorem dX12_alike_44 : decode cX12_alike 44 = .ok (.aload_n 0, 1) := by decide +kernel
theorem dX12_alike_45 : decode cX12_alike 45 = .ok (.iload_n 1, 1) := by decide +kernel
theorem dX12_alike_46 : decode cX12_alike 46 = .ok (.iload_n 2, 1) := by decide +kernel
theorem dX12_alike_47 : decode cX12_alike 47 = .ok (.invokevirtual 315, 3) := by decide +kernel
theorem dX12_alike_50 : decode cX12_alike 50 = .ok (.ireturn, 1) := by decide +kernel
theorem dX12_isMatch_0 : decode cX12_isMatch 0 = .ok (.aload_n 0, 1) := by decide +kernel
theorem dX12_isMatch_1 : decode cX12_isMatch 1 = .ok (.getfield 86, 3) := by decide +kernel
theorem dX12_isMatch_4 : decode cX12_isMatch 4 = .ok (.iload_n 2, 1) := by decide +kernel
theorem dX12_isMatch_5 : decode cX12_isMatch 5 = .ok (.iaload, 1) := by decide +kernel
theorem dX12_isMatch_6 : decode cX12_isMatch 6 = .ok (.aload_n 0, 1) := by decide +kernel
theorem dX12_isMatch_7 : decode cX12_isMatch 7 = .ok (.getfield 86, 3) := by decide +kernel
theorem dX12_isMatch_10 : decode cX12_isMatch 10 = .ok (.iload_n 1, 1) := by decide +kernel
theorem dX12_isMatch_11 : decode cX12_isMatch 11 = .ok (.iaload, 1) := by decide +kernel
theorem dX12_isMatch_12 : decode cX12_isMatch 12 = .ok (.if_icmp .eq 26, 3) := by decide +kernel
theorem dX12_isMatch_15 : decode cX12_isMatch 15 = .ok (.aload_n 0, 1) := by decide +kernel
theorem dX12_isMatch_16 : decode cX12_isMatch 16 = .ok (.iload_n 2, 1) := by decide +kernel
theorem dX12_isMatch_17 : decode cX12_isMatch 17 = .ok (.iload_n 1, 1) := by decide +kernel
theorem dX12_isMatch_18 : decode cX12_isMatch 18 = .ok (.invokevirtual 310, 3) := by decide +kernel
theorem dX12_isMatch_21 : decode cX12_isMatch 21 = .ok (.ifCond .ne 17, 3) := by decide +kernel
theorem dX12_isMatch_24 : decode cX12_isMatch 24 = .ok (.aload_n 0, 1) := by decide +kernel
theorem dX12_isMatch_25 : decode cX12_isMatch 25 = .ok (.iload_n 1, 1) := by decide +kernel
theorem dX12_isMatch_26 : decode cX12_isMatch 26 = .ok (.iload_n 2, 1) := by decide +kernel
theorem dX12_isMatch_27 : decode cX12_isMatch 27 = .ok (.invokevirtual 315, 3) := by decide +kernel
theorem dX12_isMatch_30 : decode cX12_isMatch 30 = .ok (.iconst 4, 1) := by decide +kernel
theorem dX12_isMatch_31 : decode cX12_isMatch 31 = .ok (.if_icmp .lt 7, 3) := by decide +kernel
theorem dX12_isMatch_34 : decode cX12_isMatch 34 = .ok (.iconst 1, 1) := by decide +kernel
theorem dX12_isMatch_35 : decode cX12_isMatch 35 = .ok (.goto 4, 3) := by decide +kernel
theorem dX12_isMatch_38 : decode cX12_isMatch 38 = .ok (.iconst 0, 1) := by decide +kernel
theorem dX12_isMatch_39 : decode cX12_isMatch 39 = .ok (.ireturn, 1) := by decide +kernel
theorem dX12_match_0 : decode cX12_match 0 = .ok (.aload_n 0, 1) := by decide +kernel
theorem dX12_match_1 : decode cX12_match 1 = .ok (.iload_n 1, 1) := by decide +kernel
theorem dX12_match_2 : decode cX12_match 2 = .ok (.invokevirtual 307, 3) := by decide +kernel
theorem dX12_match_5 : decode cX12_match 5 = .ok (.ifCond .ne 5, 3) := by decide +kernel
theorem dX12_match_8 : decode cX12_match 8 = .ok (.iconst (-1), 1) := by decide +kernel
theorem dX12_match_9 : decode cX12_match 9 = .ok (.ireturn, 1) := by decide +kernel
theorem dX12_match_10 : decode cX12_match 10 = .ok (.iconst (-1), 1) := by decide +kernel
theorem dX12_match_11 : decode cX12_match 11 = .ok (.istore_n 2, 1) := by decide +kernel
theorem dX12_match_12 : decode cX12_match 12 = .ok (.iconst 0, 1) := by decide +kernel
theorem dX12_match_13 : decode cX12_match 13 = .ok (.istore_n 3, 1) := by decide +kernel
theorem dX12_match_14 : decode cX12_match 14 = .ok (.iload_n 3, 1) := by decide +kernel
theorem dX12_match_15 : decode cX12_match 15 = .ok (.aload_n 0, 1) := by decide +kernel
theorem dX12_match_16 : decode cX12_match 16 = .ok (.getfield 290, 3) := by decide +kernel
theorem dX12_match_19 : decode cX12_match 19 = .ok (.if_icmp .ge 40, 3) := by decide +kernel
theorem dX12_match_22 : decode cX12_match 22 = .ok (.aload_n 0, 1) := by decide +kernel
theorem dX12_match_23 : decode cX12_match 23 = .ok (.iload_n 1, 1) := by decide +kernel
theorem dX12_match_24 : decode cX12_match 24 = .ok (.iload_n 3, 1) := by decide +kernel
theorem dX12_match_25 : decode cX12_match 25 = .ok (.invokevirtual 319, 3) := by decide +kernel
theorem dX12_match_28 : decode cX12_match 28 = .ok (.ifCond .eq 25, 3) := by decide +kernel
theorem dX12_match_31 : decode cX12_match 31 = .ok (.iload_n 2, 1) := by decide +kernel
theorem dX12_match_32 : decode cX12_match 32 = .ok (.iconst (-1), 1) := by decide +kernel
theorem dX12_match_33 : decode cX12_match 33 = .ok (.if_icmp .eq 18, 3) := by decide +kernel
theorem dX12_match_36 : decode cX12_match 36 = .ok (.aload_n 0, 1) := by decide +kernel
theorem dX12_match_37 : decode cX12_match 37 = .ok (.iload_n 1, 1) := by decide +kernel
theorem dX12_match_38 : decode cX12_match 38 = .ok (.iload_n 3, 1) := by decide +kernel
theorem dX12_match_39 : decode cX12_match 39 = .ok (.invokevirtual 315, 3) := by decide +kernel
theorem dX12_match_42 : decode cX12_match 42 = .ok (.aload_n 0, 1) := by decide +kernel
theorem dX12_match_43 : decode cX12_match 43 = .ok (.iload_n 1, 1) := by decide +kernel
theorem dX12_match_44 : decode cX12_match 44 = .ok (.iload_n 2, 1) := by decide +kernel
theorem dX12_match_45 : decode cX12_match 45 = .ok (.invokevirtual 315, 3) := by decide +kernel
theorem dX12_match_48 : decode cX12_match 48 = .ok (.if_icmp .le 5, 3) := by decide +kernel
theorem dX12_match_51 : decode cX12_match 51 = .ok (.iload_n 3, 1) := by decide +kernel
theorem dX12_match_52 : decode cX12_match 52 = .ok (.istore_n 2, 1) := by decide +kernel
theorem dX12_match_53 : decode cX12_match 53 = .ok (.iinc 3 1, 3) := by decide +kernel
theorem dX12_match_56 : decode cX12_match 56 = .ok (.goto (-42), 3) := by decide +kernel
theorem dX12_match_59 : decode cX12_match 59 = .ok (.iload_n 2, 1) := by decide +kernel
theorem dX12_match_60 : decode cX12_match 60 = .ok (.ireturn, 1) := by decide +kernel
theorem dX12_rivals_0 : decode cX12_rivals 0 = .ok (.aload_n 0, 1) := by decide +kernel
theorem dX12_rivals_1 : decode cX12_rivals 1 = .ok (.iload_n 1, 1) := by decide +kernel
theorem dX12_rivals_2 : decode cX12_rivals 2 = .ok (.invokevirtual 322, 3) := by decide +kernel
theorem dX12_rivals_5 : decode cX12_rivals 5 = .ok (.istore_n 2, 1) := by decide +kernel
theorem dX12_rivals_6 : decode cX12_rivals 6 = .ok (.iload_n 2, 1) := by decide +kernel
theorem dX12_rivals_7 : decode cX12_rivals 7 = .ok (.iconst (-1), 1) := by decide +kernel
theorem dX12_rivals_8 : decode cX12_rivals 8 = .ok (.if_icmp .ne 5, 3) := by decide +kernel
theorem dX12_rivals_11 : decode cX12_rivals 11 = .ok (.iconst (-1), 1) := by decide +kernel
theorem dX12_rivals_12 : decode cX12_rivals 12 = .ok (.ireturn, 1) := by decide +kernel
theorem dX12_rivals_13 : decode cX12_rivals 13 = .ok (.iconst 0, 1) := by decide +kernel
theorem dX12_rivals_14 : decode cX12_rivals 14 = .ok (.istore_n 3, 1) := by decide +kernel
theorem dX12_rivals_15 : decode cX12_rivals 15 = .ok (.iconst 0, 1) := by decide +kernel
theorem dX12_rivals_16 : decode cX12_rivals 16 = .ok (.istore 4, 2) := by decide +kernel
theorem dX12_rivals_18 : decode cX12_rivals 18 = .ok (.iload 4, 2) := by decide +kernel
theorem dX12_rivals_20 : decode cX12_rivals 20 = .ok (.aload_n 0, 1) := by decide +kernel
theorem dX12_rivals_21 : decode cX12_rivals 21 = .ok (.getfield 290, 3) := by decide +kernel
theorem dX12_rivals_24 : decode cX12_rivals 24 = .ok (.if_icmp .ge 49, 3) := by decide +kernel
theorem dX12_rivals_27 : decode cX12_rivals 27 = .ok (.iload_n 3, 1) := by decide +kernel
theorem dX12_rivals_28 : decode cX12_rivals 28 = .ok (.iload 4, 2) := by decide +kernel
theorem dX12_rivals_30 : decode cX12_rivals 30 = .ok (.iload_n 2, 1) := by decide +kernel
theorem dX12_rivals_31 : decode cX12_rivals 31 = .ok (.if_icmp .eq 33, 3) := by decide +kernel
theorem dX12_rivals_34 : decode cX12_rivals 34 = .ok (.aload_n 0, 1) := by decide +kernel
theorem dX12_rivals_35 : decode cX12_rivals 35 = .ok (.iload_n 1, 1) := by decide +kernel
theorem dX12_rivals_36 : decode cX12_rivals 36 = .ok (.iload 4, 2) := by decide +kernel
theorem dX12_rivals_38 : decode cX12_rivals 38 = .ok (.invokevirtual 319, 3) := by decide +kernel
theorem dX12_rivals_41 : decode cX12_rivals 41 = .ok (.ifCond .eq 23, 3) := by decide +kernel
theorem dX12_rivals_44 : decode cX12_rivals 44 = .ok (.aload_n 0, 1) := by decide +kernel
theorem dX12_rivals_45 : decode cX12_rivals 45 = .ok (.iload_n 1, 1) := by decide +kernel
theorem dX12_rivals_46 : decode cX12_rivals 46 = .ok (.iload 4, 2) := by decide +kernel
theorem dX12_rivals_48 : decode cX12_rivals 48 = .ok (.invokevirtual 315, 3) := by decide +kernel
theorem dX12_rivals_51 : decode cX12_rivals 51 = .ok (.aload_n 0, 1) := by decide +kernel
theorem dX12_rivals_52 : decode cX12_rivals 52 = .ok (.iload_n 1, 1) := by decide +kernel
theorem dX12_rivals_53 : decode cX12_rivals 53 = .ok (.iload_n 2, 1) := by decide +kernel
theorem dX12_rivals_54 : decode cX12_rivals 54 = .ok (.invokevirtual 315, 3) := by decide +kernel
theorem dX12_rivals_57 : decode cX12_rivals 57 = .ok (.if_icmp .ne 7, 3) := by decide +kernel
theorem dX12_rivals_60 : decode cX12_rivals 60 = .ok (.iconst 1, 1) := by decide +kernel
theorem dX12_rivals_61 : decode cX12_rivals 61 = .ok (.goto 4, 3) := by decide +kernel
theorem dX12_rivals_64 : decode cX12_rivals 64 = .ok (.iconst 0, 1) := by decide +kernel
theorem dX12_rivals_65 : decode cX12_rivals 65 = .ok (.iadd, 1) := by decide +kernel
theorem dX12_rivals_66 : decode cX12_rivals 66 = .ok (.istore_n 3, 1) := by decide +kernel
theorem dX12_rivals_67 : decode cX12_rivals 67 = .ok (.iinc 4 1, 3) := by decide +kernel
theorem dX12_rivals_70 : decode cX12_rivals 70 = .ok (.goto (-52), 3) := by decide +kernel
theorem dX12_rivals_73 : decode cX12_rivals 73 = .ok (.iload_n 3, 1) := by decide +kernel
theorem dX12_rivals_74 : decode cX12_rivals 74 = .ok (.ireturn, 1) := by decide +kernel
theorem dX12_heapSize_0 : decode cX12_heapSize 0 = .ok (.iconst 0, 1) := by decide +kernel
theorem dX12_heapSize_1 : decode cX12_heapSize 1 = .ok (.istore_n 2, 1) := by decide +kernel
theorem dX12_heapSize_2 : decode cX12_heapSize 2 = .ok (.iconst 0, 1) := by decide +kernel
theorem dX12_heapSize_3 : decode cX12_heapSize 3 = .ok (.istore_n 3, 1) := by decide +kernel
theorem dX12_heapSize_4 : decode cX12_heapSize 4 = .ok (.iload_n 3, 1) := by decide +kernel
theorem dX12_heapSize_5 : decode cX12_heapSize 5 = .ok (.aload_n 0, 1) := by decide +kernel
theorem dX12_heapSize_6 : decode cX12_heapSize 6 = .ok (.getfield 290, 3) := by decide +kernel
theorem dX12_heapSize_9 : decode cX12_heapSize 9 = .ok (.if_icmp .ge 27, 3) := by decide +kernel
theorem dX12_heapSize_12 : decode cX12_heapSize 12 = .ok (.iload_n 2, 1) := by decide +kernel
theorem dX12_heapSize_13 : decode cX12_heapSize 13 = .ok (.aload_n 0, 1) := by decide +kernel
theorem dX12_heapSize_14 : decode cX12_heapSize 14 = .ok (.getfield 104, 3) := by decide +kernel
theorem dX12_heapSize_17 : decode cX12_heapSize 17 = .ok (.iload_n 3, 1) := by decide +kernel
theorem dX12_heapSize_18 : decode cX12_heapSize 18 = .ok (.iaload, 1) := by decide +kernel
theorem dX12_heapSize_19 : decode cX12_heapSize 19 = .ok (.iload_n 1, 1) := by decide +kernel
theorem dX12_heapSize_20 : decode cX12_heapSize 20 = .ok (.if_icmp .ne 7, 3) := by decide +kernel
theorem dX12_heapSize_23 : decode cX12_heapSize 23 = .ok (.iconst 1, 1) := by decide +kernel
theorem dX12_heapSize_24 : decode cX12_heapSize 24 = .ok (.goto 4, 3) := by decide +kernel
theorem dX12_heapSize_27 : decode cX12_heapSize 27 = .ok (.iconst 0, 1) := by decide +kernel
theorem dX12_heapSize_28 : decode cX12_heapSize 28 = .ok (.iadd, 1) := by decide +kernel
theorem dX12_heapSize_29 : decode cX12_heapSize 29 = .ok (.istore_n 2, 1) := by decide +kernel
theorem dX12_heapSize_30 : decode cX12_heapSize 30 = .ok (.iinc 3 1, 3) := by decide +kernel
theorem dX12_heapSize_33 : decode cX12_heapSize 33 = .ok (.goto (-29), 3) := by decide +kernel
theorem dX12_heapSize_36 : decode cX12_heapSize 36 = .ok (.iload_n 2, 1) := by decide +kernel
theorem dX12_heapSize_37 : decode cX12_heapSize 37 = .ok (.ireturn, 1) := by decide +kernel
theorem dX12_join_0 : decode cX12_join 0 = .ok (.aload_n 0, 1) := by decide +kernel
theorem dX12_join_1 : decode cX12_join 1 = .ok (.iload_n 1, 1) := by decide +kernel
theorem dX12_join_2 : decode cX12_join 2 = .ok (.invokevirtual 307, 3) := by decide +kernel
theorem dX12_join_5 : decode cX12_join 5 = .ok (.ifCond .eq 26, 3) := by decide +kernel
theorem dX12_join_8 : decode cX12_join 8 = .ok (.aload_n 0, 1) := by decide +kernel
theorem dX12_join_9 : decode cX12_join 9 = .ok (.iload_n 2, 1) := by decide +kernel
theorem dX12_join_10 : decode cX12_join 10 = .ok (.invokevirtual 307, 3) := by decide +kernel
theorem dX12_join_13 : decode cX12_join 13 = .ok (.ifCond .eq 18, 3) := by decide +kernel
theorem dX12_join_16 : decode cX12_join 16 = .ok (.aload_n 0, 1) := by decide +kernel
theorem dX12_join_17 : decode cX12_join 17 = .ok (.getfield 104, 3) := by decide +kernel
theorem dX12_join_20 : decode cX12_join 20 = .ok (.iload_n 1, 1) := by decide +kernel
theorem dX12_join_21 : decode cX12_join 21 = .ok (.iaload, 1) := by decide +kernel
theorem dX12_join_22 : decode cX12_join 22 = .ok (.aload_n 0, 1) := by decide +kernel
theorem dX12_join_23 : decode cX12_join 23 = .ok (.getfield 104, 3) := by decide +kernel
theorem dX12_join_26 : decode cX12_join 26 = .ok (.iload_n 2, 1) := by decide +kernel
theorem dX12_join_27 : decode cX12_join 27 = .ok (.iaload, 1) := by decide +kernel
theorem dX12_join_28 : decode cX12_join 28 = .ok (.if_icmp .ne 5, 3) := by decide +kernel
theorem dX12_join_31 : decode cX12_join 31 = .ok (.iconst (-1), 1) := by decide +kernel
theorem dX12_join_32 : decode cX12_join 32 = .ok (.ireturn, 1) := by decide +kernel
theorem dX12_join_33 : decode cX12_join 33 = .ok (.iconst 0, 1) := by decide +kernel
theorem dX12_join_34 : decode cX12_join 34 = .ok (.istore_n 3, 1) := by decide +kernel
theorem dX12_join_35 : decode cX12_join 35 = .ok (.iload_n 3, 1) := by decide +kernel
theorem dX12_join_36 : decode cX12_join 36 = .ok (.aload_n 0, 1) := by decide +kernel
theorem dX12_join_37 : decode cX12_join 37 = .ok (.getfield 290, 3) := by decide +kernel
theorem dX12_join_40 : decode cX12_join 40 = .ok (.if_icmp .ge 86, 3) := by decide +kernel
theorem dX12_join_43 : decode cX12_join 43 = .ok (.iconst 0, 1) := by decide +kernel
theorem dX12_join_44 : decode cX12_join 44 = .ok (.istore 4, 2) := by decide +kernel
theorem dX12_join_46 : decode cX12_join 46 = .ok (.iload 4, 2) := by decide +kernel
theorem dX12_join_48 : decode cX12_join 48 = .ok (.aload_n 0, 1) := by decide +kernel
theorem dX12_join_49 : decode cX12_join 49 = .ok (.getfield 290, 3) := by decide +kernel
theorem dX12_join_52 : decode cX12_join 52 = .ok (.if_icmp .ge 68, 3) := by decide +kernel
theorem dX12_join_55 : decode cX12_join 55 = .ok (.aload_n 0, 1) := by decide +kernel
theorem dX12_join_56 : decode cX12_join 56 = .ok (.getfield 104, 3) := by decide +kernel
theorem dX12_join_59 : decode cX12_join 59 = .ok (.iload_n 3, 1) := by decide +kernel
theorem dX12_join_60 : decode cX12_join 60 = .ok (.iaload, 1) := by decide +kernel
theorem dX12_join_61 : decode cX12_join 61 = .ok (.aload_n 0, 1) := by decide +kernel
theorem dX12_join_62 : decode cX12_join 62 = .ok (.getfield 104, 3) := by decide +kernel
theorem dX12_join_65 : decode cX12_join 65 = .ok (.iload_n 1, 1) := by decide +kernel
theorem dX12_join_66 : decode cX12_join 66 = .ok (.iaload, 1) := by decide +kernel
theorem dX12_join_67 : decode cX12_join 67 = .ok (.if_icmp .ne 47, 3) := by decide +kernel
theorem dX12_join_70 : decode cX12_join 70 = .ok (.aload_n 0, 1) := by decide +kernel
theorem dX12_join_71 : decode cX12_join 71 = .ok (.getfield 104, 3) := by decide +kernel
theorem dX12_join_74 : decode cX12_join 74 = .ok (.iload 4, 2) := by decide +kernel
theorem dX12_join_76 : decode cX12_join 76 = .ok (.iaload, 1) := by decide +kernel
theorem dX12_join_77 : decode cX12_join 77 = .ok (.aload_n 0, 1) := by decide +kernel
theorem dX12_join_78 : decode cX12_join 78 = .ok (.getfield 104, 3) := by decide +kernel
theorem dX12_join_81 : decode cX12_join 81 = .ok (.iload_n 2, 1) := by decide +kernel
theorem dX12_join_82 : decode cX12_join 82 = .ok (.iaload, 1) := by decide +kernel
theorem dX12_join_83 : decode cX12_join 83 = .ok (.if_icmp .ne 31, 3) := by decide +kernel
theorem dX12_join_86 : decode cX12_join 86 = .ok (.aload_n 0, 1) := by decide +kernel
theorem dX12_join_87 : decode cX12_join 87 = .ok (.getfield 86, 3) := by decide +kernel
theorem dX12_join_90 : decode cX12_join 90 = .ok (.iload_n 3, 1) := by decide +kernel
theorem dX12_join_91 : decode cX12_join 91 = .ok (.iaload, 1) := by decide +kernel
theorem dX12_join_92 : decode cX12_join 92 = .ok (.aload_n 0, 1) := by decide +kernel
theorem dX12_join_93 : decode cX12_join 93 = .ok (.getfield 86, 3) := by decide +kernel
theorem dX12_join_96 : decode cX12_join 96 = .ok (.iload 4, 2) := by decide +kernel
theorem dX12_join_98 : decode cX12_join 98 = .ok (.iaload, 1) := by decide +kernel
theorem dX12_join_99 : decode cX12_join 99 = .ok (.if_icmp .eq 13, 3) := by decide +kernel
theorem dX12_join_102 : decode cX12_join 102 = .ok (.aload_n 0, 1) := by decide +kernel
theorem dX12_join_103 : decode cX12_join 103 = .ok (.iload_n 3, 1) := by decide +kernel
theorem dX12_join_104 : decode cX12_join 104 = .ok (.iload 4, 2) := by decide +kernel
theorem dX12_join_106 : decode cX12_join 106 = .ok (.invokevirtual 310, 3) := by decide +kernel
theorem dX12_join_109 : decode cX12_join 109 = .ok (.ifCond .eq 5, 3) := by decide +kernel
theorem dX12_join_112 : decode cX12_join 112 = .ok (.iconst (-1), 1) := by decide +kernel
theorem dX12_join_113 : decode cX12_join 113 = .ok (.ireturn, 1) := by decide +kernel
theorem dX12_join_114 : decode cX12_join 114 = .ok (.iinc 4 1, 3) := by decide +kernel
theorem dX12_join_117 : decode cX12_join 117 = .ok (.goto (-71), 3) := by decide +kernel
theorem dX12_join_120 : decode cX12_join 120 = .ok (.iinc 3 1, 3) := by decide +kernel
theorem dX12_join_123 : decode cX12_join 123 = .ok (.goto (-88), 3) := by decide +kernel
theorem dX12_join_126 : decode cX12_join 126 = .ok (.aload_n 0, 1) := by decide +kernel
theorem dX12_join_127 : decode cX12_join 127 = .ok (.getfield 104, 3) := by decide +kernel
theorem dX12_join_130 : decode cX12_join 130 = .ok (.iload_n 2, 1) := by decide +kernel
theorem dX12_join_131 : decode cX12_join 131 = .ok (.iaload, 1) := by decide +kernel
theorem dX12_join_132 : decode cX12_join 132 = .ok (.istore_n 3, 1) := by decide +kernel
theorem dX12_join_133 : decode cX12_join 133 = .ok (.iconst 0, 1) := by decide +kernel
theorem dX12_join_134 : decode cX12_join 134 = .ok (.istore 4, 2) := by decide +kernel
theorem dX12_join_136 : decode cX12_join 136 = .ok (.iload 4, 2) := by decide +kernel
theorem dX12_join_138 : decode cX12_join 138 = .ok (.aload_n 0, 1) := by decide +kernel
theorem dX12_join_139 : decode cX12_join 139 = .ok (.getfield 290, 3) := by decide +kernel
theorem dX12_join_142 : decode cX12_join 142 = .ok (.if_icmp .ge 33, 3) := by decide +kernel
theorem dX12_join_145 : decode cX12_join 145 = .ok (.aload_n 0, 1) := by decide +kernel
theorem dX12_join_146 : decode cX12_join 146 = .ok (.getfield 104, 3) := by decide +kernel
theorem dX12_join_149 : decode cX12_join 149 = .ok (.iload 4, 2) := by decide +kernel
theorem dX12_join_151 : decode cX12_join 151 = .ok (.iaload, 1) := by decide +kernel
theorem dX12_join_152 : decode cX12_join 152 = .ok (.iload_n 3, 1) := by decide +kernel
theorem dX12_join_153 : decode cX12_join 153 = .ok (.if_icmp .ne 16, 3) := by decide +kernel
theorem dX12_join_156 : decode cX12_join 156 = .ok (.aload_n 0, 1) := by decide +kernel
theorem dX12_join_157 : decode cX12_join 157 = .ok (.getfield 104, 3) := by decide +kernel
theorem dX12_join_160 : decode cX12_join 160 = .ok (.iload 4, 2) := by decide +kernel
theorem dX12_join_162 : decode cX12_join 162 = .ok (.aload_n 0, 1) := by decide +kernel
theorem dX12_join_163 : decode cX12_join 163 = .ok (.getfield 104, 3) := by decide +kernel
theorem dX12_join_166 : decode cX12_join 166 = .ok (.iload_n 1, 1) := by decide +kernel
theorem dX12_join_167 : decode cX12_join 167 = .ok (.iaload, 1) := by decide +kernel
theorem dX12_join_168 : decode cX12_join 168 = .ok (.iastore, 1) := by decide +kernel
theorem dX12_join_169 : decode cX12_join 169 = .ok (.iinc 4 1, 3) := by decide +kernel
theorem dX12_join_172 : decode cX12_join 172 = .ok (.goto (-36), 3) := by decide +kernel
theorem dX12_join_175 : decode cX12_join 175 = .ok (.aload_n 0, 1) := by decide +kernel
theorem dX12_join_176 : decode cX12_join 176 = .ok (.iconst 0, 1) := by decide +kernel
theorem dX12_join_177 : decode cX12_join 177 = .ok (.putfield 278, 3) := by decide +kernel
theorem dX12_join_180 : decode cX12_join 180 = .ok (.aload_n 0, 1) := by decide +kernel
theorem dX12_join_181 : decode cX12_join 181 = .ok (.aload_n 0, 1) := by decide +kernel
theorem dX12_join_182 : decode cX12_join 182 = .ok (.getfield 104, 3) := by decide +kernel
theorem dX12_join_185 : decode cX12_join 185 = .ok (.iload_n 1, 1) := by decide +kernel
theorem dX12_join_186 : decode cX12_join 186 = .ok (.iaload, 1) := by decide +kernel
theorem dX12_join_187 : decode cX12_join 187 = .ok (.invokevirtual 325, 3) := by decide +kernel
theorem dX12_join_190 : decode cX12_join 190 = .ok (.ireturn, 1) := by decide +kernel
theorem dX12_part_0 : decode cX12_part 0 = .ok (.aload_n 0, 1) := by decide +kernel
theorem dX12_part_1 : decode cX12_part 1 = .ok (.iload_n 1, 1) := by decide +kernel
theorem dX12_part_2 : decode cX12_part 2 = .ok (.invokevirtual 307, 3) := by decide +kernel
theorem dX12_part_5 : decode cX12_part 5 = .ok (.ifCond .ne 5, 3) := by decide +kernel
theorem dX12_part_8 : decode cX12_part 8 = .ok (.iconst (-1), 1) := by decide +kernel
theorem dX12_part_9 : decode cX12_part 9 = .ok (.ireturn, 1) := by decide +kernel
theorem dX12_part_10 : decode cX12_part 10 = .ok (.aload_n 0, 1) := by decide +kernel
theorem dX12_part_11 : decode cX12_part 11 = .ok (.getfield 104, 3) := by decide +kernel
theorem dX12_part_14 : decode cX12_part 14 = .ok (.iload_n 1, 1) := by decide +kernel
theorem dX12_part_15 : decode cX12_part 15 = .ok (.iaload, 1) := by decide +kernel
theorem dX12_part_16 : decode cX12_part 16 = .ok (.istore_n 2, 1) := by decide +kernel
theorem dX12_part_17 : decode cX12_part 17 = .ok (.aload_n 0, 1) := by decide +kernel
theorem dX12_part_18 : decode cX12_part 18 = .ok (.iload_n 2, 1) := by decide +kernel
theorem dX12_part_19 : decode cX12_part 19 = .ok (.invokevirtual 325, 3) := by decide +kernel
theorem dX12_part_22 : decode cX12_part 22 = .ok (.istore_n 3, 1) := by decide +kernel
theorem dX12_part_23 : decode cX12_part 23 = .ok (.iconst 0, 1) := by decide +kernel
theorem dX12_part_24 : decode cX12_part 24 = .ok (.istore 4, 2) := by decide +kernel
theorem dX12_part_26 : decode cX12_part 26 = .ok (.iload 4, 2) := by decide +kernel
theorem dX12_part_28 : decode cX12_part 28 = .ok (.aload_n 0, 1) := by decide +kernel
theorem dX12_part_29 : decode cX12_part 29 = .ok (.getfield 290, 3) := by decide +kernel
theorem dX12_part_32 : decode cX12_part 32 = .ok (.if_icmp .ge 29, 3) := by decide +kernel
theorem dX12_part_35 : decode cX12_part 35 = .ok (.aload_n 0, 1) := by decide +kernel
theorem dX12_part_36 : decode cX12_part 36 = .ok (.getfield 104, 3) := by decide +kernel
theorem dX12_part_39 : decode cX12_part 39 = .ok (.iload 4, 2) := by decide +kernel
theorem dX12_part_41 : decode cX12_part 41 = .ok (.iaload, 1) := by decide +kernel
theorem dX12_part_42 : decode cX12_part 42 = .ok (.iload_n 2, 1) := by decide +kernel
theorem dX12_part_43 : decode cX12_part 43 = .ok (.if_icmp .ne 12, 3) := by decide +kernel
theorem dX12_part_46 : decode cX12_part 46 = .ok (.aload_n 0, 1) := by decide +kernel
theorem dX12_part_47 : decode cX12_part 47 = .ok (.getfield 104, 3) := by decide +kernel
theorem dX12_part_50 : decode cX12_part 50 = .ok (.iload 4, 2) := by decide +kernel
theorem dX12_part_52 : decode cX12_part 52 = .ok (.iload 4, 2) := by decide +kernel
theorem dX12_part_54 : decode cX12_part 54 = .ok (.iastore, 1) := by decide +kernel
theorem dX12_part_55 : decode cX12_part 55 = .ok (.iinc 4 1, 3) := by decide +kernel
theorem dX12_part_58 : decode cX12_part 58 = .ok (.goto (-32), 3) := by decide +kernel
theorem dX12_part_61 : decode cX12_part 61 = .ok (.aload_n 0, 1) := by decide +kernel
theorem dX12_part_62 : decode cX12_part 62 = .ok (.iconst 0, 1) := by decide +kernel
theorem dX12_part_63 : decode cX12_part 63 = .ok (.putfield 278, 3) := by decide +kernel
theorem dX12_part_66 : decode cX12_part 66 = .ok (.iload_n 3, 1) := by decide +kernel
theorem dX12_part_67 : decode cX12_part 67 = .ok (.ireturn, 1) := by decide +kernel
theorem dX12_same_0 : decode cX12_same 0 = .ok (.aload_n 0, 1) := by decide +kernel
theorem dX12_same_1 : decode cX12_same 1 = .ok (.iload_n 1, 1) := by decide +kernel
theorem dX12_same_2 : decode cX12_same 2 = .ok (.invokevirtual 307, 3) := by decide +kernel
theorem dX12_same_5 : decode cX12_same 5 = .ok (.ifCond .eq 30, 3) := by decide +kernel
theorem dX12_same_8 : decode cX12_same 8 = .ok (.aload_n 0, 1) := by decide +kernel
theorem dX12_same_9 : decode cX12_same 9 = .ok (.iload_n 2, 1) := by decide +kernel
theorem dX12_same_10 : decode cX12_same 10 = .ok (.invokevirtual 307, 3) := by decide +kernel
theorem dX12_same_13 : decode cX12_same 13 = .ok (.ifCond .eq 22, 3) := by decide +kernel
theorem dX12_same_16 : decode cX12_same 16 = .ok (.aload_n 0, 1) := by decide +kernel
theorem dX12_same_17 : decode cX12_same 17 = .ok (.getfield 104, 3) := by decide +kernel
theorem dX12_same_20 : decode cX12_same 20 = .ok (.iload_n 1, 1) := by decide +kernel
theorem dX12_same_21 : decode cX12_same 21 = .ok (.iaload, 1) := by decide +kernel
theorem dX12_same_22 : decode cX12_same 22 = .ok (.aload_n 0, 1) := by decide +kernel
theorem dX12_same_23 : decode cX12_same 23 = .ok (.getfield 104, 3) := by decide +kernel
theorem dX12_same_26 : decode cX12_same 26 = .ok (.iload_n 2, 1) := by decide +kernel
theorem dX12_same_27 : decode cX12_same 27 = .ok (.iaload, 1) := by decide +kernel
theorem dX12_same_28 : decode cX12_same 28 = .ok (.if_icmp .ne 7, 3) := by decide +kernel
theorem dX12_same_31 : decode cX12_same 31 = .ok (.iconst 1, 1) := by decide +kernel
theorem dX12_same_32 : decode cX12_same 32 = .ok (.goto 4, 3) := by decide +kernel
theorem dX12_same_35 : decode cX12_same 35 = .ok (.iconst 0, 1) := by decide +kernel
theorem dX12_same_36 : decode cX12_same 36 = .ok (.ireturn, 1) := by decide +kernel
theorem dX12_seek_0 : decode cX12_seek 0 = .ok (.aload_n 0, 1) := by decide +kernel
theorem dX12_seek_1 : decode cX12_seek 1 = .ok (.iload_n 1, 1) := by decide +kernel
theorem dX12_seek_2 : decode cX12_seek 2 = .ok (.invokevirtual 282, 3) := by decide +kernel
theorem dX12_seek_5 : decode cX12_seek 5 = .ok (.ifCond .eq 36, 3) := by decide +kernel
theorem dX12_seek_8 : decode cX12_seek 8 = .ok (.iload_n 2, 1) := by decide +kernel
theorem dX12_seek_9 : decode cX12_seek 9 = .ok (.i2l, 1) := by decide +kernel
theorem dX12_seek_10 : decode cX12_seek 10 = .ok (.lconst 0, 1) := by decide +kernel
theorem dX12_seek_11 : decode cX12_seek 11 = .ok (.ldc2_w 295, 3) := by decide +kernel
theorem dX12_seek_14 : decode cX12_seek 14 = .ok (.invokestatic 247, 3) := by decide +kernel
theorem dX12_seek_17 : decode cX12_seek 17 = .ok (.ifCond .eq 24, 3) := by decide +kernel
theorem dX12_seek_20 : decode cX12_seek 20 = .ok (.iload_n 3, 1) := by decide +kernel
theorem dX12_seek_21 : decode cX12_seek 21 = .ok (.i2l, 1) := by decide +kernel
theorem dX12_seek_22 : decode cX12_seek 22 = .ok (.lconst 0, 1) := by decide +kernel
theorem dX12_seek_23 : decode cX12_seek 23 = .ok (.ldc2_w 297, 3) := by decide +kernel
theorem dX12_seek_26 : decode cX12_seek 26 = .ok (.invokestatic 247, 3) := by decide +kernel
theorem dX12_seek_29 : decode cX12_seek 29 = .ok (.ifCond .eq 12, 3) := by decide +kernel
theorem dX12_seek_32 : decode cX12_seek 32 = .ok (.aload_n 0, 1) := by decide +kernel
theorem dX12_seek_33 : decode cX12_seek 33 = .ok (.getfield 328, 3) := by decide +kernel
theorem dX12_seek_36 : decode cX12_seek 36 = .ok (.bipush 40, 2) := by decide +kernel
theorem dX12_seek_38 : decode cX12_seek 38 = .ok (.if_icmp .ne 5, 3) := by decide +kernel
theorem dX12_seek_41 : decode cX12_seek 41 = .ok (.iconst 0, 1) := by decide +kernel
theorem dX12_seek_42 : decode cX12_seek 42 = .ok (.ireturn, 1) := by decide +kernel
theorem dX12_seek_43 : decode cX12_seek 43 = .ok (.aload_n 0, 1) := by decide +kernel
theorem dX12_seek_44 : decode cX12_seek 44 = .ok (.getfield 107, 3) := by decide +kernel
theorem dX12_seek_47 : decode cX12_seek 47 = .ok (.aload_n 0, 1) := by decide +kernel
theorem dX12_seek_48 : decode cX12_seek 48 = .ok (.getfield 328, 3) := by decide +kernel
theorem dX12_seek_51 : decode cX12_seek 51 = .ok (.iload_n 1, 1) := by decide +kernel
theorem dX12_seek_52 : decode cX12_seek 52 = .ok (.iastore, 1) := by decide +kernel
theorem dX12_seek_53 : decode cX12_seek 53 = .ok (.aload_n 0, 1) := by decide +kernel
theorem dX12_seek_54 : decode cX12_seek 54 = .ok (.getfield 110, 3) := by decide +kernel
theorem dX12_seek_57 : decode cX12_seek 57 = .ok (.aload_n 0, 1) := by decide +kernel
theorem dX12_seek_58 : decode cX12_seek 58 = .ok (.getfield 328, 3) := by decide +kernel
theorem dX12_seek_61 : decode cX12_seek 61 = .ok (.iload_n 2, 1) := by decide +kernel
theorem dX12_seek_62 : decode cX12_seek 62 = .ok (.iastore, 1) := by decide +kernel
theorem dX12_seek_63 : decode cX12_seek 63 = .ok (.aload_n 0, 1) := by decide +kernel
theorem dX12_seek_64 : decode cX12_seek 64 = .ok (.getfield 113, 3) := by decide +kernel
theorem dX12_seek_67 : decode cX12_seek 67 = .ok (.aload_n 0, 1) := by decide +kernel
theorem dX12_seek_68 : decode cX12_seek 68 = .ok (.getfield 328, 3) := by decide +kernel
theorem dX12_seek_71 : decode cX12_seek 71 = .ok (.iload_n 3, 1) := by decide +kernel
theorem dX12_seek_72 : decode cX12_seek 72 = .ok (.iastore, 1) := by decide +kernel
theorem dX12_seek_73 : decode cX12_seek 73 = .ok (.aload_n 0, 1) := by decide +kernel
theorem dX12_seek_74 : decode cX12_seek 74 = .ok (.dup, 1) := by decide +kernel
theorem dX12_seek_75 : decode cX12_seek 75 = .ok (.getfield 328, 3) := by decide +kernel
theorem dX12_seek_78 : decode cX12_seek 78 = .ok (.iconst 1, 1) := by decide +kernel
theorem dX12_seek_79 : decode cX12_seek 79 = .ok (.iadd, 1) := by decide +kernel
theorem dX12_seek_80 : decode cX12_seek 80 = .ok (.putfield 328, 3) := by decide +kernel
theorem dX12_seek_83 : decode cX12_seek 83 = .ok (.aload_n 0, 1) := by decide +kernel
theorem dX12_seek_84 : decode cX12_seek 84 = .ok (.iconst 0, 1) := by decide +kernel
theorem dX12_seek_85 : decode cX12_seek 85 = .ok (.putfield 278, 3) := by decide +kernel
theorem dX12_seek_88 : decode cX12_seek 88 = .ok (.iconst 1, 1) := by decide +kernel
theorem dX12_seek_89 : decode cX12_seek 89 = .ok (.ireturn, 1) := by decide +kernel
theorem dX12_isOf_0 : decode cX12_isOf 0 = .ok (.iconst 0, 1) := by decide +kernel
theorem dX12_isOf_1 : decode cX12_isOf 1 = .ok (.istore_n 3, 1) := by decide +kernel
theorem dX12_isOf_2 : decode cX12_isOf 2 = .ok (.iload_n 3, 1) := by decide +kernel
theorem dX12_isOf_3 : decode cX12_isOf 3 = .ok (.aload_n 0, 1) := by decide +kernel
theorem dX12_isOf_4 : decode cX12_isOf 4 = .ok (.getfield 290, 3) := by decide +kernel
theorem dX12_isOf_7 : decode cX12_isOf 7 = .ok (.if_icmp .ge 36, 3) := by decide +kernel
theorem dX12_isOf_10 : decode cX12_isOf 10 = .ok (.aload_n 0, 1) := by decide +kernel
theorem dX12_isOf_11 : decode cX12_isOf 11 = .ok (.getfield 101, 3) := by decide +kernel
theorem dX12_isOf_14 : decode cX12_isOf 14 = .ok (.iload_n 3, 1) := by decide +kernel
theorem dX12_isOf_15 : decode cX12_isOf 15 = .ok (.iaload, 1) := by decide +kernel
theorem dX12_isOf_16 : decode cX12_isOf 16 = .ok (.iload_n 2, 1) := by decide +kernel
theorem dX12_isOf_17 : decode cX12_isOf 17 = .ok (.if_icmp .ne 20, 3) := by decide +kernel
theorem dX12_isOf_20 : decode cX12_isOf 20 = .ok (.aload_n 0, 1) := by decide +kernel
theorem dX12_isOf_21 : decode cX12_isOf 21 = .ok (.getfield 104, 3) := by decide +kernel
theorem dX12_isOf_24 : decode cX12_isOf 24 = .ok (.iload_n 3, 1) := by decide +kernel
theorem dX12_isOf_25 : decode cX12_isOf 25 = .ok (.iaload, 1) := by decide +kernel
theorem dX12_isOf_26 : decode cX12_isOf 26 = .ok (.aload_n 0, 1) := by decide +kernel
theorem dX12_isOf_27 : decode cX12_isOf 27 = .ok (.getfield 104, 3) := by decide +kernel
theorem dX12_isOf_30 : decode cX12_isOf 30 = .ok (.iload_n 1, 1) := by decide +kernel
theorem dX12_isOf_31 : decode cX12_isOf 31 = .ok (.iaload, 1) := by decide +kernel
theorem dX12_isOf_32 : decode cX12_isOf 32 = .ok (.if_icmp .ne 5, 3) := by decide +kernel
theorem dX12_isOf_35 : decode cX12_isOf 35 = .ok (.iconst 1, 1) := by decide +kernel
theorem dX12_isOf_36 : decode cX12_isOf 36 = .ok (.ireturn, 1) := by decide +kernel
theorem dX12_isOf_37 : decode cX12_isOf 37 = .ok (.iinc 3 1, 3) := by decide +kernel
theorem dX12_isOf_40 : decode cX12_isOf 40 = .ok (.goto (-38), 3) := by decide +kernel
theorem dX12_isOf_43 : decode cX12_isOf 43 = .ok (.iconst 0, 1) := by decide +kernel
theorem dX12_isOf_44 : decode cX12_isOf 44 = .ok (.ireturn, 1) := by decide +kernel
theorem dX12_reckons_0 : decode cX12_reckons 0 = .ok (.iconst 0, 1) := by decide +kernel
theorem dX12_reckons_1 : decode cX12_reckons 1 = .ok (.istore_n 1, 1) := by decide +kernel
theorem dX12_reckons_2 : decode cX12_reckons 2 = .ok (.iload_n 1, 1) := by decide +kernel
theorem dX12_reckons_3 : decode cX12_reckons 3 = .ok (.aload_n 0, 1) := by decide +kernel
theorem dX12_reckons_4 : decode cX12_reckons 4 = .ok (.getfield 254, 3) := by decide +kernel
theorem dX12_reckons_7 : decode cX12_reckons 7 = .ok (.if_icmp .ge 34, 3) := by decide +kernel
theorem dX12_reckons_10 : decode cX12_reckons 10 = .ok (.iconst 0, 1) := by decide +kernel
theorem dX12_reckons_11 : decode cX12_reckons 11 = .ok (.istore_n 2, 1) := by decide +kernel
theorem dX12_reckons_12 : decode cX12_reckons 12 = .ok (.iload_n 2, 1) := by decide +kernel
theorem dX12_reckons_13 : decode cX12_reckons 13 = .ok (.aload_n 0, 1) := by decide +kernel
theorem dX12_reckons_14 : decode cX12_reckons 14 = .ok (.getfield 254, 3) := by decide +kernel
theorem dX12_reckons_17 : decode cX12_reckons 17 = .ok (.if_icmp .ge 18, 3) := by decide +kernel
theorem dX12_reckons_20 : decode cX12_reckons 20 = .ok (.aload_n 0, 1) := by decide +kernel
theorem dX12_reckons_21 : decode cX12_reckons 21 = .ok (.getfield 116, 3) := by decide +kernel
theorem dX12_reckons_24 : decode cX12_reckons 24 = .ok (.iload_n 1, 1) := by decide +kernel
theorem dX12_reckons_25 : decode cX12_reckons 25 = .ok (.aaload, 1) := by decide +kernel
theorem dX12_reckons_26 : decode cX12_reckons 26 = .ok (.iload_n 2, 1) := by decide +kernel
theorem dX12_reckons_27 : decode cX12_reckons 27 = .ok (.iconst (-1), 1) := by decide +kernel
theorem dX12_reckons_28 : decode cX12_reckons 28 = .ok (.iastore, 1) := by decide +kernel
theorem dX12_reckons_29 : decode cX12_reckons 29 = .ok (.iinc 2 1, 3) := by decide +kernel
theorem dX12_reckons_32 : decode cX12_reckons 32 = .ok (.goto (-20), 3) := by decide +kernel
theorem dX12_reckons_35 : decode cX12_reckons 35 = .ok (.iinc 1 1, 3) := by decide +kernel
theorem dX12_reckons_38 : decode cX12_reckons 38 = .ok (.goto (-36), 3) := by decide +kernel
theorem dX12_reckons_41 : decode cX12_reckons 41 = .ok (.iconst 0, 1) := by decide +kernel
theorem dX12_reckons_42 : decode cX12_reckons 42 = .ok (.istore_n 1, 1) := by decide +kernel
theorem dX12_reckons_43 : decode cX12_reckons 43 = .ok (.iload_n 1, 1) := by decide +kernel
theorem dX12_reckons_44 : decode cX12_reckons 44 = .ok (.aload_n 0, 1) := by decide +kernel
theorem dX12_reckons_45 : decode cX12_reckons 45 = .ok (.getfield 290, 3) := by decide +kernel
theorem dX12_reckons_48 : decode cX12_reckons 48 = .ok (.if_icmp .ge 131, 3) := by decide +kernel
theorem dX12_reckons_51 : decode cX12_reckons 51 = .ok (.iconst 0, 1) := by decide +kernel
theorem dX12_reckons_52 : decode cX12_reckons 52 = .ok (.istore_n 2, 1) := by decide +kernel
theorem dX12_reckons_53 : decode cX12_reckons 53 = .ok (.iload_n 2, 1) := by decide +kernel
theorem dX12_reckons_54 : decode cX12_reckons 54 = .ok (.aload_n 0, 1) := by decide +kernel
theorem dX12_reckons_55 : decode cX12_reckons 55 = .ok (.getfield 254, 3) := by decide +kernel
theorem dX12_reckons_58 : decode cX12_reckons 58 = .ok (.if_icmp .ge 115, 3) := by decide +kernel
theorem dX12_reckons_61 : decode cX12_reckons 61 = .ok (.aload_n 0, 1) := by decide +kernel
theorem dX12_reckons_62 : decode cX12_reckons 62 = .ok (.iload_n 1, 1) := by decide +kernel
theorem dX12_reckons_63 : decode cX12_reckons 63 = .ok (.iload_n 2, 1) := by decide +kernel
theorem dX12_reckons_64 : decode cX12_reckons 64 = .ok (.invokevirtual 331, 3) := by decide +kernel
theorem dX12_reckons_67 : decode cX12_reckons 67 = .ok (.ifCond .ne 6, 3) := by decide +kernel
theorem dX12_reckons_70 : decode cX12_reckons 70 = .ok (.goto 97, 3) := by decide +kernel
theorem dX12_reckons_73 : decode cX12_reckons 73 = .ok (.iconst 0, 1) := by decide +kernel
theorem dX12_reckons_74 : decode cX12_reckons 74 = .ok (.istore_n 3, 1) := by decide +kernel
theorem dX12_reckons_75 : decode cX12_reckons 75 = .ok (.iload_n 3, 1) := by decide +kernel
theorem dX12_reckons_76 : decode cX12_reckons 76 = .ok (.aload_n 0, 1) := by decide +kernel
theorem dX12_reckons_77 : decode cX12_reckons 77 = .ok (.getfield 328, 3) := by decide +kernel
theorem dX12_reckons_80 : decode cX12_reckons 80 = .ok (.if_icmp .ge 87, 3) := by decide +kernel
theorem dX12_reckons_83 : decode cX12_reckons 83 = .ok (.aload_n 0, 1) := by decide +kernel
theorem dX12_reckons_84 : decode cX12_reckons 84 = .ok (.getfield 110, 3) := by decide +kernel
theorem dX12_reckons_87 : decode cX12_reckons 87 = .ok (.iload_n 3, 1) := by decide +kernel
theorem dX12_reckons_88 : decode cX12_reckons 88 = .ok (.iaload, 1) := by decide +kernel
theorem dX12_reckons_89 : decode cX12_reckons 89 = .ok (.aload_n 0, 1) := by decide +kernel
theorem dX12_reckons_90 : decode cX12_reckons 90 = .ok (.getfield 113, 3) := by decide +kernel
theorem dX12_reckons_93 : decode cX12_reckons 93 = .ok (.iload_n 3, 1) := by decide +kernel
theorem dX12_reckons_94 : decode cX12_reckons 94 = .ok (.iaload, 1) := by decide +kernel
theorem dX12_reckons_95 : decode cX12_reckons 95 = .ok (.aload_n 0, 1) := by decide +kernel
theorem dX12_reckons_96 : decode cX12_reckons 96 = .ok (.getfield 89, 3) := by decide +kernel
theorem dX12_reckons_99 : decode cX12_reckons 99 = .ok (.iload_n 1, 1) := by decide +kernel
theorem dX12_reckons_100 : decode cX12_reckons 100 = .ok (.iaload, 1) := by decide +kernel
theorem dX12_reckons_101 : decode cX12_reckons 101 = .ok (.aload_n 0, 1) := by decide +kernel
theorem dX12_reckons_102 : decode cX12_reckons 102 = .ok (.getfield 92, 3) := by decide +kernel
theorem dX12_reckons_105 : decode cX12_reckons 105 = .ok (.iload_n 1, 1) := by decide +kernel
theorem dX12_reckons_106 : decode cX12_reckons 106 = .ok (.iaload, 1) := by decide +kernel
theorem dX12_reckons_107 : decode cX12_reckons 107 = .ok (.invokestatic 303, 3) := by decide +kernel
theorem dX12_reckons_110 : decode cX12_reckons 110 = .ok (.istore 4, 2) := by decide +kernel
theorem dX12_reckons_112 : decode cX12_reckons 112 = .ok (.aload_n 0, 1) := by decide +kernel
theorem dX12_reckons_113 : decode cX12_reckons 113 = .ok (.getfield 107, 3) := by decide +kernel
theorem dX12_reckons_116 : decode cX12_reckons 116 = .ok (.iload_n 3, 1) := by decide +kernel
theorem dX12_reckons_117 : decode cX12_reckons 117 = .ok (.iaload, 1) := by decide +kernel
theorem dX12_reckons_118 : decode cX12_reckons 118 = .ok (.iload_n 2, 1) := by decide +kernel
theorem dX12_reckons_119 : decode cX12_reckons 119 = .ok (.if_icmp .eq 42, 3) := by decide +kernel
theorem dX12_reckons_122 : decode cX12_reckons 122 = .ok (.iload 4, 2) := by decide +kernel
theorem dX12_reckons_124 : decode cX12_reckons 124 = .ok (.iconst 5, 1) := by decide +kernel
theorem dX12_reckons_125 : decode cX12_reckons 125 = .ok (.if_icmp .lt 36, 3) := by decide +kernel
theorem dX12_reckons_128 : decode cX12_reckons 128 = .ok (.iload 4, 2) := by decide +kernel
theorem dX12_reckons_130 : decode cX12_reckons 130 = .ok (.aload_n 0, 1) := by decide +kernel
theorem dX12_reckons_131 : decode cX12_reckons 131 = .ok (.getfield 116, 3) := by decide +kernel
theorem dX12_reckons_134 : decode cX12_reckons 134 = .ok (.aload_n 0, 1) := by decide +kernel
theorem dX12_reckons_135 : decode cX12_reckons 135 = .ok (.getfield 107, 3) := by decide +kernel
theorem dX12_reckons_138 : decode cX12_reckons 138 = .ok (.iload_n 3, 1) := by decide +kernel
theorem dX12_reckons_139 : decode cX12_reckons 139 = .ok (.iaload, 1) := by decide +kernel
theorem dX12_reckons_140 : decode cX12_reckons 140 = .ok (.aaload, 1) := by decide +kernel
theorem dX12_reckons_141 : decode cX12_reckons 141 = .ok (.iload_n 2, 1) := by decide +kernel
theorem dX12_reckons_142 : decode cX12_reckons 142 = .ok (.iaload, 1) := by decide +kernel
theorem dX12_reckons_143 : decode cX12_reckons 143 = .ok (.if_icmp .le 18, 3) := by decide +kernel
theorem dX12_reckons_146 : decode cX12_reckons 146 = .ok (.aload_n 0, 1) := by decide +kernel
theorem dX12_reckons_147 : decode cX12_reckons 147 = .ok (.getfield 116, 3) := by decide +kernel
theorem dX12_reckons_150 : decode cX12_reckons 150 = .ok (.aload_n 0, 1) := by decide +kernel
theorem dX12_reckons_151 : decode cX12_reckons 151 = .ok (.getfield 107, 3) := by decide +kernel
theorem dX12_reckons_154 : decode cX12_reckons 154 = .ok (.iload_n 3, 1) := by decide +kernel
theorem dX12_reckons_155 : decode cX12_reckons 155 = .ok (.iaload, 1) := by decide +kernel
theorem dX12_reckons_156 : decode cX12_reckons 156 = .ok (.aaload, 1) := by decide +kernel
theorem dX12_reckons_157 : decode cX12_reckons 157 = .ok (.iload_n 2, 1) := by decide +kernel
theorem dX12_reckons_158 : decode cX12_reckons 158 = .ok (.iload 4, 2) := by decide +kernel
theorem dX12_reckons_160 : decode cX12_reckons 160 = .ok (.iastore, 1) := by decide +kernel
theorem dX12_reckons_161 : decode cX12_reckons 161 = .ok (.iinc 3 1, 3) := by decide +kernel
theorem dX12_reckons_164 : decode cX12_reckons 164 = .ok (.goto (-89), 3) := by decide +kernel
theorem dX12_reckons_167 : decode cX12_reckons 167 = .ok (.iinc 2 1, 3) := by decide +kernel
theorem dX12_reckons_170 : decode cX12_reckons 170 = .ok (.goto (-117), 3) := by decide +kernel
theorem dX12_reckons_173 : decode cX12_reckons 173 = .ok (.iinc 1 1, 3) := by decide +kernel
theorem dX12_reckons_176 : decode cX12_reckons 176 = .ok (.goto (-133), 3) := by decide +kernel
theorem dX12_reckons_179 : decode cX12_reckons 179 = .ok (.aload_n 0, 1) := by decide +kernel
theorem dX12_reckons_180 : decode cX12_reckons 180 = .ok (.iconst 1, 1) := by decide +kernel
theorem dX12_reckons_181 : decode cX12_reckons 181 = .ok (.putfield 278, 3) := by decide +kernel
theorem dX12_reckons_184 : decode cX12_reckons 184 = .ok (.return_, 1) := by decide +kernel
theorem dX12_surely_0 : decode cX12_surely 0 = .ok (.aload_n 0, 1) := by decide +kernel
theorem dX12_surely_1 : decode cX12_surely 1 = .ok (.getfield 278, 3) := by decide +kernel
theorem dX12_surely_4 : decode cX12_surely 4 = .ok (.ifCond .ne 7, 3) := by decide +kernel
theorem dX12_surely_7 : decode cX12_surely 7 = .ok (.aload_n 0, 1) := by decide +kernel
theorem dX12_surely_8 : decode cX12_surely 8 = .ok (.invokevirtual 334, 3) := by decide +kernel
theorem dX12_surely_11 : decode cX12_surely 11 = .ok (.iload_n 1, 1) := by decide +kernel
theorem dX12_surely_12 : decode cX12_surely 12 = .ok (.iload_n 2, 1) := by decide +kernel
theorem dX12_surely_13 : decode cX12_surely 13 = .ok (.if_icmp .ne 7, 3) := by decide +kernel
theorem dX12_surely_16 : decode cX12_surely 16 = .ok (.iconst (-1), 1) := by decide +kernel
theorem dX12_surely_17 : decode cX12_surely 17 = .ok (.goto 11, 3) := by decide +kernel
theorem dX12_surely_20 : decode cX12_surely 20 = .ok (.aload_n 0, 1) := by decide +kernel
theorem dX12_surely_21 : decode cX12_surely 21 = .ok (.getfield 116, 3) := by decide +kernel
theorem dX12_surely_24 : decode cX12_surely 24 = .ok (.iload_n 1, 1) := by decide +kernel
theorem dX12_surely_25 : decode cX12_surely 25 = .ok (.aaload, 1) := by decide +kernel
theorem dX12_surely_26 : decode cX12_surely 26 = .ok (.iload_n 2, 1) := by decide +kernel
theorem dX12_surely_27 : decode cX12_surely 27 = .ok (.iaload, 1) := by decide +kernel
theorem dX12_surely_28 : decode cX12_surely 28 = .ok (.ireturn, 1) := by decide +kernel
theorem dX12_finds_0 : decode cX12_finds 0 = .ok (.aload_n 0, 1) := by decide +kernel
theorem dX12_finds_1 : decode cX12_finds 1 = .ok (.iload_n 1, 1) := by decide +kernel
theorem dX12_finds_2 : decode cX12_finds 2 = .ok (.invokevirtual 282, 3) := by decide +kernel
theorem dX12_finds_5 : decode cX12_finds 5 = .ok (.ifCond .eq 20, 3) := by decide +kernel
theorem dX12_finds_8 : decode cX12_finds 8 = .ok (.aload_n 0, 1) := by decide +kernel
theorem dX12_finds_9 : decode cX12_finds 9 = .ok (.iload_n 2, 1) := by decide +kernel
theorem dX12_finds_10 : decode cX12_finds 10 = .ok (.invokevirtual 282, 3) := by decide +kernel
theorem dX12_finds_13 : decode cX12_finds 13 = .ok (.ifCond .eq 12, 3) := by decide +kernel
theorem dX12_finds_16 : decode cX12_finds 16 = .ok (.aload_n 0, 1) := by decide +kernel
theorem dX12_finds_17 : decode cX12_finds 17 = .ok (.iload_n 1, 1) := by decide +kernel
theorem dX12_finds_18 : decode cX12_finds 18 = .ok (.iload_n 2, 1) := by decide +kernel
theorem dX12_finds_19 : decode cX12_finds 19 = .ok (.invokevirtual 337, 3) := by decide +kernel
theorem dX12_finds_22 : decode cX12_finds 22 = .ok (.goto 4, 3) := by decide +kernel
theorem dX12_finds_25 : decode cX12_finds 25 = .ok (.iconst (-1), 1) := by decide +kernel
theorem dX12_finds_26 : decode cX12_finds 26 = .ok (.ireturn, 1) := by decide +kernel
theorem dX12_areKin_0 : decode cX12_areKin 0 = .ok (.aload_n 0, 1) := by decide +kernel
theorem dX12_areKin_1 : decode cX12_areKin 1 = .ok (.iload_n 1, 1) := by decide +kernel
theorem dX12_areKin_2 : decode cX12_areKin 2 = .ok (.iload_n 2, 1) := by decide +kernel
theorem dX12_areKin_3 : decode cX12_areKin 3 = .ok (.invokevirtual 337, 3) := by decide +kernel
theorem dX12_areKin_6 : decode cX12_areKin 6 = .ok (.iconst (-1), 1) := by decide +kernel
theorem dX12_areKin_7 : decode cX12_areKin 7 = .ok (.if_icmp .ne 13, 3) := by decide +kernel
theorem dX12_areKin_10 : decode cX12_areKin 10 = .ok (.aload_n 0, 1) := by decide +kernel
theorem dX12_areKin_11 : decode cX12_areKin 11 = .ok (.iload_n 2, 1) := by decide +kernel
theorem dX12_areKin_12 : decode cX12_areKin 12 = .ok (.iload_n 1, 1) := by decide +kernel
theorem dX12_areKin_13 : decode cX12_areKin 13 = .ok (.invokevirtual 337, 3) := by decide +kernel
theorem dX12_areKin_16 : decode cX12_areKin 16 = .ok (.iconst (-1), 1) := by decide +kernel
theorem dX12_areKin_17 : decode cX12_areKin 17 = .ok (.if_icmp .eq 7, 3) := by decide +kernel
theorem dX12_areKin_20 : decode cX12_areKin 20 = .ok (.iconst 1, 1) := by decide +kernel
theorem dX12_areKin_21 : decode cX12_areKin 21 = .ok (.goto 4, 3) := by decide +kernel
theorem dX12_areKin_24 : decode cX12_areKin 24 = .ok (.iconst 0, 1) := by decide +kernel
theorem dX12_areKin_25 : decode cX12_areKin 25 = .ok (.ireturn, 1) := by decide +kernel
theorem dX12_kin_0 : decode cX12_kin 0 = .ok (.aload_n 0, 1) := by decide +kernel
theorem dX12_kin_1 : decode cX12_kin 1 = .ok (.iload_n 1, 1) := by decide +kernel
theorem dX12_kin_2 : decode cX12_kin 2 = .ok (.invokevirtual 282, 3) := by decide +kernel
theorem dX12_kin_5 : decode cX12_kin 5 = .ok (.ifCond .ne 5, 3) := by decide +kernel
theorem dX12_kin_8 : decode cX12_kin 8 = .ok (.iconst (-1), 1) := by decide +kernel
theorem dX12_kin_9 : decode cX12_kin 9 = .ok (.ireturn, 1) := by decide +kernel
theorem dX12_kin_10 : decode cX12_kin 10 = .ok (.iconst 0, 1) := by decide +kernel
theorem dX12_kin_11 : decode cX12_kin 11 = .ok (.istore_n 2, 1) := by decide +kernel
theorem dX12_kin_12 : decode cX12_kin 12 = .ok (.iconst 0, 1) := by decide +kernel
theorem dX12_kin_13 : decode cX12_kin 13 = .ok (.istore_n 3, 1) := by decide +kernel
theorem dX12_kin_14 : decode cX12_kin 14 = .ok (.iload_n 3, 1) := by decide +kernel
theorem dX12_kin_15 : decode cX12_kin 15 = .ok (.aload_n 0, 1) := by decide +kernel
theorem dX12_kin_16 : decode cX12_kin 16 = .ok (.getfield 254, 3) := by decide +kernel
theorem dX12_kin_19 : decode cX12_kin 19 = .ok (.if_icmp .ge 33, 3) := by decide +kernel
theorem dX12_kin_22 : decode cX12_kin 22 = .ok (.iload_n 2, 1) := by decide +kernel
theorem dX12_kin_23 : decode cX12_kin 23 = .ok (.iload_n 3, 1) := by decide +kernel
theorem dX12_kin_24 : decode cX12_kin 24 = .ok (.iload_n 1, 1) := by decide +kernel
theorem dX12_kin_25 : decode cX12_kin 25 = .ok (.if_icmp .eq 18, 3) := by decide +kernel
theorem dX12_kin_28 : decode cX12_kin 28 = .ok (.aload_n 0, 1) := by decide +kernel
theorem dX12_kin_29 : decode cX12_kin 29 = .ok (.iload_n 1, 1) := by decide +kernel
theorem dX12_kin_30 : decode cX12_kin 30 = .ok (.iload_n 3, 1) := by decide +kernel
theorem dX12_kin_31 : decode cX12_kin 31 = .ok (.invokevirtual 340, 3) := by decide +kernel
theorem dX12_kin_34 : decode cX12_kin 34 = .ok (.ifCond .eq 9, 3) := by decide +kernel
theorem dX12_kin_37 : decode cX12_kin 37 = .ok (.iconst 1, 1) := by decide +kernel
theorem dX12_kin_38 : decode cX12_kin 38 = .ok (.iload_n 3, 1) := by decide +kernel
theorem dX12_kin_39 : decode cX12_kin 39 = .ok (.ishl, 1) := by decide +kernel
theorem dX12_kin_40 : decode cX12_kin 40 = .ok (.goto 4, 3) := by decide +kernel
theorem dX12_kin_43 : decode cX12_kin 43 = .ok (.iconst 0, 1) := by decide +kernel
theorem dX12_kin_44 : decode cX12_kin 44 = .ok (.ior, 1) := by decide +kernel
theorem dX12_kin_45 : decode cX12_kin 45 = .ok (.istore_n 2, 1) := by decide +kernel
theorem dX12_kin_46 : decode cX12_kin 46 = .ok (.iinc 3 1, 3) := by decide +kernel
theorem dX12_kin_49 : decode cX12_kin 49 = .ok (.goto (-35), 3) := by decide +kernel
theorem dX12_kin_52 : decode cX12_kin 52 = .ok (.iload_n 2, 1) := by decide +kernel
theorem dX12_kin_53 : decode cX12_kin 53 = .ok (.ireturn, 1) := by decide +kernel
theorem dX12_mutual_0 : decode cX12_mutual 0 = .ok (.aload_n 0, 1) := by decide +kernel
theorem dX12_mutual_1 : decode cX12_mutual 1 = .ok (.iload_n 1, 1) := by decide +kernel
theorem dX12_mutual_2 : decode cX12_mutual 2 = .ok (.invokevirtual 282, 3) := by decide +kernel
theorem dX12_mutual_5 : decode cX12_mutual 5 = .ok (.ifCond .ne 5, 3) := by decide +kernel
theorem dX12_mutual_8 : decode cX12_mutual 8 = .ok (.iconst (-1), 1) := by decide +kernel
theorem dX12_mutual_9 : decode cX12_mutual 9 = .ok (.ireturn, 1) := by decide +kernel
theorem dX12_mutual_10 : decode cX12_mutual 10 = .ok (.iconst 0, 1) := by decide +kernel
theorem dX12_mutual_11 : decode cX12_mutual 11 = .ok (.istore_n 2, 1) := by decide +kernel
theorem dX12_mutual_12 : decode cX12_mutual 12 = .ok (.iconst 0, 1) := by decide +kernel
theorem dX12_mutual_13 : decode cX12_mutual 13 = .ok (.istore_n 3, 1) := by decide +kernel
theorem dX12_mutual_14 : decode cX12_mutual 14 = .ok (.iload_n 3, 1) := by decide +kernel
theorem dX12_mutual_15 : decode cX12_mutual 15 = .ok (.aload_n 0, 1) := by decide +kernel
theorem dX12_mutual_16 : decode cX12_mutual 16 = .ok (.getfield 254, 3) := by decide +kernel
theorem dX12_mutual_19 : decode cX12_mutual 19 = .ok (.if_icmp .ge 44, 3) := by decide +kernel
theorem dX12_mutual_22 : decode cX12_mutual 22 = .ok (.iload_n 2, 1) := by decide +kernel
theorem dX12_mutual_23 : decode cX12_mutual 23 = .ok (.iload_n 3, 1) := by decide +kernel
theorem dX12_mutual_24 : decode cX12_mutual 24 = .ok (.iload_n 1, 1) := by decide +kernel
theorem dX12_mutual_25 : decode cX12_mutual 25 = .ok (.if_icmp .eq 29, 3) := by decide +kernel
theorem dX12_mutual_28 : decode cX12_mutual 28 = .ok (.aload_n 0, 1) := by decide +kernel
theorem dX12_mutual_29 : decode cX12_mutual 29 = .ok (.iload_n 1, 1) := by decide +kernel
theorem dX12_mutual_30 : decode cX12_mutual 30 = .ok (.iload_n 3, 1) := by decide +kernel
theorem dX12_mutual_31 : decode cX12_mutual 31 = .ok (.invokevirtual 337, 3) := by decide +kernel
theorem dX12_mutual_34 : decode cX12_mutual 34 = .ok (.iconst (-1), 1) := by decide +kernel
theorem dX12_mutual_35 : decode cX12_mutual 35 = .ok (.if_icmp .eq 19, 3) := by decide +kernel
theorem dX12_mutual_38 : decode cX12_mutual 38 = .ok (.aload_n 0, 1) := by decide +kernel
theorem dX12_mutual_39 : decode cX12_mutual 39 = .ok (.iload_n 3, 1) := by decide +kernel
theorem dX12_mutual_40 : decode cX12_mutual 40 = .ok (.iload_n 1, 1) := by decide +kernel
theorem dX12_mutual_41 : decode cX12_mutual 41 = .ok (.invokevirtual 337, 3) := by decide +kernel
theorem dX12_mutual_44 : decode cX12_mutual 44 = .ok (.iconst (-1), 1) := by decide +kernel
theorem dX12_mutual_45 : decode cX12_mutual 45 = .ok (.if_icmp .eq 9, 3) := by decide +kernel
theorem dX12_mutual_48 : decode cX12_mutual 48 = .ok (.iconst 1, 1) := by decide +kernel
theorem dX12_mutual_49 : decode cX12_mutual 49 = .ok (.iload_n 3, 1) := by decide +kernel
theorem dX12_mutual_50 : decode cX12_mutual 50 = .ok (.ishl, 1) := by decide +kernel
theorem dX12_mutual_51 : decode cX12_mutual 51 = .ok (.goto 4, 3) := by decide +kernel
theorem dX12_mutual_54 : decode cX12_mutual 54 = .ok (.iconst 0, 1) := by decide +kernel
theorem dX12_mutual_55 : decode cX12_mutual 55 = .ok (.ior, 1) := by decide +kernel
theorem dX12_mutual_56 : decode cX12_mutual 56 = .ok (.istore_n 2, 1) := by decide +kernel
theorem dX12_mutual_57 : decode cX12_mutual 57 = .ok (.iinc 3 1, 3) := by decide +kernel
theorem dX12_mutual_60 : decode cX12_mutual 60 = .ok (.goto (-46), 3) := by decide +kernel
theorem dX12_mutual_63 : decode cX12_mutual 63 = .ok (.iload_n 2, 1) := by decide +kernel
theorem dX12_mutual_64 : decode cX12_mutual 64 = .ok (.ireturn, 1) := by decide +kernel
theorem dX12_feeds_0 : decode cX12_feeds 0 = .ok (.iconst 3, 1) := by decide +kernel
theorem dX12_feeds_1 : decode cX12_feeds 1 = .ok (.istore_n 2, 1) := by decide +kernel
theorem dX12_feeds_2 : decode cX12_feeds 2 = .ok (.iload_n 2, 1) := by decide +kernel
theorem dX12_feeds_3 : decode cX12_feeds 3 = .ok (.ifCond .lt 35, 3) := by decide +kernel
theorem dX12_feeds_6 : decode cX12_feeds 6 = .ok (.aload_n 0, 1) := by decide +kernel
theorem dX12_feeds_7 : decode cX12_feeds 7 = .ok (.getfield 119, 3) := by decide +kernel
theorem dX12_feeds_10 : decode cX12_feeds 10 = .ok (.aload_n 0, 1) := by decide +kernel
theorem dX12_feeds_11 : decode cX12_feeds 11 = .ok (.getfield 343, 3) := by decide +kernel
theorem dX12_feeds_14 : decode cX12_feeds 14 = .ok (.iload_n 1, 1) := by decide +kernel
theorem dX12_feeds_15 : decode cX12_feeds 15 = .ok (.bipush 8, 2) := by decide +kernel
theorem dX12_feeds_17 : decode cX12_feeds 17 = .ok (.iload_n 2, 1) := by decide +kernel
theorem dX12_feeds_18 : decode cX12_feeds 18 = .ok (.imul, 1) := by decide +kernel
theorem dX12_feeds_19 : decode cX12_feeds 19 = .ok (.iushr, 1) := by decide +kernel
theorem dX12_feeds_20 : decode cX12_feeds 20 = .ok (.i2b, 1) := by decide +kernel
theorem dX12_feeds_21 : decode cX12_feeds 21 = .ok (.bastore, 1) := by decide +kernel
theorem dX12_feeds_22 : decode cX12_feeds 22 = .ok (.aload_n 0, 1) := by decide +kernel
theorem dX12_feeds_23 : decode cX12_feeds 23 = .ok (.dup, 1) := by decide +kernel
theorem dX12_feeds_24 : decode cX12_feeds 24 = .ok (.getfield 343, 3) := by decide +kernel
theorem dX12_feeds_27 : decode cX12_feeds 27 = .ok (.iconst 1, 1) := by decide +kernel
theorem dX12_feeds_28 : decode cX12_feeds 28 = .ok (.iadd, 1) := by decide +kernel
theorem dX12_feeds_29 : decode cX12_feeds 29 = .ok (.putfield 343, 3) := by decide +kernel
theorem dX12_feeds_32 : decode cX12_feeds 32 = .ok (.iinc 2 (-1), 3) := by decide +kernel
theorem dX12_feeds_35 : decode cX12_feeds 35 = .ok (.goto (-33), 3) := by decide +kernel
theorem dX12_feeds_38 : decode cX12_feeds 38 = .ok (.return_, 1) := by decide +kernel
theorem dX12_feed_0 : decode cX12_feed 0 = .ok (.aload_n 0, 1) := by decide +kernel
theorem dX12_feed_1 : decode cX12_feed 1 = .ok (.getfield 343, 3) := by decide +kernel
theorem dX12_feed_4 : decode cX12_feed 4 = .ok (.bipush 20, 2) := by decide +kernel
theorem dX12_feed_6 : decode cX12_feed 6 = .ok (.iadd, 1) := by decide +kernel
theorem dX12_feed_7 : decode cX12_feed 7 = .ok (.sipush 500, 3) := by decide +kernel
theorem dX12_feed_10 : decode cX12_feed 10 = .ok (.if_icmp .le 5, 3) := by decide +kernel
theorem dX12_feed_13 : decode cX12_feed 13 = .ok (.iconst (-1), 1) := by decide +kernel
theorem dX12_feed_14 : decode cX12_feed 14 = .ok (.ireturn, 1) := by decide +kernel
theorem dX12_feed_15 : decode cX12_feed 15 = .ok (.aload_n 0, 1) := by decide +kernel
theorem dX12_feed_16 : decode cX12_feed 16 = .ok (.iload_n 1, 1) := by decide +kernel
theorem dX12_feed_17 : decode cX12_feed 17 = .ok (.invokevirtual 346, 3) := by decide +kernel
theorem dX12_feed_20 : decode cX12_feed 20 = .ok (.aload_n 0, 1) := by decide +kernel
theorem dX12_feed_21 : decode cX12_feed 21 = .ok (.iload_n 2, 1) := by decide +kernel
theorem dX12_feed_22 : decode cX12_feed 22 = .ok (.invokevirtual 346, 3) := by decide +kernel
theorem dX12_feed_25 : decode cX12_feed 25 = .ok (.aload_n 0, 1) := by decide +kernel
theorem dX12_feed_26 : decode cX12_feed 26 = .ok (.iload_n 3, 1) := by decide +kernel
theorem dX12_feed_27 : decode cX12_feed 27 = .ok (.invokevirtual 346, 3) := by decide +kernel
theorem dX12_feed_30 : decode cX12_feed 30 = .ok (.aload_n 0, 1) := by decide +kernel
theorem dX12_feed_31 : decode cX12_feed 31 = .ok (.iload 4, 2) := by decide +kernel
theorem dX12_feed_33 : decode cX12_feed 33 = .ok (.invokevirtual 346, 3) := by decide +kernel
theorem dX12_feed_36 : decode cX12_feed 36 = .ok (.aload_n 0, 1) := by decide +kernel
theorem dX12_feed_37 : decode cX12_feed 37 = .ok (.iload 5, 2) := by decide +kernel
theorem dX12_feed_39 : decode cX12_feed 39 = .ok (.invokevirtual 346, 3) := by decide +kernel
theorem dX12_feed_42 : decode cX12_feed 42 = .ok (.aload_n 0, 1) := by decide +kernel
theorem dX12_feed_43 : decode cX12_feed 43 = .ok (.getfield 343, 3) := by decide +kernel
theorem dX12_feed_46 : decode cX12_feed 46 = .ok (.ireturn, 1) := by decide +kernel
theorem dX12_end_0 : decode cX12_end 0 = .ok (.iload_n 1, 1) := by decide +kernel
theorem dX12_end_1 : decode cX12_end 1 = .ok (.i2l, 1) := by decide +kernel
theorem dX12_end_2 : decode cX12_end 2 = .ok (.lconst 0, 1) := by decide +kernel
theorem dX12_end_3 : decode cX12_end 3 = .ok (.aload_n 0, 1) := by decide +kernel
theorem dX12_end_4 : decode cX12_end 4 = .ok (.getfield 343, 3) := by decide +kernel
theorem dX12_end_7 : decode cX12_end 7 = .ok (.i2l, 1) := by decide +kernel
theorem dX12_end_8 : decode cX12_end 8 = .ok (.invokestatic 247, 3) := by decide +kernel
theorem dX12_end_11 : decode cX12_end 11 = .ok (.ifCond .ne 5, 3) := by decide +kernel
theorem dX12_end_14 : decode cX12_end 14 = .ok (.iconst 0, 1) := by decide +kernel
theorem dX12_end_15 : decode cX12_end 15 = .ok (.ireturn, 1) := by decide +kernel
theorem dX12_end_16 : decode cX12_end 16 = .ok (.aload_n 0, 1) := by decide +kernel
theorem dX12_end_17 : decode cX12_end 17 = .ok (.iload_n 1, 1) := by decide +kernel
theorem dX12_end_18 : decode cX12_end 18 = .ok (.putfield 343, 3) := by decide +kernel
theorem dX12_end_21 : decode cX12_end 21 = .ok (.iconst 1, 1) := by decide +kernel
theorem dX12_end_22 : decode cX12_end 22 = .ok (.ireturn, 1) := by decide +kernel
theorem dX12_isLetter_0 : decode cX12_isLetter 0 = .ok (.iload_n 0, 1) := by decide +kernel
theorem dX12_isLetter_1 : decode cX12_isLetter 1 = .ok (.bipush 97, 2) := by decide +kernel
theorem dX12_isLetter_3 : decode cX12_isLetter 3 = .ok (.if_icmp .lt 13, 3) := by decide +kernel
theorem dX12_isLetter_6 : decode cX12_isLetter 6 = .ok (.iload_n 0, 1) := by decide +kernel
theorem dX12_isLetter_7 : decode cX12_isLetter 7 = .ok (.bipush 122, 2) := by decide +kernel
theorem dX12_isLetter_9 : decode cX12_isLetter 9 = .ok (.if_icmp .gt 7, 3) := by decide +kernel
theorem dX12_isLetter_12 : decode cX12_isLetter 12 = .ok (.iconst 1, 1) := by decide +kernel
theorem dX12_isLetter_13 : decode cX12_isLetter 13 = .ok (.goto 4, 3) := by decide +kernel
theorem dX12_isLetter_16 : decode cX12_isLetter 16 = .ok (.iconst 0, 1) := by decide +kernel
theorem dX12_isLetter_17 : decode cX12_isLetter 17 = .ok (.ireturn, 1) := by decide +kernel
theorem dX12_isDigit_0 : decode cX12_isDigit 0 = .ok (.iload_n 0, 1) := by decide +kernel
theorem dX12_isDigit_1 : decode cX12_isDigit 1 = .ok (.bipush 48, 2) := by decide +kernel
theorem dX12_isDigit_3 : decode cX12_isDigit 3 = .ok (.if_icmp .lt 13, 3) := by decide +kernel
theorem dX12_isDigit_6 : decode cX12_isDigit 6 = .ok (.iload_n 0, 1) := by decide +kernel
theorem dX12_isDigit_7 : decode cX12_isDigit 7 = .ok (.bipush 57, 2) := by decide +kernel
theorem dX12_isDigit_9 : decode cX12_isDigit 9 = .ok (.if_icmp .gt 7, 3) := by decide +kernel
theorem dX12_isDigit_12 : decode cX12_isDigit 12 = .ok (.iconst 1, 1) := by decide +kernel
theorem dX12_isDigit_13 : decode cX12_isDigit 13 = .ok (.goto 4, 3) := by decide +kernel
theorem dX12_isDigit_16 : decode cX12_isDigit 16 = .ok (.iconst 0, 1) := by decide +kernel
theorem dX12_isDigit_17 : decode cX12_isDigit 17 = .ok (.ireturn, 1) := by decide +kernel
theorem dX12_skips_0 : decode cX12_skips 0 = .ok (.aload_n 0, 1) := by decide +kernel
theorem dX12_skips_1 : decode cX12_skips 1 = .ok (.getfield 350, 3) := by decide +kernel
theorem dX12_skips_4 : decode cX12_skips 4 = .ok (.aload_n 0, 1) := by decide +kernel
theorem dX12_skips_5 : decode cX12_skips 5 = .ok (.getfield 343, 3) := by decide +kernel
theorem dX12_skips_8 : decode cX12_skips 8 = .ok (.if_icmp .ge 44, 3) := by decide +kernel
theorem dX12_skips_11 : decode cX12_skips 11 = .ok (.aload_n 0, 1) := by decide +kernel
theorem dX12_skips_12 : decode cX12_skips 12 = .ok (.getfield 119, 3) := by decide +kernel
theorem dX12_skips_15 : decode cX12_skips 15 = .ok (.aload_n 0, 1) := by decide +kernel
theorem dX12_skips_16 : decode cX12_skips 16 = .ok (.getfield 350, 3) := by decide +kernel
theorem dX12_skips_19 : decode cX12_skips 19 = .ok (.baload, 1) := by decide +kernel
theorem dX12_skips_20 : decode cX12_skips 20 = .ok (.bipush 32, 2) := by decide +kernel
theorem dX12_skips_22 : decode cX12_skips 22 = .ok (.if_icmp .eq 17, 3) := by decide +kernel
theorem dX12_skips_25 : decode cX12_skips 25 = .ok (.aload_n 0, 1) := by decide +kernel
theorem dX12_skips_26 : decode cX12_skips 26 = .ok (.getfield 119, 3) := by decide +kernel
theorem dX12_skips_29 : decode cX12_skips 29 = .ok (.aload_n 0, 1) := by decide +kernel
theorem dX12_skips_30 : decode cX12_skips 30 = .ok (.getfield 350, 3) := by decide +kernel
theorem dX12_skips_33 : decode cX12_skips 33 = .ok (.baload, 1) := by decide +kernel
theorem dX12_skips_34 : decode cX12_skips 34 = .ok (.bipush 10, 2) := by decide +kernel
theorem dX12_skips_36 : decode cX12_skips 36 = .ok (.if_icmp .ne 16, 3) := by decide +kernel
theorem dX12_skips_39 : decode cX12_skips 39 = .ok (.aload_n 0, 1) := by decide +kernel
theorem dX12_skips_40 : decode cX12_skips 40 = .ok (.dup, 1) := by decide +kernel
theorem dX12_skips_41 : decode cX12_skips 41 = .ok (.getfield 350, 3) := by decide +kernel
theorem dX12_skips_44 : decode cX12_skips 44 = .ok (.iconst 1, 1) := by decide +kernel
theorem dX12_skips_45 : decode cX12_skips 45 = .ok (.iadd, 1) := by decide +kernel
theorem dX12_skips_46 : decode cX12_skips 46 = .ok (.putfield 350, 3) := by decide +kernel
theorem dX12_skips_49 : decode cX12_skips 49 = .ok (.goto (-49), 3) := by decide +kernel
theorem dX12_skips_52 : decode cX12_skips 52 = .ok (.aload_n 0, 1) := by decide +kernel
theorem dX12_skips_53 : decode cX12_skips 53 = .ok (.aload_n 0, 1) := by decide +kernel
theorem dX12_skips_54 : decode cX12_skips 54 = .ok (.getfield 350, 3) := by decide +kernel
theorem dX12_skips_57 : decode cX12_skips 57 = .ok (.putfield 353, 3) := by decide +kernel
theorem dX12_skips_60 : decode cX12_skips 60 = .ok (.aload_n 0, 1) := by decide +kernel
theorem dX12_skips_61 : decode cX12_skips 61 = .ok (.getfield 350, 3) := by decide +kernel
theorem dX12_skips_64 : decode cX12_skips 64 = .ok (.aload_n 0, 1) := by decide +kernel
theorem dX12_skips_65 : decode cX12_skips 65 = .ok (.getfield 343, 3) := by decide +kernel
theorem dX12_skips_68 : decode cX12_skips 68 = .ok (.if_icmp .ne 4, 3) := by decide +kernel
theorem dX12_skips_71 : decode cX12_skips 71 = .ok (.return_, 1) := by decide +kernel
theorem dX12_skips_72 : decode cX12_skips 72 = .ok (.aload_n 0, 1) := by decide +kernel
theorem dX12_skips_73 : decode cX12_skips 73 = .ok (.getfield 119, 3) := by decide +kernel
theorem dX12_skips_76 : decode cX12_skips 76 = .ok (.aload_n 0, 1) := by decide +kernel
theorem dX12_skips_77 : decode cX12_skips 77 = .ok (.getfield 350, 3) := by decide +kernel
theorem dX12_skips_80 : decode cX12_skips 80 = .ok (.baload, 1) := by decide +kernel
theorem dX12_skips_81 : decode cX12_skips 81 = .ok (.invokestatic 356, 3) := by decide +kernel
theorem dX12_skips_84 : decode cX12_skips 84 = .ok (.ifCond .eq 42, 3) := by decide +kernel
theorem dX12_skips_87 : decode cX12_skips 87 = .ok (.aload_n 0, 1) := by decide +kernel
theorem dX12_skips_88 : decode cX12_skips 88 = .ok (.getfield 353, 3) := by decide +kernel
theorem dX12_skips_91 : decode cX12_skips 91 = .ok (.aload_n 0, 1) := by decide +kernel
theorem dX12_skips_92 : decode cX12_skips 92 = .ok (.getfield 343, 3) := by decide +kernel
theorem dX12_skips_95 : decode cX12_skips 95 = .ok (.if_icmp .ge 95, 3) := by decide +kernel
theorem dX12_skips_98 : decode cX12_skips 98 = .ok (.aload_n 0, 1) := by decide +kernel
theorem dX12_skips_99 : decode cX12_skips 99 = .ok (.getfield 119, 3) := by decide +kernel
theorem dX12_skips_102 : decode cX12_skips 102 = .ok (.aload_n 0, 1) := by decide +kernel
theorem dX12_skips_103 : decode cX12_skips 103 = .ok (.getfield 353, 3) := by decide +kernel
theorem dX12_skips_106 : decode cX12_skips 106 = .ok (.baload, 1) := by decide +kernel
theorem dX12_skips_107 : decode cX12_skips 107 = .ok (.invokestatic 356, 3) := by decide +kernel
theorem dX12_skips_110 : decode cX12_skips 110 = .ok (.ifCond .eq 80, 3) := by decide +kernel
theorem dX12_skips_113 : decode cX12_skips 113 = .ok (.aload_n 0, 1) := by decide +kernel
theorem dX12_skips_114 : decode cX12_skips 114 = .ok (.dup, 1) := by decide +kernel
theorem dX12_skips_115 : decode cX12_skips 115 = .ok (.getfield 353, 3) := by decide +kernel
theorem dX12_skips_118 : decode cX12_skips 118 = .ok (.iconst 1, 1) := by decide +kernel
theorem dX12_skips_119 : decode cX12_skips 119 = .ok (.iadd, 1) := by decide +kernel
theorem dX12_skips_120 : decode cX12_skips 120 = .ok (.putfield 353, 3) := by decide +kernel
theorem dX12_skips_123 : decode cX12_skips 123 = .ok (.goto (-36), 3) := by decide +kernel
theorem dX12_skips_126 : decode cX12_skips 126 = .ok (.aload_n 0, 1) := by decide +kernel
theorem dX12_skips_127 : decode cX12_skips 127 = .ok (.getfield 119, 3) := by decide +kernel
theorem dX12_skips_130 : decode cX12_skips 130 = .ok (.aload_n 0, 1) := by decide +kernel
theorem dX12_skips_131 : decode cX12_skips 131 = .ok (.getfield 350, 3) := by decide +kernel
theorem dX12_skips_134 : decode cX12_skips 134 = .ok (.baload, 1) := by decide +kernel
theorem dX12_skips_135 : decode cX12_skips 135 = .ok (.invokestatic 359, 3) := by decide +kernel
theorem dX12_skips_138 : decode cX12_skips 138 = .ok (.ifCond .eq 42, 3) := by decide +kernel
theorem dX12_skips_141 : decode cX12_skips 141 = .ok (.aload_n 0, 1) := by decide +kernel
theorem dX12_skips_142 : decode cX12_skips 142 = .ok (.getfield 353, 3) := by decide +kernel
theorem dX12_skips_145 : decode cX12_skips 145 = .ok (.aload_n 0, 1) := by decide +kernel
theorem dX12_skips_146 : decode cX12_skips 146 = .ok (.getfield 343, 3) := by decide +kernel
theorem dX12_skips_149 : decode cX12_skips 149 = .ok (.if_icmp .ge 41, 3) := by decide +kernel
theorem dX12_skips_152 : decode cX12_skips 152 = .ok (.aload_n 0, 1) := by decide +kernel
theorem dX12_skips_153 : decode cX12_skips 153 = .ok (.getfield 119, 3) := by decide +kernel
theorem dX12_skips_156 : decode cX12_skips 156 = .ok (.aload_n 0, 1) := by decide +kernel
theorem dX12_skips_157 : decode cX12_skips 157 = .ok (.getfield 353, 3) := by decide +kernel
theorem dX12_skips_160 : decode cX12_skips 160 = .ok (.baload, 1) := by decide +kernel
theorem dX12_skips_161 : decode cX12_skips 161 = .ok (.invokestatic 359, 3) := by decide +kernel
theorem dX12_skips_164 : decode cX12_skips 164 = .ok (.ifCond .eq 26, 3) := by decide +kernel
theorem dX12_skips_167 : decode cX12_skips 167 = .ok (.aload_n 0, 1) := by decide +kernel
theorem dX12_skips_168 : decode cX12_skips 168 = .ok (.dup, 1) := by decide +kernel
theorem dX12_skips_169 : decode cX12_skips 169 = .ok (.getfield 353, 3) := by decide +kernel
theorem dX12_skips_172 : decode cX12_skips 172 = .ok (.iconst 1, 1) := by decide +kernel
theorem dX12_skips_173 : decode cX12_skips 173 = .ok (.iadd, 1) := by decide +kernel
theorem dX12_skips_174 : decode cX12_skips 174 = .ok (.putfield 353, 3) := by decide +kernel
theorem dX12_skips_177 : decode cX12_skips 177 = .ok (.goto (-36), 3) := by decide +kernel
theorem dX12_skips_180 : decode cX12_skips 180 = .ok (.aload_n 0, 1) := by decide +kernel
theorem dX12_skips_181 : decode cX12_skips 181 = .ok (.aload_n 0, 1) := by decide +kernel
theorem dX12_skips_182 : decode cX12_skips 182 = .ok (.getfield 350, 3) := by decide +kernel
theorem dX12_skips_185 : decode cX12_skips 185 = .ok (.iconst 1, 1) := by decide +kernel
theorem dX12_skips_186 : decode cX12_skips 186 = .ok (.iadd, 1) := by decide +kernel
theorem dX12_skips_187 : decode cX12_skips 187 = .ok (.putfield 353, 3) := by decide +kernel
theorem dX12_skips_190 : decode cX12_skips 190 = .ok (.return_, 1) := by decide +kernel
theorem dX12_goesOn_0 : decode cX12_goesOn 0 = .ok (.aload_n 0, 1) := by decide +kernel
theorem dX12_goesOn_1 : decode cX12_goesOn 1 = .ok (.aload_n 0, 1) := by decide +kernel
theorem dX12_goesOn_2 : decode cX12_goesOn 2 = .ok (.getfield 353, 3) := by decide +kernel
theorem dX12_goesOn_5 : decode cX12_goesOn 5 = .ok (.putfield 350, 3) := by decide +kernel
theorem dX12_goesOn_8 : decode cX12_goesOn 8 = .ok (.aload_n 0, 1) := by decide +kernel
theorem dX12_goesOn_9 : decode cX12_goesOn 9 = .ok (.invokevirtual 362, 3) := by decide +kernel
theorem dX12_goesOn_12 : decode cX12_goesOn 12 = .ok (.return_, 1) := by decide +kernel
theorem dX12_isWord_0 : decode cX12_isWord 0 = .ok (.aload_n 0, 1) := by decide +kernel
theorem dX12_isWord_1 : decode cX12_isWord 1 = .ok (.getfield 353, 3) := by decide +kernel
theorem dX12_isWord_4 : decode cX12_isWord 4 = .ok (.aload_n 0, 1) := by decide +kernel
theorem dX12_isWord_5 : decode cX12_isWord 5 = .ok (.getfield 350, 3) := by decide +kernel
theorem dX12_isWord_8 : decode cX12_isWord 8 = .ok (.isub, 1) := by decide +kernel
theorem dX12_isWord_9 : decode cX12_isWord 9 = .ok (.aload_n 1, 1) := by decide +kernel
theorem dX12_isWord_10 : decode cX12_isWord 10 = .ok (.invokevirtual 365, 3) := by decide +kernel
theorem dX12_isWord_13 : decode cX12_isWord 13 = .ok (.if_icmp .ne 14, 3) := by decide +kernel
theorem dX12_isWord_16 : decode cX12_isWord 16 = .ok (.aload_n 0, 1) := by decide +kernel
theorem dX12_isWord_17 : decode cX12_isWord 17 = .ok (.getfield 350, 3) := by decide +kernel
theorem dX12_isWord_20 : decode cX12_isWord 20 = .ok (.aload_n 0, 1) := by decide +kernel
theorem dX12_isWord_21 : decode cX12_isWord 21 = .ok (.getfield 343, 3) := by decide +kernel
theorem dX12_isWord_24 : decode cX12_isWord 24 = .ok (.if_icmp .ne 5, 3) := by decide +kernel
theorem dX12_isWord_27 : decode cX12_isWord 27 = .ok (.iconst 0, 1) := by decide +kernel
theorem dX12_isWord_28 : decode cX12_isWord 28 = .ok (.ireturn, 1) := by decide +kernel
theorem dX12_isWord_29 : decode cX12_isWord 29 = .ok (.iconst 0, 1) := by decide +kernel
theorem dX12_isWord_30 : decode cX12_isWord 30 = .ok (.istore_n 2, 1) := by decide +kernel
theorem dX12_isWord_31 : decode cX12_isWord 31 = .ok (.iload_n 2, 1) := by decide +kernel
theorem dX12_isWord_32 : decode cX12_isWord 32 = .ok (.aload_n 1, 1) := by decide +kernel
theorem dX12_isWord_33 : decode cX12_isWord 33 = .ok (.invokevirtual 365, 3) := by decide +kernel
theorem dX12_isWord_36 : decode cX12_isWord 36 = .ok (.if_icmp .ge 30, 3) := by decide +kernel
theorem dX12_isWord_39 : decode cX12_isWord 39 = .ok (.aload_n 0, 1) := by decide +kernel
theorem dX12_isWord_40 : decode cX12_isWord 40 = .ok (.getfield 119, 3) := by decide +kernel
theorem dX12_isWord_43 : decode cX12_isWord 43 = .ok (.aload_n 0, 1) := by decide +kernel
theorem dX12_isWord_44 : decode cX12_isWord 44 = .ok (.getfield 350, 3) := by decide +kernel
theorem dX12_isWord_47 : decode cX12_isWord 47 = .ok (.iload_n 2, 1) := by decide +kernel
theorem dX12_isWord_48 : decode cX12_isWord 48 = .ok (.iadd, 1) := by decide +kernel
theorem dX12_isWord_49 : decode cX12_isWord 49 = .ok (.baload, 1) := by decide +kernel
theorem dX12_isWord_50 : decode cX12_isWord 50 = .ok (.aload_n 1, 1) := by decide +kernel
theorem dX12_isWord_51 : decode cX12_isWord 51 = .ok (.iload_n 2, 1) := by decide +kernel
theorem dX12_isWord_52 : decode cX12_isWord 52 = .ok (.invokevirtual 369, 3) := by decide +kernel
theorem dX12_isWord_55 : decode cX12_isWord 55 = .ok (.if_icmp .eq 5, 3) := by decide +kernel
theorem dX12_isWord_58 : decode cX12_isWord 58 = .ok (.iconst 0, 1) := by decide +kernel
theorem dX12_isWord_59 : decode cX12_isWord 59 = .ok (.ireturn, 1) := by decide +kernel
theorem dX12_isWord_60 : decode cX12_isWord 60 = .ok (.iinc 2 1, 3) := by decide +kernel
theorem dX12_isWord_63 : decode cX12_isWord 63 = .ok (.goto (-32), 3) := by decide +kernel
theorem dX12_isWord_66 : decode cX12_isWord 66 = .ok (.iconst 1, 1) := by decide +kernel
theorem dX12_isWord_67 : decode cX12_isWord 67 = .ok (.ireturn, 1) := by decide +kernel
theorem dX12_isSign_0 : decode cX12_isSign 0 = .ok (.aload_n 0, 1) := by decide +kernel
theorem dX12_isSign_1 : decode cX12_isSign 1 = .ok (.getfield 350, 3) := by decide +kernel
theorem dX12_isSign_4 : decode cX12_isSign 4 = .ok (.aload_n 0, 1) := by decide +kernel
theorem dX12_isSign_5 : decode cX12_isSign 5 = .ok (.getfield 343, 3) := by decide +kernel
theorem dX12_isSign_8 : decode cX12_isSign 8 = .ok (.if_icmp .ge 20, 3) := by decide +kernel
theorem dX12_isSign_11 : decode cX12_isSign 11 = .ok (.aload_n 0, 1) := by decide +kernel
theorem dX12_isSign_12 : decode cX12_isSign 12 = .ok (.getfield 119, 3) := by decide +kernel
theorem dX12_isSign_15 : decode cX12_isSign 15 = .ok (.aload_n 0, 1) := by decide +kernel
theorem dX12_isSign_16 : decode cX12_isSign 16 = .ok (.getfield 350, 3) := by decide +kernel
theorem dX12_isSign_19 : decode cX12_isSign 19 = .ok (.baload, 1) := by decide +kernel
theorem dX12_isSign_20 : decode cX12_isSign 20 = .ok (.iload_n 1, 1) := by decide +kernel
theorem dX12_isSign_21 : decode cX12_isSign 21 = .ok (.if_icmp .ne 7, 3) := by decide +kernel
theorem dX12_isSign_24 : decode cX12_isSign 24 = .ok (.iconst 1, 1) := by decide +kernel
theorem dX12_isSign_25 : decode cX12_isSign 25 = .ok (.goto 4, 3) := by decide +kernel
theorem dX12_isSign_28 : decode cX12_isSign 28 = .ok (.iconst 0, 1) := by decide +kernel
theorem dX12_isSign_29 : decode cX12_isSign 29 = .ok (.ireturn, 1) := by decide +kernel
theorem dX12_fails_0 : decode cX12_fails 0 = .ok (.aload_n 0, 1) := by decide +kernel
theorem dX12_fails_1 : decode cX12_fails 1 = .ok (.getfield 373, 3) := by decide +kernel
theorem dX12_fails_4 : decode cX12_fails 4 = .ok (.iconst (-1), 1) := by decide +kernel
theorem dX12_fails_5 : decode cX12_fails 5 = .ok (.if_icmp .ne 11, 3) := by decide +kernel
theorem dX12_fails_8 : decode cX12_fails 8 = .ok (.aload_n 0, 1) := by decide +kernel
theorem dX12_fails_9 : decode cX12_fails 9 = .ok (.aload_n 0, 1) := by decide +kernel
theorem dX12_fails_10 : decode cX12_fails 10 = .ok (.getfield 350, 3) := by decide +kernel
theorem dX12_fails_13 : decode cX12_fails 13 = .ok (.putfield 373, 3) := by decide +kernel
theorem dX12_fails_16 : decode cX12_fails 16 = .ok (.iconst 0, 1) := by decide +kernel
theorem dX12_fails_17 : decode cX12_fails 17 = .ok (.ireturn, 1) := by decide +kernel
theorem dX12_passes_0 : decode cX12_passes 0 = .ok (.iload_n 1, 1) := by decide +kernel
theorem dX12_passes_1 : decode cX12_passes 1 = .ok (.ifCond .ne 8, 3) := by decide +kernel
theorem dX12_passes_4 : decode cX12_passes 4 = .ok (.aload_n 0, 1) := by decide +kernel
theorem dX12_passes_5 : decode cX12_passes 5 = .ok (.invokevirtual 376, 3) := by decide +kernel
theorem dX12_passes_8 : decode cX12_passes 8 = .ok (.ireturn, 1) := by decide +kernel
theorem dX12_passes_9 : decode cX12_passes 9 = .ok (.aload_n 0, 1) := by decide +kernel
theorem dX12_passes_10 : decode cX12_passes 10 = .ok (.invokevirtual 380, 3) := by decide +kernel
theorem dX12_passes_13 : decode cX12_passes 13 = .ok (.iconst 1, 1) := by decide +kernel
theorem dX12_passes_14 : decode cX12_passes 14 = .ok (.ireturn, 1) := by decide +kernel
theorem dX12_puts_0 : decode cX12_puts 0 = .ok (.aload_n 0, 1) := by decide +kernel
theorem dX12_puts_1 : decode cX12_puts 1 = .ok (.getfield 125, 3) := by decide +kernel
theorem dX12_puts_4 : decode cX12_puts 4 = .ok (.bipush 10, 2) := by decide +kernel
theorem dX12_puts_6 : decode cX12_puts 6 = .ok (.aaload, 1) := by decide +kernel
theorem dX12_puts_7 : decode cX12_puts 7 = .ok (.aload_n 0, 1) := by decide +kernel
theorem dX12_puts_8 : decode cX12_puts 8 = .ok (.getfield 383, 3) := by decide +kernel
theorem dX12_puts_11 : decode cX12_puts 11 = .ok (.aaload, 1) := by decide +kernel
theorem dX12_puts_12 : decode cX12_puts 12 = .ok (.iconst 2, 1) := by decide +kernel
theorem dX12_puts_13 : decode cX12_puts 13 = .ok (.aload_n 0, 1) := by decide +kernel
theorem dX12_puts_14 : decode cX12_puts 14 = .ok (.getfield 386, 3) := by decide +kernel
theorem dX12_puts_17 : decode cX12_puts 17 = .ok (.imul, 1) := by decide +kernel
theorem dX12_puts_18 : decode cX12_puts 18 = .ok (.iload_n 1, 1) := by decide +kernel
theorem dX12_puts_19 : decode cX12_puts 19 = .ok (.iastore, 1) := by decide +kernel
theorem dX12_puts_20 : decode cX12_puts 20 = .ok (.aload_n 0, 1) := by decide +kernel
theorem dX12_puts_21 : decode cX12_puts 21 = .ok (.getfield 125, 3) := by decide +kernel
theorem dX12_puts_24 : decode cX12_puts 24 = .ok (.bipush 10, 2) := by decide +kernel
theorem dX12_puts_26 : decode cX12_puts 26 = .ok (.aaload, 1) := by decide +kernel
theorem dX12_puts_27 : decode cX12_puts 27 = .ok (.aload_n 0, 1) := by decide +kernel
theorem dX12_puts_28 : decode cX12_puts 28 = .ok (.getfield 383, 3) := by decide +kernel
theorem dX12_puts_31 : decode cX12_puts 31 = .ok (.aaload, 1) := by decide +kernel
theorem dX12_puts_32 : decode cX12_puts 32 = .ok (.iconst 2, 1) := by decide +kernel
theorem dX12_puts_33 : decode cX12_puts 33 = .ok (.aload_n 0, 1) := by decide +kernel
theorem dX12_puts_34 : decode cX12_puts 34 = .ok (.getfield 386, 3) := by decide +kernel
theorem dX12_puts_37 : decode cX12_puts 37 = .ok (.imul, 1) := by decide +kernel
theorem dX12_puts_38 : decode cX12_puts 38 = .ok (.iconst 1, 1) := by decide +kernel
theorem dX12_puts_39 : decode cX12_puts 39 = .ok (.iadd, 1) := by decide +kernel
theorem dX12_puts_40 : decode cX12_puts 40 = .ok (.iload_n 2, 1) := by decide +kernel
theorem dX12_puts_41 : decode cX12_puts 41 = .ok (.iastore, 1) := by decide +kernel
theorem dX12_puts_42 : decode cX12_puts 42 = .ok (.aload_n 0, 1) := by decide +kernel
theorem dX12_puts_43 : decode cX12_puts 43 = .ok (.dup, 1) := by decide +kernel
theorem dX12_puts_44 : decode cX12_puts 44 = .ok (.getfield 386, 3) := by decide +kernel
theorem dX12_puts_47 : decode cX12_puts 47 = .ok (.iconst 1, 1) := by decide +kernel
theorem dX12_puts_48 : decode cX12_puts 48 = .ok (.iadd, 1) := by decide +kernel
theorem dX12_puts_49 : decode cX12_puts 49 = .ok (.putfield 386, 3) := by decide +kernel
theorem dX12_puts_52 : decode cX12_puts 52 = .ok (.iconst 1, 1) := by decide +kernel
theorem dX12_puts_53 : decode cX12_puts 53 = .ok (.ireturn, 1) := by decide +kernel
theorem dX12_isNumber_0 : decode cX12_isNumber 0 = .ok (.aload_n 0, 1) := by decide +kernel
theorem dX12_isNumber_1 : decode cX12_isNumber 1 = .ok (.getfield 350, 3) := by decide +kernel
theorem dX12_isNumber_4 : decode cX12_isNumber 4 = .ok (.aload_n 0, 1) := by decide +kernel
theorem dX12_isNumber_5 : decode cX12_isNumber 5 = .ok (.getfield 343, 3) := by decide +kernel
theorem dX12_isNumber_8 : decode cX12_isNumber 8 = .ok (.if_icmp .eq 18, 3) := by decide +kernel
theorem dX12_isNumber_11 : decode cX12_isNumber 11 = .ok (.aload_n 0, 1) := by decide +kernel
theorem dX12_isNumber_12 : decode cX12_isNumber 12 = .ok (.getfield 119, 3) := by decide +kernel
theorem dX12_isNumber_15 : decode cX12_isNumber 15 = .ok (.aload_n 0, 1) := by decide +kernel
theorem dX12_isNumber_16 : decode cX12_isNumber 16 = .ok (.getfield 350, 3) := by decide +kernel
theorem dX12_isNumber_19 : decode cX12_isNumber 19 = .ok (.baload, 1) := by decide +kernel
theorem dX12_isNumber_20 : decode cX12_isNumber 20 = .ok (.invokestatic 359, 3) := by decide +kernel
theorem dX12_isNumber_23 : decode cX12_isNumber 23 = .ok (.ifCond .ne 5, 3) := by decide +kernel
theorem dX12_isNumber_26 : decode cX12_isNumber 26 = .ok (.iconst 0, 1) := by decide +kernel
theorem dX12_isNumber_27 : decode cX12_isNumber 27 = .ok (.ireturn, 1) := by decide +kernel
theorem dX12_isNumber_28 : decode cX12_isNumber 28 = .ok (.aload_n 0, 1) := by decide +kernel
theorem dX12_isNumber_29 : decode cX12_isNumber 29 = .ok (.iconst 0, 1) := by decide +kernel
theorem dX12_isNumber_30 : decode cX12_isNumber 30 = .ok (.putfield 389, 3) := by decide +kernel
theorem dX12_isNumber_33 : decode cX12_isNumber 33 = .ok (.aload_n 0, 1) := by decide +kernel
theorem dX12_isNumber_34 : decode cX12_isNumber 34 = .ok (.getfield 350, 3) := by decide +kernel
theorem dX12_isNumber_37 : decode cX12_isNumber 37 = .ok (.istore_n 1, 1) := by decide +kernel
theorem dX12_isNumber_38 : decode cX12_isNumber 38 = .ok (.iload_n 1, 1) := by decide +kernel
theorem dX12_isNumber_39 : decode cX12_isNumber 39 = .ok (.aload_n 0, 1) := by decide +kernel
theorem dX12_isNumber_40 : decode cX12_isNumber 40 = .ok (.getfield 353, 3) := by decide +kernel
theorem dX12_isNumber_43 : decode cX12_isNumber 43 = .ok (.if_icmp .ge 46, 3) := by decide +kernel
theorem dX12_isNumber_46 : decode cX12_isNumber 46 = .ok (.aload_n 0, 1) := by decide +kernel
theorem dX12_isNumber_47 : decode cX12_isNumber 47 = .ok (.aload_n 0, 1) := by decide +kernel
theorem dX12_isNumber_48 : decode cX12_isNumber 48 = .ok (.getfield 389, 3) := by decide +kernel
theorem dX12_isNumber_51 : decode cX12_isNumber 51 = .ok (.ldc_w 392, 3) := by decide +kernel
theorem dX12_isNumber_54 : decode cX12_isNumber 54 = .ok (.if_icmp .le 9, 3) := by decide +kernel
theorem dX12_isNumber_57 : decode cX12_isNumber 57 = .ok (.ldc_w 393, 3) := by decide +kernel
theorem dX12_isNumber_60 : decode cX12_isNumber 60 = .ok (.goto 20, 3) := by decide +kernel
theorem dX12_isNumber_63 : decode cX12_isNumber 63 = .ok (.bipush 10, 2) := by decide +kernel
theorem dX12_isNumber_65 : decode cX12_isNumber 65 = .ok (.aload_n 0, 1) := by decide +kernel
theorem dX12_isNumber_66 : decode cX12_isNumber 66 = .ok (.getfield 389, 3) := by decide +kernel
theorem dX12_isNumber_69 : decode cX12_isNumber 69 = .ok (.imul, 1) := by decide +kernel
theorem dX12_isNumber_70 : decode cX12_isNumber 70 = .ok (.aload_n 0, 1) := by decide +kernel
theorem dX12_isNumber_71 : decode cX12_isNumber 71 = .ok (.getfield 119, 3) := by decide +kernel
theorem dX12_isNumber_74 : decode cX12_isNumber 74 = .ok (.iload_n 1, 1) := by decide +kernel
theorem dX12_isNumber_75 : decode cX12_isNumber 75 = .ok (.baload, 1) := by decide +kernel
theorem dX12_isNumber_76 : decode cX12_isNumber 76 = .ok (.iadd, 1) := by decide +kernel
theorem dX12_isNumber_77 : decode cX12_isNumber 77 = .ok (.bipush 48, 2) := by decide +kernel
theorem dX12_isNumber_79 : decode cX12_isNumber 79 = .ok (.isub, 1) := by decide +kernel
theorem dX12_isNumber_80 : decode cX12_isNumber 80 = .ok (.putfield 389, 3) := by decide +kernel
theorem dX12_isNumber_83 : decode cX12_isNumber 83 = .ok (.iinc 1 1, 3) := by decide +kernel
theorem dX12_isNumber_86 : decode cX12_isNumber 86 = .ok (.goto (-48), 3) := by decide +kernel
theorem dX12_isNumber_89 : decode cX12_isNumber 89 = .ok (.iconst 1, 1) := by decide +kernel
theorem dX12_isNumber_90 : decode cX12_isNumber 90 = .ok (.ireturn, 1) := by decide +kernel
theorem dX12_factor_0 : decode cX12_factor 0 = .ok (.aload_n 0, 1) := by decide +kernel
theorem dX12_factor_1 : decode cX12_factor 1 = .ok (.bipush 40, 2) := by decide +kernel
theorem dX12_factor_3 : decode cX12_factor 3 = .ok (.invokevirtual 394, 3) := by decide +kernel
theorem dX12_factor_6 : decode cX12_factor 6 = .ok (.ifCond .eq 50, 3) := by decide +kernel
theorem dX12_factor_9 : decode cX12_factor 9 = .ok (.aload_n 0, 1) := by decide +kernel
theorem dX12_factor_10 : decode cX12_factor 10 = .ok (.iload_n 1, 1) := by decide +kernel
theorem dX12_factor_11 : decode cX12_factor 11 = .ok (.bipush 8, 2) := by decide +kernel
theorem dX12_factor_13 : decode cX12_factor 13 = .ok (.if_icmp .ge 7, 3) := by decide +kernel
theorem dX12_factor_16 : decode cX12_factor 16 = .ok (.iconst 1, 1) := by decide +kernel
theorem dX12_factor_17 : decode cX12_factor 17 = .ok (.goto 4, 3) := by decide +kernel
theorem dX12_factor_20 : decode cX12_factor 20 = .ok (.iconst 0, 1) := by decide +kernel
theorem dX12_factor_21 : decode cX12_factor 21 = .ok (.invokevirtual 397, 3) := by decide +kernel
theorem dX12_factor_24 : decode cX12_factor 24 = .ok (.ifCond .eq 30, 3) := by decide +kernel
theorem dX12_factor_27 : decode cX12_factor 27 = .ok (.aload_n 0, 1) := by decide +kernel
theorem dX12_factor_28 : decode cX12_factor 28 = .ok (.iload_n 1, 1) := by decide +kernel
theorem dX12_factor_29 : decode cX12_factor 29 = .ok (.iconst 1, 1) := by decide +kernel
theorem dX12_factor_30 : decode cX12_factor 30 = .ok (.iadd, 1) := by decide +kernel
theorem dX12_factor_31 : decode cX12_factor 31 = .ok (.invokevirtual 401, 3) := by decide +kernel
theorem dX12_factor_34 : decode cX12_factor 34 = .ok (.ifCond .eq 20, 3) := by decide +kernel
theorem dX12_factor_37 : decode cX12_factor 37 = .ok (.aload_n 0, 1) := by decide +kernel
theorem dX12_factor_38 : decode cX12_factor 38 = .ok (.aload_n 0, 1) := by decide +kernel
theorem dX12_factor_39 : decode cX12_factor 39 = .ok (.bipush 41, 2) := by decide +kernel
theorem dX12_factor_41 : decode cX12_factor 41 = .ok (.invokevirtual 394, 3) := by decide +kernel
theorem dX12_factor_44 : decode cX12_factor 44 = .ok (.invokevirtual 397, 3) := by decide +kernel
theorem dX12_factor_47 : decode cX12_factor 47 = .ok (.ifCond .eq 7, 3) := by decide +kernel
theorem dX12_factor_50 : decode cX12_factor 50 = .ok (.iconst 1, 1) := by decide +kernel
theorem dX12_factor_51 : decode cX12_factor 51 = .ok (.goto 4, 3) := by decide +kernel
theorem dX12_factor_54 : decode cX12_factor 54 = .ok (.iconst 0, 1) := by decide +kernel
theorem dX12_factor_55 : decode cX12_factor 55 = .ok (.ireturn, 1) := by decide +kernel
theorem dX12_factor_56 : decode cX12_factor 56 = .ok (.aload_n 0, 1) := by decide +kernel
theorem dX12_factor_57 : decode cX12_factor 57 = .ok (.invokevirtual 403, 3) := by decide +kernel
theorem dX12_factor_60 : decode cX12_factor 60 = .ok (.ifCond .eq 43, 3) := by decide +kernel
theorem dX12_factor_63 : decode cX12_factor 63 = .ok (.aload_n 0, 1) := by decide +kernel
theorem dX12_factor_64 : decode cX12_factor 64 = .ok (.getfield 389, 3) := by decide +kernel
theorem dX12_factor_67 : decode cX12_factor 67 = .ok (.istore_n 2, 1) := by decide +kernel
theorem dX12_factor_68 : decode cX12_factor 68 = .ok (.aload_n 0, 1) := by decide +kernel
theorem dX12_factor_69 : decode cX12_factor 69 = .ok (.iload_n 2, 1) := by decide +kernel
theorem dX12_factor_70 : decode cX12_factor 70 = .ok (.ldc_w 392, 3) := by decide +kernel
theorem dX12_factor_73 : decode cX12_factor 73 = .ok (.if_icmp .gt 7, 3) := by decide +kernel
theorem dX12_factor_76 : decode cX12_factor 76 = .ok (.iconst 1, 1) := by decide +kernel
theorem dX12_factor_77 : decode cX12_factor 77 = .ok (.goto 4, 3) := by decide +kernel
theorem dX12_factor_80 : decode cX12_factor 80 = .ok (.iconst 0, 1) := by decide +kernel
theorem dX12_factor_81 : decode cX12_factor 81 = .ok (.invokevirtual 397, 3) := by decide +kernel
theorem dX12_factor_84 : decode cX12_factor 84 = .ok (.ifCond .eq 17, 3) := by decide +kernel
theorem dX12_factor_87 : decode cX12_factor 87 = .ok (.aload_n 0, 1) := by decide +kernel
theorem dX12_factor_88 : decode cX12_factor 88 = .ok (.bipush 110, 2) := by decide +kernel
theorem dX12_factor_90 : decode cX12_factor 90 = .ok (.iload_n 2, 1) := by decide +kernel
theorem dX12_factor_91 : decode cX12_factor 91 = .ok (.invokevirtual 406, 3) := by decide +kernel
theorem dX12_factor_94 : decode cX12_factor 94 = .ok (.ifCond .eq 7, 3) := by decide +kernel
theorem dX12_factor_97 : decode cX12_factor 97 = .ok (.iconst 1, 1) := by decide +kernel
theorem dX12_factor_98 : decode cX12_factor 98 = .ok (.goto 4, 3) := by decide +kernel
theorem dX12_factor_101 : decode cX12_factor 101 = .ok (.iconst 0, 1) := by decide +kernel
theorem dX12_factor_102 : decode cX12_factor 102 = .ok (.ireturn, 1) := by decide +kernel
theorem dX12_factor_103 : decode cX12_factor 103 = .ok (.iconst 0, 1) := by decide +kernel
theorem dX12_factor_104 : decode cX12_factor 104 = .ok (.istore_n 2, 1) := by decide +kernel
theorem dX12_factor_105 : decode cX12_factor 105 = .ok (.iload_n 2, 1) := by decide +kernel
theorem dX12_factor_106 : decode cX12_factor 106 = .ok (.bipush 18, 2) := by decide +kernel
theorem dX12_factor_108 : decode cX12_factor 108 = .ok (.if_icmp .ge 46, 3) := by decide +kernel
theorem dX12_factor_111 : decode cX12_factor 111 = .ok (.aload_n 0, 1) := by decide +kernel
theorem dX12_factor_112 : decode cX12_factor 112 = .ok (.aload_n 0, 1) := by decide +kernel
theorem dX12_factor_113 : decode cX12_factor 113 = .ok (.getfield 181, 3) := by decide +kernel
theorem dX12_factor_116 : decode cX12_factor 116 = .ok (.iload_n 2, 1) := by decide +kernel
theorem dX12_factor_117 : decode cX12_factor 117 = .ok (.aaload, 1) := by decide +kernel
theorem dX12_factor_118 : decode cX12_factor 118 = .ok (.invokevirtual 409, 3) := by decide +kernel
theorem dX12_factor_121 : decode cX12_factor 121 = .ok (.ifCond .eq 27, 3) := by decide +kernel
theorem dX12_factor_124 : decode cX12_factor 124 = .ok (.aload_n 0, 1) := by decide +kernel
theorem dX12_factor_125 : decode cX12_factor 125 = .ok (.iconst 1, 1) := by decide +kernel
theorem dX12_factor_126 : decode cX12_factor 126 = .ok (.invokevirtual 397, 3) := by decide +kernel
theorem dX12_factor_129 : decode cX12_factor 129 = .ok (.ifCond .eq 17, 3) := by decide +kernel
theorem dX12_factor_132 : decode cX12_factor 132 = .ok (.aload_n 0, 1) := by decide +kernel
theorem dX12_factor_133 : decode cX12_factor 133 = .ok (.bipush 118, 2) := by decide +kernel
theorem dX12_factor_135 : decode cX12_factor 135 = .ok (.iload_n 2, 1) := by decide +kernel
theorem dX12_factor_136 : decode cX12_factor 136 = .ok (.invokevirtual 406, 3) := by decide +kernel
theorem dX12_factor_139 : decode cX12_factor 139 = .ok (.ifCond .eq 7, 3) := by decide +kernel
theorem dX12_factor_142 : decode cX12_factor 142 = .ok (.iconst 1, 1) := by decide +kernel
theorem dX12_factor_143 : decode cX12_factor 143 = .ok (.goto 4, 3) := by decide +kernel
theorem dX12_factor_146 : decode cX12_factor 146 = .ok (.iconst 0, 1) := by decide +kernel
theorem dX12_factor_147 : decode cX12_factor 147 = .ok (.ireturn, 1) := by decide +kernel
theorem dX12_factor_148 : decode cX12_factor 148 = .ok (.iinc 2 1, 3) := by decide +kernel
theorem dX12_factor_151 : decode cX12_factor 151 = .ok (.goto (-46), 3) := by decide +kernel
theorem dX12_factor_154 : decode cX12_factor 154 = .ok (.aload_n 0, 1) := by decide +kernel
theorem dX12_factor_155 : decode cX12_factor 155 = .ok (.invokevirtual 376, 3) := by decide +kernel
theorem dX12_factor_158 : decode cX12_factor 158 = .ok (.ireturn, 1) := by decide +kernel
theorem dX12_product_0 : decode cX12_product 0 = .ok (.aload_n 0, 1) := by decide +kernel
theorem dX12_product_1 : decode cX12_product 1 = .ok (.iload_n 1, 1) := by decide +kernel
theorem dX12_product_2 : decode cX12_product 2 = .ok (.invokevirtual 413, 3) := by decide +kernel
theorem dX12_product_5 : decode cX12_product 5 = .ok (.ifCond .ne 5, 3) := by decide +kernel
theorem dX12_product_8 : decode cX12_product 8 = .ok (.iconst 0, 1) := by decide +kernel
theorem dX12_product_9 : decode cX12_product 9 = .ok (.ireturn, 1) := by decide +kernel
theorem dX12_product_10 : decode cX12_product 10 = .ok (.aload_n 0, 1) := by decide +kernel
theorem dX12_product_11 : decode cX12_product 11 = .ok (.bipush 42, 2) := by decide +kernel
theorem dX12_product_13 : decode cX12_product 13 = .ok (.invokevirtual 394, 3) := by decide +kernel
theorem dX12_product_16 : decode cX12_product 16 = .ok (.ifCond .ne 12, 3) := by decide +kernel
theorem dX12_product_19 : decode cX12_product 19 = .ok (.aload_n 0, 1) := by decide +kernel
theorem dX12_product_20 : decode cX12_product 20 = .ok (.bipush 47, 2) := by decide +kernel
theorem dX12_product_22 : decode cX12_product 22 = .ok (.invokevirtual 394, 3) := by decide +kernel
theorem dX12_product_25 : decode cX12_product 25 = .ok (.ifCond .eq 37, 3) := by decide +kernel
theorem dX12_product_28 : decode cX12_product 28 = .ok (.aload_n 0, 1) := by decide +kernel
theorem dX12_product_29 : decode cX12_product 29 = .ok (.getfield 119, 3) := by decide +kernel
theorem dX12_product_32 : decode cX12_product 32 = .ok (.aload_n 0, 1) := by decide +kernel
theorem dX12_product_33 : decode cX12_product 33 = .ok (.getfield 350, 3) := by decide +kernel
theorem dX12_product_36 : decode cX12_product 36 = .ok (.baload, 1) := by decide +kernel
theorem dX12_product_37 : decode cX12_product 37 = .ok (.istore_n 2, 1) := by decide +kernel
theorem dX12_product_38 : decode cX12_product 38 = .ok (.aload_n 0, 1) := by decide +kernel
theorem dX12_product_39 : decode cX12_product 39 = .ok (.invokevirtual 380, 3) := by decide +kernel
theorem dX12_product_42 : decode cX12_product 42 = .ok (.aload_n 0, 1) := by decide +kernel
theorem dX12_product_43 : decode cX12_product 43 = .ok (.iload_n 1, 1) := by decide +kernel
theorem dX12_product_44 : decode cX12_product 44 = .ok (.invokevirtual 413, 3) := by decide +kernel
theorem dX12_product_47 : decode cX12_product 47 = .ok (.ifCond .ne 5, 3) := by decide +kernel
theorem dX12_product_50 : decode cX12_product 50 = .ok (.iconst 0, 1) := by decide +kernel
theorem dX12_product_51 : decode cX12_product 51 = .ok (.ireturn, 1) := by decide +kernel
theorem dX12_product_52 : decode cX12_product 52 = .ok (.aload_n 0, 1) := by decide +kernel
theorem dX12_product_53 : decode cX12_product 53 = .ok (.iload_n 2, 1) := by decide +kernel
theorem dX12_product_54 : decode cX12_product 54 = .ok (.iconst 0, 1) := by decide +kernel
theorem dX12_product_55 : decode cX12_product 55 = .ok (.invokevirtual 406, 3) := by decide +kernel
theorem dX12_product_58 : decode cX12_product 58 = .ok (.pop, 1) := by decide +kernel
theorem dX12_product_59 : decode cX12_product 59 = .ok (.goto (-49), 3) := by decide +kernel
theorem dX12_product_62 : decode cX12_product 62 = .ok (.iconst 1, 1) := by decide +kernel
theorem dX12_product_63 : decode cX12_product 63 = .ok (.ireturn, 1) := by decide +kernel
theorem dX12_sum_0 : decode cX12_sum 0 = .ok (.aload_n 0, 1) := by decide +kernel
theorem dX12_sum_1 : decode cX12_sum 1 = .ok (.iload_n 1, 1) := by decide +kernel
theorem dX12_sum_2 : decode cX12_sum 2 = .ok (.invokevirtual 416, 3) := by decide +kernel
theorem dX12_sum_5 : decode cX12_sum 5 = .ok (.ifCond .ne 5, 3) := by decide +kernel
theorem dX12_sum_8 : decode cX12_sum 8 = .ok (.iconst 0, 1) := by decide +kernel
theorem dX12_sum_9 : decode cX12_sum 9 = .ok (.ireturn, 1) := by decide +kernel
theorem dX12_sum_10 : decode cX12_sum 10 = .ok (.aload_n 0, 1) := by decide +kernel
theorem dX12_sum_11 : decode cX12_sum 11 = .ok (.bipush 43, 2) := by decide +kernel
theorem dX12_sum_13 : decode cX12_sum 13 = .ok (.invokevirtual 394, 3) := by decide +kernel
theorem dX12_sum_16 : decode cX12_sum 16 = .ok (.ifCond .ne 12, 3) := by decide +kernel
theorem dX12_sum_19 : decode cX12_sum 19 = .ok (.aload_n 0, 1) := by decide +kernel
theorem dX12_sum_20 : decode cX12_sum 20 = .ok (.bipush 45, 2) := by decide +kernel
theorem dX12_sum_22 : decode cX12_sum 22 = .ok (.invokevirtual 394, 3) := by decide +kernel
theorem dX12_sum_25 : decode cX12_sum 25 = .ok (.ifCond .eq 37, 3) := by decide +kernel
theorem dX12_sum_28 : decode cX12_sum 28 = .ok (.aload_n 0, 1) := by decide +kernel
theorem dX12_sum_29 : decode cX12_sum 29 = .ok (.getfield 119, 3) := by decide +kernel
theorem dX12_sum_32 : decode cX12_sum 32 = .ok (.aload_n 0, 1) := by decide +kernel
theorem dX12_sum_33 : decode cX12_sum 33 = .ok (.getfield 350, 3) := by decide +kernel
theorem dX12_sum_36 : decode cX12_sum 36 = .ok (.baload, 1) := by decide +kernel
theorem dX12_sum_37 : decode cX12_sum 37 = .ok (.istore_n 2, 1) := by decide +kernel
theorem dX12_sum_38 : decode cX12_sum 38 = .ok (.aload_n 0, 1) := by decide +kernel
theorem dX12_sum_39 : decode cX12_sum 39 = .ok (.invokevirtual 380, 3) := by decide +kernel
theorem dX12_sum_42 : decode cX12_sum 42 = .ok (.aload_n 0, 1) := by decide +kernel
theorem dX12_sum_43 : decode cX12_sum 43 = .ok (.iload_n 1, 1) := by decide +kernel
theorem dX12_sum_44 : decode cX12_sum 44 = .ok (.invokevirtual 416, 3) := by decide +kernel
theorem dX12_sum_47 : decode cX12_sum 47 = .ok (.ifCond .ne 5, 3) := by decide +kernel
theorem dX12_sum_50 : decode cX12_sum 50 = .ok (.iconst 0, 1) := by decide +kernel
theorem dX12_sum_51 : decode cX12_sum 51 = .ok (.ireturn, 1) := by decide +kernel
theorem dX12_sum_52 : decode cX12_sum 52 = .ok (.aload_n 0, 1) := by decide +kernel
theorem dX12_sum_53 : decode cX12_sum 53 = .ok (.iload_n 2, 1) := by decide +kernel
theorem dX12_sum_54 : decode cX12_sum 54 = .ok (.iconst 0, 1) := by decide +kernel
theorem dX12_sum_55 : decode cX12_sum 55 = .ok (.invokevirtual 406, 3) := by decide +kernel
theorem dX12_sum_58 : decode cX12_sum 58 = .ok (.pop, 1) := by decide +kernel
theorem dX12_sum_59 : decode cX12_sum 59 = .ok (.goto (-49), 3) := by decide +kernel
theorem dX12_sum_62 : decode cX12_sum 62 = .ok (.iconst 1, 1) := by decide +kernel
theorem dX12_sum_63 : decode cX12_sum 63 = .ok (.ireturn, 1) := by decide +kernel
theorem dX12_test_0 : decode cX12_test 0 = .ok (.aload_n 0, 1) := by decide +kernel
theorem dX12_test_1 : decode cX12_test 1 = .ok (.ldc_w 419, 3) := by decide +kernel
theorem dX12_test_4 : decode cX12_test 4 = .ok (.invokevirtual 409, 3) := by decide +kernel
theorem dX12_test_7 : decode cX12_test 7 = .ok (.ifCond .eq 47, 3) := by decide +kernel
theorem dX12_test_10 : decode cX12_test 10 = .ok (.aload_n 0, 1) := by decide +kernel
theorem dX12_test_11 : decode cX12_test 11 = .ok (.iload_n 1, 1) := by decide +kernel
theorem dX12_test_12 : decode cX12_test 12 = .ok (.bipush 8, 2) := by decide +kernel
theorem dX12_test_14 : decode cX12_test 14 = .ok (.if_icmp .ge 7, 3) := by decide +kernel
theorem dX12_test_17 : decode cX12_test 17 = .ok (.iconst 1, 1) := by decide +kernel
theorem dX12_test_18 : decode cX12_test 18 = .ok (.goto 4, 3) := by decide +kernel
theorem dX12_test_21 : decode cX12_test 21 = .ok (.iconst 0, 1) := by decide +kernel
theorem dX12_test_22 : decode cX12_test 22 = .ok (.invokevirtual 397, 3) := by decide +kernel
theorem dX12_test_25 : decode cX12_test 25 = .ok (.ifCond .eq 27, 3) := by decide +kernel
theorem dX12_test_28 : decode cX12_test 28 = .ok (.aload_n 0, 1) := by decide +kernel
theorem dX12_test_29 : decode cX12_test 29 = .ok (.iload_n 1, 1) := by decide +kernel
theorem dX12_test_30 : decode cX12_test 30 = .ok (.iconst 1, 1) := by decide +kernel
theorem dX12_test_31 : decode cX12_test 31 = .ok (.iadd, 1) := by decide +kernel
theorem dX12_test_32 : decode cX12_test 32 = .ok (.invokevirtual 421, 3) := by decide +kernel
theorem dX12_test_35 : decode cX12_test 35 = .ok (.ifCond .eq 17, 3) := by decide +kernel
theorem dX12_test_38 : decode cX12_test 38 = .ok (.aload_n 0, 1) := by decide +kernel
theorem dX12_test_39 : decode cX12_test 39 = .ok (.bipush 33, 2) := by decide +kernel
theorem dX12_test_41 : decode cX12_test 41 = .ok (.iconst 0, 1) := by decide +kernel
theorem dX12_test_42 : decode cX12_test 42 = .ok (.invokevirtual 406, 3) := by decide +kernel
theorem dX12_test_45 : decode cX12_test 45 = .ok (.ifCond .eq 7, 3) := by decide +kernel
theorem dX12_test_48 : decode cX12_test 48 = .ok (.iconst 1, 1) := by decide +kernel
theorem dX12_test_49 : decode cX12_test 49 = .ok (.goto 4, 3) := by decide +kernel
theorem dX12_test_52 : decode cX12_test 52 = .ok (.iconst 0, 1) := by decide +kernel
theorem dX12_test_53 : decode cX12_test 53 = .ok (.ireturn, 1) := by decide +kernel
theorem dX12_test_54 : decode cX12_test 54 = .ok (.aload_n 0, 1) := by decide +kernel
theorem dX12_test_55 : decode cX12_test 55 = .ok (.bipush 91, 2) := by decide +kernel
theorem dX12_test_57 : decode cX12_test 57 = .ok (.invokevirtual 394, 3) := by decide +kernel
theorem dX12_test_60 : decode cX12_test 60 = .ok (.ifCond .eq 50, 3) := by decide +kernel
theorem dX12_test_63 : decode cX12_test 63 = .ok (.aload_n 0, 1) := by decide +kernel
theorem dX12_test_64 : decode cX12_test 64 = .ok (.iload_n 1, 1) := by decide +kernel
theorem dX12_test_65 : decode cX12_test 65 = .ok (.bipush 8, 2) := by decide +kernel
theorem dX12_test_67 : decode cX12_test 67 = .ok (.if_icmp .ge 7, 3) := by decide +kernel
theorem dX12_test_70 : decode cX12_test 70 = .ok (.iconst 1, 1) := by decide +kernel
theorem dX12_test_71 : decode cX12_test 71 = .ok (.goto 4, 3) := by decide +kernel
theorem dX12_test_74 : decode cX12_test 74 = .ok (.iconst 0, 1) := by decide +kernel
theorem dX12_test_75 : decode cX12_test 75 = .ok (.invokevirtual 397, 3) := by decide +kernel
theorem dX12_test_78 : decode cX12_test 78 = .ok (.ifCond .eq 30, 3) := by decide +kernel
theorem dX12_test_81 : decode cX12_test 81 = .ok (.aload_n 0, 1) := by decide +kernel
theorem dX12_test_82 : decode cX12_test 82 = .ok (.iload_n 1, 1) := by decide +kernel
theorem dX12_test_83 : decode cX12_test 83 = .ok (.iconst 1, 1) := by decide +kernel
theorem dX12_test_84 : decode cX12_test 84 = .ok (.iadd, 1) := by decide +kernel
theorem dX12_test_85 : decode cX12_test 85 = .ok (.invokevirtual 424, 3) := by decide +kernel
theorem dX12_test_88 : decode cX12_test 88 = .ok (.ifCond .eq 20, 3) := by decide +kernel
theorem dX12_test_91 : decode cX12_test 91 = .ok (.aload_n 0, 1) := by decide +kernel
theorem dX12_test_92 : decode cX12_test 92 = .ok (.aload_n 0, 1) := by decide +kernel
theorem dX12_test_93 : decode cX12_test 93 = .ok (.bipush 93, 2) := by decide +kernel
theorem dX12_test_95 : decode cX12_test 95 = .ok (.invokevirtual 394, 3) := by decide +kernel
theorem dX12_test_98 : decode cX12_test 98 = .ok (.invokevirtual 397, 3) := by decide +kernel
theorem dX12_test_101 : decode cX12_test 101 = .ok (.ifCond .eq 7, 3) := by decide +kernel
theorem dX12_test_104 : decode cX12_test 104 = .ok (.iconst 1, 1) := by decide +kernel
theorem dX12_test_105 : decode cX12_test 105 = .ok (.goto 4, 3) := by decide +kernel
theorem dX12_test_108 : decode cX12_test 108 = .ok (.iconst 0, 1) := by decide +kernel
theorem dX12_test_109 : decode cX12_test 109 = .ok (.ireturn, 1) := by decide +kernel
theorem dX12_test_110 : decode cX12_test 110 = .ok (.aload_n 0, 1) := by decide +kernel
theorem dX12_test_111 : decode cX12_test 111 = .ok (.iload_n 1, 1) := by decide +kernel
theorem dX12_test_112 : decode cX12_test 112 = .ok (.invokevirtual 401, 3) := by decide +kernel
theorem dX12_test_115 : decode cX12_test 115 = .ok (.ifCond .ne 5, 3) := by decide +kernel
theorem dX12_test_118 : decode cX12_test 118 = .ok (.iconst 0, 1) := by decide +kernel
theorem dX12_test_119 : decode cX12_test 119 = .ok (.ireturn, 1) := by decide +kernel
theorem dX12_test_120 : decode cX12_test 120 = .ok (.aload_n 0, 1) := by decide +kernel
theorem dX12_test_121 : decode cX12_test 121 = .ok (.bipush 60, 2) := by decide +kernel
theorem dX12_test_123 : decode cX12_test 123 = .ok (.invokevirtual 394, 3) := by decide +kernel
theorem dX12_test_126 : decode cX12_test 126 = .ok (.ifCond .ne 26, 3) := by decide +kernel
theorem dX12_test_129 : decode cX12_test 129 = .ok (.aload_n 0, 1) := by decide +kernel
theorem dX12_test_130 : decode cX12_test 130 = .ok (.bipush 62, 2) := by decide +kernel
theorem dX12_test_132 : decode cX12_test 132 = .ok (.invokevirtual 394, 3) := by decide +kernel
theorem dX12_test_135 : decode cX12_test 135 = .ok (.ifCond .ne 17, 3) := by decide +kernel
theorem dX12_test_138 : decode cX12_test 138 = .ok (.aload_n 0, 1) := by decide +kernel
theorem dX12_test_139 : decode cX12_test 139 = .ok (.bipush 61, 2) := by decide +kernel
theorem dX12_test_141 : decode cX12_test 141 = .ok (.invokevirtual 394, 3) := by decide +kernel
theorem dX12_test_144 : decode cX12_test 144 = .ok (.ifCond .ne 8, 3) := by decide +kernel
theorem dX12_test_147 : decode cX12_test 147 = .ok (.aload_n 0, 1) := by decide +kernel
theorem dX12_test_148 : decode cX12_test 148 = .ok (.invokevirtual 376, 3) := by decide +kernel
theorem dX12_test_151 : decode cX12_test 151 = .ok (.ireturn, 1) := by decide +kernel
theorem dX12_test_152 : decode cX12_test 152 = .ok (.aload_n 0, 1) := by decide +kernel
theorem dX12_test_153 : decode cX12_test 153 = .ok (.getfield 119, 3) := by decide +kernel
theorem dX12_test_156 : decode cX12_test 156 = .ok (.aload_n 0, 1) := by decide +kernel
theorem dX12_test_157 : decode cX12_test 157 = .ok (.getfield 350, 3) := by decide +kernel
theorem dX12_test_160 : decode cX12_test 160 = .ok (.baload, 1) := by decide +kernel
theorem dX12_test_161 : decode cX12_test 161 = .ok (.istore_n 2, 1) := by decide +kernel
theorem dX12_test_162 : decode cX12_test 162 = .ok (.aload_n 0, 1) := by decide +kernel
theorem dX12_test_163 : decode cX12_test 163 = .ok (.invokevirtual 380, 3) := by decide +kernel
theorem dX12_test_166 : decode cX12_test 166 = .ok (.aload_n 0, 1) := by decide +kernel
theorem dX12_test_167 : decode cX12_test 167 = .ok (.iload_n 1, 1) := by decide +kernel
theorem dX12_test_168 : decode cX12_test 168 = .ok (.invokevirtual 401, 3) := by decide +kernel
theorem dX12_test_171 : decode cX12_test 171 = .ok (.ifCond .eq 16, 3) := by decide +kernel
theorem dX12_test_174 : decode cX12_test 174 = .ok (.aload_n 0, 1) := by decide +kernel
theorem dX12_test_175 : decode cX12_test 175 = .ok (.iload_n 2, 1) := by decide +kernel
theorem dX12_test_176 : decode cX12_test 176 = .ok (.iconst 0, 1) := by decide +kernel
theorem dX12_test_177 : decode cX12_test 177 = .ok (.invokevirtual 406, 3) := by decide +kernel
theorem dX12_test_180 : decode cX12_test 180 = .ok (.ifCond .eq 7, 3) := by decide +kernel
theorem dX12_test_183 : decode cX12_test 183 = .ok (.iconst 1, 1) := by decide +kernel
theorem dX12_test_184 : decode cX12_test 184 = .ok (.goto 4, 3) := by decide +kernel
theorem dX12_test_187 : decode cX12_test 187 = .ok (.iconst 0, 1) := by decide +kernel
theorem dX12_test_188 : decode cX12_test 188 = .ok (.ireturn, 1) := by decide +kernel
theorem dX12_each_0 : decode cX12_each 0 = .ok (.aload_n 0, 1) := by decide +kernel
theorem dX12_each_1 : decode cX12_each 1 = .ok (.iload_n 1, 1) := by decide +kernel
theorem dX12_each_2 : decode cX12_each 2 = .ok (.invokevirtual 421, 3) := by decide +kernel
theorem dX12_each_5 : decode cX12_each 5 = .ok (.ifCond .ne 5, 3) := by decide +kernel
theorem dX12_each_8 : decode cX12_each 8 = .ok (.iconst 0, 1) := by decide +kernel
theorem dX12_each_9 : decode cX12_each 9 = .ok (.ireturn, 1) := by decide +kernel
theorem dX12_each_10 : decode cX12_each 10 = .ok (.aload_n 0, 1) := by decide +kernel
theorem dX12_each_11 : decode cX12_each 11 = .ok (.ldc_w 427, 3) := by decide +kernel
theorem dX12_each_14 : decode cX12_each 14 = .ok (.invokevirtual 409, 3) := by decide +kernel
theorem dX12_each_17 : decode cX12_each 17 = .ok (.ifCond .eq 28, 3) := by decide +kernel
theorem dX12_each_20 : decode cX12_each 20 = .ok (.aload_n 0, 1) := by decide +kernel
theorem dX12_each_21 : decode cX12_each 21 = .ok (.invokevirtual 380, 3) := by decide +kernel
theorem dX12_each_24 : decode cX12_each 24 = .ok (.aload_n 0, 1) := by decide +kernel
theorem dX12_each_25 : decode cX12_each 25 = .ok (.iload_n 1, 1) := by decide +kernel
theorem dX12_each_26 : decode cX12_each 26 = .ok (.invokevirtual 421, 3) := by decide +kernel
theorem dX12_each_29 : decode cX12_each 29 = .ok (.ifCond .ne 5, 3) := by decide +kernel
theorem dX12_each_32 : decode cX12_each 32 = .ok (.iconst 0, 1) := by decide +kernel
theorem dX12_each_33 : decode cX12_each 33 = .ok (.ireturn, 1) := by decide +kernel
theorem dX12_each_34 : decode cX12_each 34 = .ok (.aload_n 0, 1) := by decide +kernel
theorem dX12_each_35 : decode cX12_each 35 = .ok (.bipush 38, 2) := by decide +kernel
theorem dX12_each_37 : decode cX12_each 37 = .ok (.iconst 0, 1) := by decide +kernel
theorem dX12_each_38 : decode cX12_each 38 = .ok (.invokevirtual 406, 3) := by decide +kernel
theorem dX12_each_41 : decode cX12_each 41 = .ok (.pop, 1) := by decide +kernel
theorem dX12_each_42 : decode cX12_each 42 = .ok (.goto (-32), 3) := by decide +kernel
theorem dX12_each_45 : decode cX12_each 45 = .ok (.iconst 1, 1) := by decide +kernel
theorem dX12_each_46 : decode cX12_each 46 = .ok (.ireturn, 1) := by decide +kernel
theorem dX12_either_0 : decode cX12_either 0 = .ok (.aload_n 0, 1) := by decide +kernel
theorem dX12_either_1 : decode cX12_either 1 = .ok (.iload_n 1, 1) := by decide +kernel
theorem dX12_either_2 : decode cX12_either 2 = .ok (.invokevirtual 429, 3) := by decide +kernel
theorem dX12_either_5 : decode cX12_either 5 = .ok (.ifCond .ne 5, 3) := by decide +kernel
theorem dX12_either_8 : decode cX12_either 8 = .ok (.iconst 0, 1) := by decide +kernel
theorem dX12_either_9 : decode cX12_either 9 = .ok (.ireturn, 1) := by decide +kernel
theorem dX12_either_10 : decode cX12_either 10 = .ok (.aload_n 0, 1) := by decide +kernel
theorem dX12_either_11 : decode cX12_either 11 = .ok (.ldc_w 432, 3) := by decide +kernel
theorem dX12_either_14 : decode cX12_either 14 = .ok (.invokevirtual 409, 3) := by decide +kernel
theorem dX12_either_17 : decode cX12_either 17 = .ok (.ifCond .eq 28, 3) := by decide +kernel
theorem dX12_either_20 : decode cX12_either 20 = .ok (.aload_n 0, 1) := by decide +kernel
theorem dX12_either_21 : decode cX12_either 21 = .ok (.invokevirtual 380, 3) := by decide +kernel
theorem dX12_either_24 : decode cX12_either 24 = .ok (.aload_n 0, 1) := by decide +kernel
theorem dX12_either_25 : decode cX12_either 25 = .ok (.iload_n 1, 1) := by decide +kernel
theorem dX12_either_26 : decode cX12_either 26 = .ok (.invokevirtual 429, 3) := by decide +kernel
theorem dX12_either_29 : decode cX12_either 29 = .ok (.ifCond .ne 5, 3) := by decide +kernel
theorem dX12_either_32 : decode cX12_either 32 = .ok (.iconst 0, 1) := by decide +kernel
theorem dX12_either_33 : decode cX12_either 33 = .ok (.ireturn, 1) := by decide +kernel
theorem dX12_either_34 : decode cX12_either 34 = .ok (.aload_n 0, 1) := by decide +kernel
theorem dX12_either_35 : decode cX12_either 35 = .ok (.bipush 124, 2) := by decide +kernel
theorem dX12_either_37 : decode cX12_either 37 = .ok (.iconst 0, 1) := by decide +kernel
theorem dX12_either_38 : decode cX12_either 38 = .ok (.invokevirtual 406, 3) := by decide +kernel
theorem dX12_either_41 : decode cX12_either 41 = .ok (.pop, 1) := by decide +kernel
theorem dX12_either_42 : decode cX12_either 42 = .ok (.goto (-32), 3) := by decide +kernel
theorem dX12_either_45 : decode cX12_either 45 = .ok (.iconst 1, 1) := by decide +kernel
theorem dX12_either_46 : decode cX12_either 46 = .ok (.ireturn, 1) := by decide +kernel
theorem dX12_clauses_0 : decode cX12_clauses 0 = .ok (.aload_n 0, 1) := by decide +kernel
theorem dX12_clauses_1 : decode cX12_clauses 1 = .ok (.iconst (-1), 1) := by decide +kernel
theorem dX12_clauses_2 : decode cX12_clauses 2 = .ok (.putfield 383, 3) := by decide +kernel
theorem dX12_clauses_5 : decode cX12_clauses 5 = .ok (.iconst 0, 1) := by decide +kernel
theorem dX12_clauses_6 : decode cX12_clauses 6 = .ok (.istore_n 1, 1) := by decide +kernel
theorem dX12_clauses_7 : decode cX12_clauses 7 = .ok (.iload_n 1, 1) := by decide +kernel
theorem dX12_clauses_8 : decode cX12_clauses 8 = .ok (.bipush 6, 2) := by decide +kernel
theorem dX12_clauses_10 : decode cX12_clauses 10 = .ok (.if_icmp .ge 27, 3) := by decide +kernel
theorem dX12_clauses_13 : decode cX12_clauses 13 = .ok (.aload_n 0, 1) := by decide +kernel
theorem dX12_clauses_14 : decode cX12_clauses 14 = .ok (.aload_n 0, 1) := by decide +kernel
theorem dX12_clauses_15 : decode cX12_clauses 15 = .ok (.getfield 151, 3) := by decide +kernel
theorem dX12_clauses_18 : decode cX12_clauses 18 = .ok (.iload_n 1, 1) := by decide +kernel
theorem dX12_clauses_19 : decode cX12_clauses 19 = .ok (.aaload, 1) := by decide +kernel
theorem dX12_clauses_20 : decode cX12_clauses 20 = .ok (.invokevirtual 409, 3) := by decide +kernel
theorem dX12_clauses_23 : decode cX12_clauses 23 = .ok (.ifCond .eq 8, 3) := by decide +kernel
theorem dX12_clauses_26 : decode cX12_clauses 26 = .ok (.aload_n 0, 1) := by decide +kernel
theorem dX12_clauses_27 : decode cX12_clauses 27 = .ok (.iload_n 1, 1) := by decide +kernel
theorem dX12_clauses_28 : decode cX12_clauses 28 = .ok (.putfield 383, 3) := by decide +kernel
theorem dX12_clauses_31 : decode cX12_clauses 31 = .ok (.iinc 1 1, 3) := by decide +kernel
theorem dX12_clauses_34 : decode cX12_clauses 34 = .ok (.goto (-27), 3) := by decide +kernel
theorem dX12_clauses_37 : decode cX12_clauses 37 = .ok (.aload_n 0, 1) := by decide +kernel
theorem dX12_clauses_38 : decode cX12_clauses 38 = .ok (.aload_n 0, 1) := by decide +kernel
theorem dX12_clauses_39 : decode cX12_clauses 39 = .ok (.getfield 383, 3) := by decide +kernel
theorem dX12_clauses_42 : decode cX12_clauses 42 = .ok (.iconst (-1), 1) := by decide +kernel
theorem dX12_clauses_43 : decode cX12_clauses 43 = .ok (.if_icmp .eq 22, 3) := by decide +kernel
theorem dX12_clauses_46 : decode cX12_clauses 46 = .ok (.aload_n 0, 1) := by decide +kernel
theorem dX12_clauses_47 : decode cX12_clauses 47 = .ok (.getfield 128, 3) := by decide +kernel
theorem dX12_clauses_50 : decode cX12_clauses 50 = .ok (.bipush 10, 2) := by decide +kernel
theorem dX12_clauses_52 : decode cX12_clauses 52 = .ok (.aaload, 1) := by decide +kernel
theorem dX12_clauses_53 : decode cX12_clauses 53 = .ok (.aload_n 0, 1) := by decide +kernel
theorem dX12_clauses_54 : decode cX12_clauses 54 = .ok (.getfield 383, 3) := by decide +kernel
theorem dX12_clauses_57 : decode cX12_clauses 57 = .ok (.iaload, 1) := by decide +kernel
theorem dX12_clauses_58 : decode cX12_clauses 58 = .ok (.ifCond .ne 7, 3) := by decide +kernel
theorem dX12_clauses_61 : decode cX12_clauses 61 = .ok (.iconst 1, 1) := by decide +kernel
theorem dX12_clauses_62 : decode cX12_clauses 62 = .ok (.goto 4, 3) := by decide +kernel
theorem dX12_clauses_65 : decode cX12_clauses 65 = .ok (.iconst 0, 1) := by decide +kernel
theorem dX12_clauses_66 : decode cX12_clauses 66 = .ok (.invokevirtual 397, 3) := by decide +kernel
theorem dX12_clauses_69 : decode cX12_clauses 69 = .ok (.ifCond .ne 5, 3) := by decide +kernel
theorem dX12_clauses_72 : decode cX12_clauses 72 = .ok (.iconst 0, 1) := by decide +kernel
theorem dX12_clauses_73 : decode cX12_clauses 73 = .ok (.ireturn, 1) := by decide +kernel
theorem dX12_clauses_74 : decode cX12_clauses 74 = .ok (.aload_n 0, 1) := by decide +kernel
theorem dX12_clauses_75 : decode cX12_clauses 75 = .ok (.iconst 0, 1) := by decide +kernel
theorem dX12_clauses_76 : decode cX12_clauses 76 = .ok (.putfield 386, 3) := by decide +kernel
theorem dX12_clauses_79 : decode cX12_clauses 79 = .ok (.aload_n 0, 1) := by decide +kernel
theorem dX12_clauses_80 : decode cX12_clauses 80 = .ok (.getfield 383, 3) := by decide +kernel
theorem dX12_clauses_83 : decode cX12_clauses 83 = .ok (.iconst 4, 1) := by decide +kernel
theorem dX12_clauses_84 : decode cX12_clauses 84 = .ok (.if_icmp .ge 14, 3) := by decide +kernel
theorem dX12_clauses_87 : decode cX12_clauses 87 = .ok (.aload_n 0, 1) := by decide +kernel
theorem dX12_clauses_88 : decode cX12_clauses 88 = .ok (.iconst 0, 1) := by decide +kernel
theorem dX12_clauses_89 : decode cX12_clauses 89 = .ok (.invokevirtual 401, 3) := by decide +kernel
theorem dX12_clauses_92 : decode cX12_clauses 92 = .ok (.ifCond .ne 16, 3) := by decide +kernel
theorem dX12_clauses_95 : decode cX12_clauses 95 = .ok (.goto 11, 3) := by decide +kernel
theorem dX12_clauses_98 : decode cX12_clauses 98 = .ok (.aload_n 0, 1) := by decide +kernel
theorem dX12_clauses_99 : decode cX12_clauses 99 = .ok (.iconst 0, 1) := by decide +kernel
theorem dX12_clauses_100 : decode cX12_clauses 100 = .ok (.invokevirtual 424, 3) := by decide +kernel
theorem dX12_clauses_103 : decode cX12_clauses 103 = .ok (.ifCond .ne 5, 3) := by decide +kernel
theorem dX12_clauses_106 : decode cX12_clauses 106 = .ok (.iconst 0, 1) := by decide +kernel
theorem dX12_clauses_107 : decode cX12_clauses 107 = .ok (.ireturn, 1) := by decide +kernel
theorem dX12_clauses_108 : decode cX12_clauses 108 = .ok (.aload_n 0, 1) := by decide +kernel
theorem dX12_clauses_109 : decode cX12_clauses 109 = .ok (.getfield 128, 3) := by decide +kernel
theorem dX12_clauses_112 : decode cX12_clauses 112 = .ok (.bipush 10, 2) := by decide +kernel
theorem dX12_clauses_114 : decode cX12_clauses 114 = .ok (.aaload, 1) := by decide +kernel
theorem dX12_clauses_115 : decode cX12_clauses 115 = .ok (.aload_n 0, 1) := by decide +kernel
theorem dX12_clauses_116 : decode cX12_clauses 116 = .ok (.getfield 383, 3) := by decide +kernel
theorem dX12_clauses_119 : decode cX12_clauses 119 = .ok (.aload_n 0, 1) := by decide +kernel
theorem dX12_clauses_120 : decode cX12_clauses 120 = .ok (.getfield 386, 3) := by decide +kernel
theorem dX12_clauses_123 : decode cX12_clauses 123 = .ok (.iastore, 1) := by decide +kernel
theorem dX12_clauses_124 : decode cX12_clauses 124 = .ok (.aload_n 0, 1) := by decide +kernel
theorem dX12_clauses_125 : decode cX12_clauses 125 = .ok (.aload_n 0, 1) := by decide +kernel
theorem dX12_clauses_126 : decode cX12_clauses 126 = .ok (.bipush 59, 2) := by decide +kernel
theorem dX12_clauses_128 : decode cX12_clauses 128 = .ok (.invokevirtual 394, 3) := by decide +kernel
theorem dX12_clauses_131 : decode cX12_clauses 131 = .ok (.invokevirtual 397, 3) := by decide +kernel
theorem dX12_clauses_134 : decode cX12_clauses 134 = .ok (.ireturn, 1) := by decide +kernel
theorem dX12_reads_0 : decode cX12_reads 0 = .ok (.aload_n 0, 1) := by decide +kernel
theorem dX12_reads_1 : decode cX12_reads 1 = .ok (.iconst (-1), 1) := by decide +kernel
theorem dX12_reads_2 : decode cX12_reads 2 = .ok (.putfield 373, 3) := by decide +kernel
theorem dX12_reads_5 : decode cX12_reads 5 = .ok (.iconst 0, 1) := by decide +kernel
theorem dX12_reads_6 : decode cX12_reads 6 = .ok (.istore_n 1, 1) := by decide +kernel
theorem dX12_reads_7 : decode cX12_reads 7 = .ok (.iload_n 1, 1) := by decide +kernel
theorem dX12_reads_8 : decode cX12_reads 8 = .ok (.bipush 6, 2) := by decide +kernel
theorem dX12_reads_10 : decode cX12_reads 10 = .ok (.if_icmp .ge 19, 3) := by decide +kernel
theorem dX12_reads_13 : decode cX12_reads 13 = .ok (.aload_n 0, 1) := by decide +kernel
theorem dX12_reads_14 : decode cX12_reads 14 = .ok (.getfield 128, 3) := by decide +kernel
theorem dX12_reads_17 : decode cX12_reads 17 = .ok (.bipush 10, 2) := by decide +kernel
theorem dX12_reads_19 : decode cX12_reads 19 = .ok (.aaload, 1) := by decide +kernel
theorem dX12_reads_20 : decode cX12_reads 20 = .ok (.iload_n 1, 1) := by decide +kernel
theorem dX12_reads_21 : decode cX12_reads 21 = .ok (.iconst 0, 1) := by decide +kernel
theorem dX12_reads_22 : decode cX12_reads 22 = .ok (.iastore, 1) := by decide +kernel
theorem dX12_reads_23 : decode cX12_reads 23 = .ok (.iinc 1 1, 3) := by decide +kernel
theorem dX12_reads_26 : decode cX12_reads 26 = .ok (.goto (-19), 3) := by decide +kernel
theorem dX12_reads_29 : decode cX12_reads 29 = .ok (.aload_n 0, 1) := by decide +kernel
theorem dX12_reads_30 : decode cX12_reads 30 = .ok (.iconst 0, 1) := by decide +kernel
theorem dX12_reads_31 : decode cX12_reads 31 = .ok (.putfield 350, 3) := by decide +kernel
theorem dX12_reads_34 : decode cX12_reads 34 = .ok (.aload_n 0, 1) := by decide +kernel
theorem dX12_reads_35 : decode cX12_reads 35 = .ok (.invokevirtual 362, 3) := by decide +kernel
theorem dX12_reads_38 : decode cX12_reads 38 = .ok (.iconst 1, 1) := by decide +kernel
theorem dX12_reads_39 : decode cX12_reads 39 = .ok (.istore_n 1, 1) := by decide +kernel
theorem dX12_reads_40 : decode cX12_reads 40 = .ok (.iload_n 1, 1) := by decide +kernel
theorem dX12_reads_41 : decode cX12_reads 41 = .ok (.ifCond .eq 22, 3) := by decide +kernel
theorem dX12_reads_44 : decode cX12_reads 44 = .ok (.aload_n 0, 1) := by decide +kernel
theorem dX12_reads_45 : decode cX12_reads 45 = .ok (.getfield 350, 3) := by decide +kernel
theorem dX12_reads_48 : decode cX12_reads 48 = .ok (.aload_n 0, 1) := by decide +kernel
theorem dX12_reads_49 : decode cX12_reads 49 = .ok (.getfield 343, 3) := by decide +kernel
theorem dX12_reads_52 : decode cX12_reads 52 = .ok (.if_icmp .ge 11, 3) := by decide +kernel
theorem dX12_reads_55 : decode cX12_reads 55 = .ok (.aload_n 0, 1) := by decide +kernel
theorem dX12_reads_56 : decode cX12_reads 56 = .ok (.invokevirtual 434, 3) := by decide +kernel
theorem dX12_reads_59 : decode cX12_reads 59 = .ok (.istore_n 1, 1) := by decide +kernel
theorem dX12_reads_60 : decode cX12_reads 60 = .ok (.goto (-20), 3) := by decide +kernel
theorem dX12_reads_63 : decode cX12_reads 63 = .ok (.return_, 1) := by decide +kernel
theorem dX12_fault_0 : decode cX12_fault 0 = .ok (.aload_n 0, 1) := by decide +kernel
theorem dX12_fault_1 : decode cX12_fault 1 = .ok (.invokevirtual 437, 3) := by decide +kernel
theorem dX12_fault_4 : decode cX12_fault 4 = .ok (.aload_n 0, 1) := by decide +kernel
theorem dX12_fault_5 : decode cX12_fault 5 = .ok (.getfield 373, 3) := by decide +kernel
theorem dX12_fault_8 : decode cX12_fault 8 = .ok (.ireturn, 1) := by decide +kernel
theorem dX12_sheet_0 : decode cX12_sheet 0 = .ok (.aload_n 0, 1) := by decide +kernel
theorem dX12_sheet_1 : decode cX12_sheet 1 = .ok (.getfield 440, 3) := by decide +kernel
theorem dX12_sheet_4 : decode cX12_sheet 4 = .ok (.bipush 10, 2) := by decide +kernel
theorem dX12_sheet_6 : decode cX12_sheet 6 = .ok (.if_icmp .ne 5, 3) := by decide +kernel
theorem dX12_sheet_9 : decode cX12_sheet 9 = .ok (.iconst (-1), 1) := by decide +kernel
theorem dX12_sheet_10 : decode cX12_sheet 10 = .ok (.ireturn, 1) := by decide +kernel
theorem dX12_sheet_11 : decode cX12_sheet 11 = .ok (.aload_n 0, 1) := by decide +kernel
theorem dX12_sheet_12 : decode cX12_sheet 12 = .ok (.invokevirtual 437, 3) := by decide +kernel
theorem dX12_sheet_15 : decode cX12_sheet 15 = .ok (.aload_n 0, 1) := by decide +kernel
theorem dX12_sheet_16 : decode cX12_sheet 16 = .ok (.getfield 373, 3) := by decide +kernel
theorem dX12_sheet_19 : decode cX12_sheet 19 = .ok (.iconst (-1), 1) := by decide +kernel
theorem dX12_sheet_20 : decode cX12_sheet 20 = .ok (.if_icmp .eq 5, 3) := by decide +kernel
theorem dX12_sheet_23 : decode cX12_sheet 23 = .ok (.iconst (-1), 1) := by decide +kernel
theorem dX12_sheet_24 : decode cX12_sheet 24 = .ok (.ireturn, 1) := by decide +kernel
theorem dX12_sheet_25 : decode cX12_sheet 25 = .ok (.aload_n 0, 1) := by decide +kernel
theorem dX12_sheet_26 : decode cX12_sheet 26 = .ok (.iconst 0, 1) := by decide +kernel
theorem dX12_sheet_27 : decode cX12_sheet 27 = .ok (.putfield 343, 3) := by decide +kernel
theorem dX12_sheet_30 : decode cX12_sheet 30 = .ok (.iconst 0, 1) := by decide +kernel
theorem dX12_sheet_31 : decode cX12_sheet 31 = .ok (.istore_n 1, 1) := by decide +kernel
theorem dX12_sheet_32 : decode cX12_sheet 32 = .ok (.iload_n 1, 1) := by decide +kernel
theorem dX12_sheet_33 : decode cX12_sheet 33 = .ok (.bipush 6, 2) := by decide +kernel
theorem dX12_sheet_35 : decode cX12_sheet 35 = .ok (.if_icmp .ge 76, 3) := by decide +kernel
theorem dX12_sheet_38 : decode cX12_sheet 38 = .ok (.aload_n 0, 1) := by decide +kernel
theorem dX12_sheet_39 : decode cX12_sheet 39 = .ok (.getfield 128, 3) := by decide +kernel
theorem dX12_sheet_42 : decode cX12_sheet 42 = .ok (.aload_n 0, 1) := by decide +kernel
theorem dX12_sheet_43 : decode cX12_sheet 43 = .ok (.getfield 440, 3) := by decide +kernel
theorem dX12_sheet_46 : decode cX12_sheet 46 = .ok (.aaload, 1) := by decide +kernel
theorem dX12_sheet_47 : decode cX12_sheet 47 = .ok (.iload_n 1, 1) := by decide +kernel
theorem dX12_sheet_48 : decode cX12_sheet 48 = .ok (.aload_n 0, 1) := by decide +kernel
theorem dX12_sheet_49 : decode cX12_sheet 49 = .ok (.getfield 128, 3) := by decide +kernel
theorem dX12_sheet_52 : decode cX12_sheet 52 = .ok (.bipush 10, 2) := by decide +kernel
theorem dX12_sheet_54 : decode cX12_sheet 54 = .ok (.aaload, 1) := by decide +kernel
theorem dX12_sheet_55 : decode cX12_sheet 55 = .ok (.iload_n 1, 1) := by decide +kernel
theorem dX12_sheet_56 : decode cX12_sheet 56 = .ok (.iaload, 1) := by decide +kernel
theorem dX12_sheet_57 : decode cX12_sheet 57 = .ok (.iastore, 1) := by decide +kernel
theorem dX12_sheet_58 : decode cX12_sheet 58 = .ok (.iconst 0, 1) := by decide +kernel
theorem dX12_sheet_59 : decode cX12_sheet 59 = .ok (.istore_n 2, 1) := by decide +kernel
theorem dX12_sheet_60 : decode cX12_sheet 60 = .ok (.iload_n 2, 1) := by decide +kernel
theorem dX12_sheet_61 : decode cX12_sheet 61 = .ok (.iconst 2, 1) := by decide +kernel
theorem dX12_sheet_62 : decode cX12_sheet 62 = .ok (.aload_n 0, 1) := by decide +kernel
theorem dX12_sheet_63 : decode cX12_sheet 63 = .ok (.getfield 128, 3) := by decide +kernel
theorem dX12_sheet_66 : decode cX12_sheet 66 = .ok (.bipush 10, 2) := by decide +kernel
theorem dX12_sheet_68 : decode cX12_sheet 68 = .ok (.aaload, 1) := by decide +kernel
theorem dX12_sheet_69 : decode cX12_sheet 69 = .ok (.iload_n 1, 1) := by decide +kernel
theorem dX12_sheet_70 : decode cX12_sheet 70 = .ok (.iaload, 1) := by decide +kernel
theorem dX12_sheet_71 : decode cX12_sheet 71 = .ok (.imul, 1) := by decide +kernel
theorem dX12_sheet_72 : decode cX12_sheet 72 = .ok (.if_icmp .ge 33, 3) := by decide +kernel
theorem dX12_sheet_75 : decode cX12_sheet 75 = .ok (.aload_n 0, 1) := by decide +kernel
theorem dX12_sheet_76 : decode cX12_sheet 76 = .ok (.getfield 125, 3) := by decide +kernel
theorem dX12_sheet_79 : decode cX12_sheet 79 = .ok (.aload_n 0, 1) := by decide +kernel
theorem dX12_sheet_80 : decode cX12_sheet 80 = .ok (.getfield 440, 3) := by decide +kernel
theorem dX12_sheet_83 : decode cX12_sheet 83 = .ok (.aaload, 1) := by decide +kernel
theorem dX12_sheet_84 : decode cX12_sheet 84 = .ok (.iload_n 1, 1) := by decide +kernel
theorem dX12_sheet_85 : decode cX12_sheet 85 = .ok (.aaload, 1) := by decide +kernel
theorem dX12_sheet_86 : decode cX12_sheet 86 = .ok (.iload_n 2, 1) := by decide +kernel
theorem dX12_sheet_87 : decode cX12_sheet 87 = .ok (.aload_n 0, 1) := by decide +kernel
theorem dX12_sheet_88 : decode cX12_sheet 88 = .ok (.getfield 125, 3) := by decide +kernel
theorem dX12_sheet_91 : decode cX12_sheet 91 = .ok (.bipush 10, 2) := by decide +kernel
theorem dX12_sheet_93 : decode cX12_sheet 93 = .ok (.aaload, 1) := by decide +kernel
theorem dX12_sheet_94 : decode cX12_sheet 94 = .ok (.iload_n 1, 1) := by decide +kernel
theorem dX12_sheet_95 : decode cX12_sheet 95 = .ok (.aaload, 1) := by decide +kernel
theorem dX12_sheet_96 : decode cX12_sheet 96 = .ok (.iload_n 2, 1) := by decide +kernel
theorem dX12_sheet_97 : decode cX12_sheet 97 = .ok (.iaload, 1) := by decide +kernel
theorem dX12_sheet_98 : decode cX12_sheet 98 = .ok (.iastore, 1) := by decide +kernel
theorem dX12_sheet_99 : decode cX12_sheet 99 = .ok (.iinc 2 1, 3) := by decide +kernel
theorem dX12_sheet_102 : decode cX12_sheet 102 = .ok (.goto (-42), 3) := by decide +kernel
theorem dX12_sheet_105 : decode cX12_sheet 105 = .ok (.iinc 1 1, 3) := by decide +kernel
theorem dX12_sheet_108 : decode cX12_sheet 108 = .ok (.goto (-76), 3) := by decide +kernel
theorem dX12_sheet_111 : decode cX12_sheet 111 = .ok (.aload_n 0, 1) := by decide +kernel
theorem dX12_sheet_112 : decode cX12_sheet 112 = .ok (.getfield 131, 3) := by decide +kernel
theorem dX12_sheet_115 : decode cX12_sheet 115 = .ok (.aload_n 0, 1) := by decide +kernel
theorem dX12_sheet_116 : decode cX12_sheet 116 = .ok (.getfield 440, 3) := by decide +kernel
theorem dX12_sheet_119 : decode cX12_sheet 119 = .ok (.aload_n 0, 1) := by decide +kernel
theorem dX12_sheet_120 : decode cX12_sheet 120 = .ok (.getfield 275, 3) := by decide +kernel
theorem dX12_sheet_123 : decode cX12_sheet 123 = .ok (.iastore, 1) := by decide +kernel
theorem dX12_sheet_124 : decode cX12_sheet 124 = .ok (.aload_n 0, 1) := by decide +kernel
theorem dX12_sheet_125 : decode cX12_sheet 125 = .ok (.getfield 134, 3) := by decide +kernel
theorem dX12_sheet_128 : decode cX12_sheet 128 = .ok (.aload_n 0, 1) := by decide +kernel
theorem dX12_sheet_129 : decode cX12_sheet 129 = .ok (.getfield 440, 3) := by decide +kernel
theorem dX12_sheet_132 : decode cX12_sheet 132 = .ok (.iconst (-1), 1) := by decide +kernel
theorem dX12_sheet_133 : decode cX12_sheet 133 = .ok (.iastore, 1) := by decide +kernel
theorem dX12_sheet_134 : decode cX12_sheet 134 = .ok (.aload_n 0, 1) := by decide +kernel
theorem dX12_sheet_135 : decode cX12_sheet 135 = .ok (.dup, 1) := by decide +kernel
theorem dX12_sheet_136 : decode cX12_sheet 136 = .ok (.getfield 440, 3) := by decide +kernel
theorem dX12_sheet_139 : decode cX12_sheet 139 = .ok (.iconst 1, 1) := by decide +kernel
theorem dX12_sheet_140 : decode cX12_sheet 140 = .ok (.iadd, 1) := by decide +kernel
theorem dX12_sheet_141 : decode cX12_sheet 141 = .ok (.putfield 440, 3) := by decide +kernel
theorem dX12_sheet_144 : decode cX12_sheet 144 = .ok (.aload_n 0, 1) := by decide +kernel
theorem dX12_sheet_145 : decode cX12_sheet 145 = .ok (.getfield 440, 3) := by decide +kernel
theorem dX12_sheet_148 : decode cX12_sheet 148 = .ok (.iconst 1, 1) := by decide +kernel
theorem dX12_sheet_149 : decode cX12_sheet 149 = .ok (.isub, 1) := by decide +kernel
theorem dX12_sheet_150 : decode cX12_sheet 150 = .ok (.ireturn, 1) := by decide +kernel
theorem dX12_strike_0 : decode cX12_strike 0 = .ok (.iload_n 1, 1) := by decide +kernel
theorem dX12_strike_1 : decode cX12_strike 1 = .ok (.i2l, 1) := by decide +kernel
theorem dX12_strike_2 : decode cX12_strike 2 = .ok (.lconst 0, 1) := by decide +kernel
theorem dX12_strike_3 : decode cX12_strike 3 = .ok (.aload_n 0, 1) := by decide +kernel
theorem dX12_strike_4 : decode cX12_strike 4 = .ok (.getfield 440, 3) := by decide +kernel
theorem dX12_strike_7 : decode cX12_strike 7 = .ok (.iconst 1, 1) := by decide +kernel
theorem dX12_strike_8 : decode cX12_strike 8 = .ok (.isub, 1) := by decide +kernel
theorem dX12_strike_9 : decode cX12_strike 9 = .ok (.i2l, 1) := by decide +kernel
theorem dX12_strike_10 : decode cX12_strike 10 = .ok (.invokestatic 247, 3) := by decide +kernel
theorem dX12_strike_13 : decode cX12_strike 13 = .ok (.ifCond .eq 13, 3) := by decide +kernel
theorem dX12_strike_16 : decode cX12_strike 16 = .ok (.aload_n 0, 1) := by decide +kernel
theorem dX12_strike_17 : decode cX12_strike 17 = .ok (.getfield 134, 3) := by decide +kernel
theorem dX12_strike_20 : decode cX12_strike 20 = .ok (.iload_n 1, 1) := by decide +kernel
theorem dX12_strike_21 : decode cX12_strike 21 = .ok (.iaload, 1) := by decide +kernel
theorem dX12_strike_22 : decode cX12_strike 22 = .ok (.iconst (-1), 1) := by decide +kernel
theorem dX12_strike_23 : decode cX12_strike 23 = .ok (.if_icmp .eq 5, 3) := by decide +kernel
theorem dX12_strike_26 : decode cX12_strike 26 = .ok (.iconst 0, 1) := by decide +kernel
theorem dX12_strike_27 : decode cX12_strike 27 = .ok (.ireturn, 1) := by decide +kernel
theorem dX12_strike_28 : decode cX12_strike 28 = .ok (.aload_n 0, 1) := by decide +kernel
theorem dX12_strike_29 : decode cX12_strike 29 = .ok (.getfield 134, 3) := by decide +kernel
theorem dX12_strike_32 : decode cX12_strike 32 = .ok (.iload_n 1, 1) := by decide +kernel
theorem dX12_strike_33 : decode cX12_strike 33 = .ok (.aload_n 0, 1) := by decide +kernel
theorem dX12_strike_34 : decode cX12_strike 34 = .ok (.getfield 275, 3) := by decide +kernel
theorem dX12_strike_37 : decode cX12_strike 37 = .ok (.iastore, 1) := by decide +kernel
theorem dX12_strike_38 : decode cX12_strike 38 = .ok (.iconst 1, 1) := by decide +kernel
theorem dX12_strike_39 : decode cX12_strike 39 = .ok (.ireturn, 1) := by decide +kernel
theorem dX12_sheetFor_0 : decode cX12_sheetFor 0 = .ok (.iconst (-1), 1) := by decide +kernel
theorem dX12_sheetFor_1 : decode cX12_sheetFor 1 = .ok (.istore_n 3, 1) := by decide +kernel
theorem dX12_sheetFor_2 : decode cX12_sheetFor 2 = .ok (.iconst 0, 1) := by decide +kernel
theorem dX12_sheetFor_3 : decode cX12_sheetFor 3 = .ok (.istore 4, 2) := by decide +kernel
theorem dX12_sheetFor_5 : decode cX12_sheetFor 5 = .ok (.iload 4, 2) := by decide +kernel
theorem dX12_sheetFor_7 : decode cX12_sheetFor 7 = .ok (.aload_n 0, 1) := by decide +kernel
theorem dX12_sheetFor_8 : decode cX12_sheetFor 8 = .ok (.getfield 440, 3) := by decide +kernel
theorem dX12_sheetFor_11 : decode cX12_sheetFor 11 = .ok (.if_icmp .ge 57, 3) := by decide +kernel
theorem dX12_sheetFor_14 : decode cX12_sheetFor 14 = .ok (.aload_n 0, 1) := by decide +kernel
theorem dX12_sheetFor_15 : decode cX12_sheetFor 15 = .ok (.getfield 131, 3) := by decide +kernel
theorem dX12_sheetFor_18 : decode cX12_sheetFor 18 = .ok (.iload 4, 2) := by decide +kernel
theorem dX12_sheetFor_20 : decode cX12_sheetFor 20 = .ok (.iaload, 1) := by decide +kernel
theorem dX12_sheetFor_21 : decode cX12_sheetFor 21 = .ok (.iload_n 2, 1) := by decide +kernel
theorem dX12_sheetFor_22 : decode cX12_sheetFor 22 = .ok (.if_icmp .gt 40, 3) := by decide +kernel
theorem dX12_sheetFor_25 : decode cX12_sheetFor 25 = .ok (.aload_n 0, 1) := by decide +kernel
theorem dX12_sheetFor_26 : decode cX12_sheetFor 26 = .ok (.getfield 134, 3) := by decide +kernel
theorem dX12_sheetFor_29 : decode cX12_sheetFor 29 = .ok (.iload 4, 2) := by decide +kernel
theorem dX12_sheetFor_31 : decode cX12_sheetFor 31 = .ok (.iaload, 1) := by decide +kernel
theorem dX12_sheetFor_32 : decode cX12_sheetFor 32 = .ok (.iconst (-1), 1) := by decide +kernel
theorem dX12_sheetFor_33 : decode cX12_sheetFor 33 = .ok (.if_icmp .eq 14, 3) := by decide +kernel
theorem dX12_sheetFor_36 : decode cX12_sheetFor 36 = .ok (.aload_n 0, 1) := by decide +kernel
theorem dX12_sheetFor_37 : decode cX12_sheetFor 37 = .ok (.getfield 134, 3) := by decide +kernel
theorem dX12_sheetFor_40 : decode cX12_sheetFor 40 = .ok (.iload 4, 2) := by decide +kernel
theorem dX12_sheetFor_42 : decode cX12_sheetFor 42 = .ok (.iaload, 1) := by decide +kernel
theorem dX12_sheetFor_43 : decode cX12_sheetFor 43 = .ok (.iload_n 2, 1) := by decide +kernel
theorem dX12_sheetFor_44 : decode cX12_sheetFor 44 = .ok (.if_icmp .le 18, 3) := by decide +kernel
theorem dX12_sheetFor_47 : decode cX12_sheetFor 47 = .ok (.aload_n 0, 1) := by decide +kernel
theorem dX12_sheetFor_48 : decode cX12_sheetFor 48 = .ok (.getfield 128, 3) := by decide +kernel
theorem dX12_sheetFor_51 : decode cX12_sheetFor 51 = .ok (.iload 4, 2) := by decide +kernel
theorem dX12_sheetFor_53 : decode cX12_sheetFor 53 = .ok (.aaload, 1) := by decide +kernel
theorem dX12_sheetFor_54 : decode cX12_sheetFor 54 = .ok (.iload_n 1, 1) := by decide +kernel
theorem dX12_sheetFor_55 : decode cX12_sheetFor 55 = .ok (.iaload, 1) := by decide +kernel
theorem dX12_sheetFor_56 : decode cX12_sheetFor 56 = .ok (.ifCond .le 6, 3) := by decide +kernel
theorem dX12_sheetFor_59 : decode cX12_sheetFor 59 = .ok (.iload 4, 2) := by decide +kernel
theorem dX12_sheetFor_61 : decode cX12_sheetFor 61 = .ok (.istore_n 3, 1) := by decide +kernel
theorem dX12_sheetFor_62 : decode cX12_sheetFor 62 = .ok (.iinc 4 1, 3) := by decide +kernel
theorem dX12_sheetFor_65 : decode cX12_sheetFor 65 = .ok (.goto (-60), 3) := by decide +kernel
theorem dX12_sheetFor_68 : decode cX12_sheetFor 68 = .ok (.iload_n 3, 1) := by decide +kernel
theorem dX12_sheetFor_69 : decode cX12_sheetFor 69 = .ok (.ireturn, 1) := by decide +kernel
theorem dX12_why_0 : decode cX12_why 0 = .ok (.iload_n 1, 1) := by decide +kernel
theorem dX12_why_1 : decode cX12_why 1 = .ok (.i2l, 1) := by decide +kernel
theorem dX12_why_2 : decode cX12_why 2 = .ok (.lconst 0, 1) := by decide +kernel
theorem dX12_why_3 : decode cX12_why 3 = .ok (.ldc2_w 285, 3) := by decide +kernel
theorem dX12_why_6 : decode cX12_why 6 = .ok (.invokestatic 247, 3) := by decide +kernel
theorem dX12_why_9 : decode cX12_why 9 = .ok (.ifCond .eq 26, 3) := by decide +kernel
theorem dX12_why_12 : decode cX12_why 12 = .ok (.iload_n 2, 1) := by decide +kernel
theorem dX12_why_13 : decode cX12_why 13 = .ok (.i2l, 1) := by decide +kernel
theorem dX12_why_14 : decode cX12_why 14 = .ok (.lconst 0, 1) := by decide +kernel
theorem dX12_why_15 : decode cX12_why 15 = .ok (.aload_n 0, 1) := by decide +kernel
theorem dX12_why_16 : decode cX12_why 16 = .ok (.getfield 275, 3) := by decide +kernel
theorem dX12_why_19 : decode cX12_why 19 = .ok (.i2l, 1) := by decide +kernel
theorem dX12_why_20 : decode cX12_why 20 = .ok (.invokestatic 247, 3) := by decide +kernel
theorem dX12_why_23 : decode cX12_why 23 = .ok (.ifCond .eq 12, 3) := by decide +kernel
theorem dX12_why_26 : decode cX12_why 26 = .ok (.aload_n 0, 1) := by decide +kernel
theorem dX12_why_27 : decode cX12_why 27 = .ok (.iload_n 1, 1) := by decide +kernel
theorem dX12_why_28 : decode cX12_why 28 = .ok (.iload_n 2, 1) := by decide +kernel
theorem dX12_why_29 : decode cX12_why 29 = .ok (.invokevirtual 443, 3) := by decide +kernel
theorem dX12_why_32 : decode cX12_why 32 = .ok (.goto 4, 3) := by decide +kernel
theorem dX12_why_35 : decode cX12_why 35 = .ok (.iconst (-1), 1) := by decide +kernel
theorem dX12_why_36 : decode cX12_why 36 = .ok (.ireturn, 1) := by decide +kernel
theorem dX12_brought_0 : decode cX12_brought 0 = .ok (.lload_n 0, 1) := by decide +kernel
theorem dX12_brought_1 : decode cX12_brought 1 = .ok (.ldc2_w 446, 3) := by decide +kernel
theorem dX12_brought_4 : decode cX12_brought 4 = .ok (.lcmp, 1) := by decide +kernel
theorem dX12_brought_5 : decode cX12_brought 5 = .ok (.ifCond .ge 9, 3) := by decide +kernel
theorem dX12_brought_8 : decode cX12_brought 8 = .ok (.ldc2_w 446, 3) := by decide +kernel
theorem dX12_brought_11 : decode cX12_brought 11 = .ok (.goto 18, 3) := by decide +kernel
theorem dX12_brought_14 : decode cX12_brought 14 = .ok (.lload_n 0, 1) := by decide +kernel
theorem dX12_brought_15 : decode cX12_brought 15 = .ok (.ldc2_w 448, 3) := by decide +kernel
theorem dX12_brought_18 : decode cX12_brought 18 = .ok (.lcmp, 1) := by decide +kernel
theorem dX12_brought_19 : decode cX12_brought 19 = .ok (.ifCond .le 9, 3) := by decide +kernel
theorem dX12_brought_22 : decode cX12_brought 22 = .ok (.ldc2_w 448, 3) := by decide +kernel
theorem dX12_brought_25 : decode cX12_brought 25 = .ok (.goto 4, 3) := by decide +kernel
theorem dX12_brought_28 : decode cX12_brought 28 = .ok (.lload_n 0, 1) := by decide +kernel
theorem dX12_brought_29 : decode cX12_brought 29 = .ok (.l2i, 1) := by decide +kernel
theorem dX12_brought_30 : decode cX12_brought 30 = .ok (.ireturn, 1) := by decide +kernel
theorem dX12_done_0 : decode cX12_done 0 = .ok (.iload_n 0, 1) := by decide +kernel
theorem dX12_done_1 : decode cX12_done 1 = .ok (.tableswitch 191 38 62 #[187, 191, 191, 191, 133, 115, 191, 124, 191, 142, 191, 191, 191, 191, 191, 191, 191, 191, 191, 191, 191, 191, 154, 176, 165], 115) := by decide +kernel
theorem dX12_done_116 : decode cX12_done 116 = .ok (.iload_n 1, 1) := by decide +kernel
theorem dX12_done_117 : decode cX12_done 117 = .ok (.i2l, 1) := by decide +kernel
theorem dX12_done_118 : decode cX12_done 118 = .ok (.iload_n 2, 1) := by decide +kernel
theorem dX12_done_119 : decode cX12_done 119 = .ok (.i2l, 1) := by decide +kernel
theorem dX12_done_120 : decode cX12_done 120 = .ok (.ladd, 1) := by decide +kernel
theorem dX12_done_121 : decode cX12_done 121 = .ok (.invokestatic 450, 3) := by decide +kernel
theorem dX12_done_124 : decode cX12_done 124 = .ok (.ireturn, 1) := by decide +kernel
theorem dX12_done_125 : decode cX12_done 125 = .ok (.iload_n 1, 1) := by decide +kernel
theorem dX12_done_126 : decode cX12_done 126 = .ok (.i2l, 1) := by decide +kernel
theorem dX12_done_127 : decode cX12_done 127 = .ok (.iload_n 2, 1) := by decide +kernel
theorem dX12_done_128 : decode cX12_done 128 = .ok (.i2l, 1) := by decide +kernel
theorem dX12_done_129 : decode cX12_done 129 = .ok (.lsub, 1) := by decide +kernel
theorem dX12_done_130 : decode cX12_done 130 = .ok (.invokestatic 450, 3) := by decide +kernel
theorem dX12_done_133 : decode cX12_done 133 = .ok (.ireturn, 1) := by decide +kernel
theorem dX12_done_134 : decode cX12_done 134 = .ok (.iload_n 1, 1) := by decide +kernel
theorem dX12_done_135 : decode cX12_done 135 = .ok (.i2l, 1) := by decide +kernel
theorem dX12_done_136 : decode cX12_done 136 = .ok (.iload_n 2, 1) := by decide +kernel
theorem dX12_done_137 : decode cX12_done 137 = .ok (.i2l, 1) := by decide +kernel
theorem dX12_done_138 : decode cX12_done 138 = .ok (.lmul, 1) := by decide +kernel
theorem dX12_done_139 : decode cX12_done 139 = .ok (.invokestatic 450, 3) := by decide +kernel
theorem dX12_done_142 : decode cX12_done 142 = .ok (.ireturn, 1) := by decide +kernel
theorem dX12_done_143 : decode cX12_done 143 = .ok (.iload_n 2, 1) := by decide +kernel
theorem dX12_done_144 : decode cX12_done 144 = .ok (.ifCond .ne 7, 3) := by decide +kernel
theorem dX12_done_147 : decode cX12_done 147 = .ok (.iconst 0, 1) := by decide +kernel
theorem dX12_done_148 : decode cX12_done 148 = .ok (.goto 6, 3) := by decide +kernel
theorem dX12_done_151 : decode cX12_done 151 = .ok (.iload_n 1, 1) := by decide +kernel
theorem dX12_done_152 : decode cX12_done 152 = .ok (.iload_n 2, 1) := by decide +kernel
theorem dX12_done_153 : decode cX12_done 153 = .ok (.idiv, 1) := by decide +kernel
theorem dX12_done_154 : decode cX12_done 154 = .ok (.ireturn, 1) := by decide +kernel
theorem dX12_done_155 : decode cX12_done 155 = .ok (.iload_n 1, 1) := by decide +kernel
theorem dX12_done_156 : decode cX12_done 156 = .ok (.iload_n 2, 1) := by decide +kernel
theorem dX12_done_157 : decode cX12_done 157 = .ok (.if_icmp .ge 7, 3) := by decide +kernel
theorem dX12_done_160 : decode cX12_done 160 = .ok (.iconst 1, 1) := by decide +kernel
theorem dX12_done_161 : decode cX12_done 161 = .ok (.goto 4, 3) := by decide +kernel
theorem dX12_done_164 : decode cX12_done 164 = .ok (.iconst 0, 1) := by decide +kernel
theorem dX12_done_165 : decode cX12_done 165 = .ok (.ireturn, 1) := by decide +kernel
theorem dX12_done_166 : decode cX12_done 166 = .ok (.iload_n 1, 1) := by decide +kernel
theorem dX12_done_167 : decode cX12_done 167 = .ok (.iload_n 2, 1) := by decide +kernel
theorem dX12_done_168 : decode cX12_done 168 = .ok (.if_icmp .le 7, 3) := by decide +kernel
theorem dX12_done_171 : decode cX12_done 171 = .ok (.iconst 1, 1) := by decide +kernel
theorem dX12_done_172 : decode cX12_done 172 = .ok (.goto 4, 3) := by decide +kernel
theorem dX12_done_175 : decode cX12_done 175 = .ok (.iconst 0, 1) := by decide +kernel
theorem dX12_done_176 : decode cX12_done 176 = .ok (.ireturn, 1) := by decide +kernel
theorem dX12_done_177 : decode cX12_done 177 = .ok (.iload_n 1, 1) := by decide +kernel
theorem dX12_done_178 : decode cX12_done 178 = .ok (.iload_n 2, 1) := by decide +kernel
theorem dX12_done_179 : decode cX12_done 179 = .ok (.if_icmp .ne 7, 3) := by decide +kernel
theorem dX12_done_182 : decode cX12_done 182 = .ok (.iconst 1, 1) := by decide +kernel
theorem dX12_done_183 : decode cX12_done 183 = .ok (.goto 4, 3) := by decide +kernel
theorem dX12_done_186 : decode cX12_done 186 = .ok (.iconst 0, 1) := by decide +kernel
theorem dX12_done_187 : decode cX12_done 187 = .ok (.ireturn, 1) := by decide +kernel
theorem dX12_done_188 : decode cX12_done 188 = .ok (.iload_n 1, 1) := by decide +kernel
theorem dX12_done_189 : decode cX12_done 189 = .ok (.iload_n 2, 1) := by decide +kernel
theorem dX12_done_190 : decode cX12_done 190 = .ok (.iand, 1) := by decide +kernel
theorem dX12_done_191 : decode cX12_done 191 = .ok (.ireturn, 1) := by decide +kernel
theorem dX12_done_192 : decode cX12_done 192 = .ok (.iload_n 1, 1) := by decide +kernel
theorem dX12_done_193 : decode cX12_done 193 = .ok (.iload_n 2, 1) := by decide +kernel
theorem dX12_done_194 : decode cX12_done 194 = .ok (.ior, 1) := by decide +kernel
theorem dX12_done_195 : decode cX12_done 195 = .ok (.ireturn, 1) := by decide +kernel
theorem dX12_tells_0 : decode cX12_tells 0 = .ok (.aload_n 0, 1) := by decide +kernel
theorem dX12_tells_1 : decode cX12_tells 1 = .ok (.getfield 184, 3) := by decide +kernel
theorem dX12_tells_4 : decode cX12_tells 4 = .ok (.iconst (-1), 1) := by decide +kernel
theorem dX12_tells_5 : decode cX12_tells 5 = .ok (.if_icmp .eq 24, 3) := by decide +kernel
theorem dX12_tells_8 : decode cX12_tells 8 = .ok (.aload_n 0, 1) := by decide +kernel
theorem dX12_tells_9 : decode cX12_tells 9 = .ok (.getfield 128, 3) := by decide +kernel
theorem dX12_tells_12 : decode cX12_tells 12 = .ok (.aload_n 0, 1) := by decide +kernel
theorem dX12_tells_13 : decode cX12_tells 13 = .ok (.getfield 184, 3) := by decide +kernel
theorem dX12_tells_16 : decode cX12_tells 16 = .ok (.aaload, 1) := by decide +kernel
theorem dX12_tells_17 : decode cX12_tells 17 = .ok (.iload_n 1, 1) := by decide +kernel
theorem dX12_tells_18 : decode cX12_tells 18 = .ok (.iaload, 1) := by decide +kernel
theorem dX12_tells_19 : decode cX12_tells 19 = .ok (.ifCond .le 10, 3) := by decide +kernel
theorem dX12_tells_22 : decode cX12_tells 22 = .ok (.aload_n 0, 1) := by decide +kernel
theorem dX12_tells_23 : decode cX12_tells 23 = .ok (.getfield 184, 3) := by decide +kernel
theorem dX12_tells_26 : decode cX12_tells 26 = .ok (.goto 12, 3) := by decide +kernel
theorem dX12_tells_29 : decode cX12_tells 29 = .ok (.aload_n 0, 1) := by decide +kernel
theorem dX12_tells_30 : decode cX12_tells 30 = .ok (.iload_n 1, 1) := by decide +kernel
theorem dX12_tells_31 : decode cX12_tells 31 = .ok (.aload_n 0, 1) := by decide +kernel
theorem dX12_tells_32 : decode cX12_tells 32 = .ok (.getfield 275, 3) := by decide +kernel
theorem dX12_tells_35 : decode cX12_tells 35 = .ok (.invokevirtual 443, 3) := by decide +kernel
theorem dX12_tells_38 : decode cX12_tells 38 = .ok (.istore_n 2, 1) := by decide +kernel
theorem dX12_tells_39 : decode cX12_tells 39 = .ok (.iload_n 2, 1) := by decide +kernel
theorem dX12_tells_40 : decode cX12_tells 40 = .ok (.iconst (-1), 1) := by decide +kernel
theorem dX12_tells_41 : decode cX12_tells 41 = .ok (.if_icmp .ne 24, 3) := by decide +kernel
theorem dX12_tells_44 : decode cX12_tells 44 = .ok (.iload_n 1, 1) := by decide +kernel
theorem dX12_tells_45 : decode cX12_tells 45 = .ok (.iconst 2, 1) := by decide +kernel
theorem dX12_tells_46 : decode cX12_tells 46 = .ok (.if_icmp .ne 8, 3) := by decide +kernel
theorem dX12_tells_49 : decode cX12_tells 49 = .ok (.bipush 30, 2) := by decide +kernel
theorem dX12_tells_51 : decode cX12_tells 51 = .ok (.goto 13, 3) := by decide +kernel
theorem dX12_tells_54 : decode cX12_tells 54 = .ok (.iload_n 1, 1) := by decide +kernel
theorem dX12_tells_55 : decode cX12_tells 55 = .ok (.iconst 4, 1) := by decide +kernel
theorem dX12_tells_56 : decode cX12_tells 56 = .ok (.if_icmp .ne 7, 3) := by decide +kernel
theorem dX12_tells_59 : decode cX12_tells 59 = .ok (.iconst 1, 1) := by decide +kernel
theorem dX12_tells_60 : decode cX12_tells 60 = .ok (.goto 4, 3) := by decide +kernel
theorem dX12_tells_63 : decode cX12_tells 63 = .ok (.iconst 0, 1) := by decide +kernel
theorem dX12_tells_64 : decode cX12_tells 64 = .ok (.ireturn, 1) := by decide +kernel
theorem dX12_tells_65 : decode cX12_tells 65 = .ok (.iconst 0, 1) := by decide +kernel
theorem dX12_tells_66 : decode cX12_tells 66 = .ok (.istore_n 3, 1) := by decide +kernel
theorem dX12_tells_67 : decode cX12_tells 67 = .ok (.iconst 0, 1) := by decide +kernel
theorem dX12_tells_68 : decode cX12_tells 68 = .ok (.istore 4, 2) := by decide +kernel
theorem dX12_tells_70 : decode cX12_tells 70 = .ok (.iload 4, 2) := by decide +kernel
theorem dX12_tells_72 : decode cX12_tells 72 = .ok (.aload_n 0, 1) := by decide +kernel
theorem dX12_tells_73 : decode cX12_tells 73 = .ok (.getfield 128, 3) := by decide +kernel
theorem dX12_tells_76 : decode cX12_tells 76 = .ok (.iload_n 2, 1) := by decide +kernel
theorem dX12_tells_77 : decode cX12_tells 77 = .ok (.aaload, 1) := by decide +kernel
theorem dX12_tells_78 : decode cX12_tells 78 = .ok (.iload_n 1, 1) := by decide +kernel
theorem dX12_tells_79 : decode cX12_tells 79 = .ok (.iaload, 1) := by decide +kernel
theorem dX12_tells_80 : decode cX12_tells 80 = .ok (.if_icmp .ge 146, 3) := by decide +kernel
theorem dX12_tells_83 : decode cX12_tells 83 = .ok (.aload_n 0, 1) := by decide +kernel
theorem dX12_tells_84 : decode cX12_tells 84 = .ok (.getfield 125, 3) := by decide +kernel
theorem dX12_tells_87 : decode cX12_tells 87 = .ok (.iload_n 2, 1) := by decide +kernel
theorem dX12_tells_88 : decode cX12_tells 88 = .ok (.aaload, 1) := by decide +kernel
theorem dX12_tells_89 : decode cX12_tells 89 = .ok (.iload_n 1, 1) := by decide +kernel
theorem dX12_tells_90 : decode cX12_tells 90 = .ok (.aaload, 1) := by decide +kernel
theorem dX12_tells_91 : decode cX12_tells 91 = .ok (.iconst 2, 1) := by decide +kernel
theorem dX12_tells_92 : decode cX12_tells 92 = .ok (.iload 4, 2) := by decide +kernel
theorem dX12_tells_94 : decode cX12_tells 94 = .ok (.imul, 1) := by decide +kernel
theorem dX12_tells_95 : decode cX12_tells 95 = .ok (.iaload, 1) := by decide +kernel
theorem dX12_tells_96 : decode cX12_tells 96 = .ok (.istore 5, 2) := by decide +kernel
theorem dX12_tells_98 : decode cX12_tells 98 = .ok (.aload_n 0, 1) := by decide +kernel
theorem dX12_tells_99 : decode cX12_tells 99 = .ok (.getfield 125, 3) := by decide +kernel
theorem dX12_tells_102 : decode cX12_tells 102 = .ok (.iload_n 2, 1) := by decide +kernel
theorem dX12_tells_103 : decode cX12_tells 103 = .ok (.aaload, 1) := by decide +kernel
theorem dX12_tells_104 : decode cX12_tells 104 = .ok (.iload_n 1, 1) := by decide +kernel
theorem dX12_tells_105 : decode cX12_tells 105 = .ok (.aaload, 1) := by decide +kernel
theorem dX12_tells_106 : decode cX12_tells 106 = .ok (.iconst 2, 1) := by decide +kernel
theorem dX12_tells_107 : decode cX12_tells 107 = .ok (.iload 4, 2) := by decide +kernel
theorem dX12_tells_109 : decode cX12_tells 109 = .ok (.imul, 1) := by decide +kernel
theorem dX12_tells_110 : decode cX12_tells 110 = .ok (.iconst 1, 1) := by decide +kernel
theorem dX12_tells_111 : decode cX12_tells 111 = .ok (.iadd, 1) := by decide +kernel
theorem dX12_tells_112 : decode cX12_tells 112 = .ok (.iaload, 1) := by decide +kernel
theorem dX12_tells_113 : decode cX12_tells 113 = .ok (.istore 6, 2) := by decide +kernel
theorem dX12_tells_115 : decode cX12_tells 115 = .ok (.iload 5, 2) := by decide +kernel
theorem dX12_tells_117 : decode cX12_tells 117 = .ok (.bipush 110, 2) := by decide +kernel
theorem dX12_tells_119 : decode cX12_tells 119 = .ok (.if_icmp .eq 10, 3) := by decide +kernel
theorem dX12_tells_122 : decode cX12_tells 122 = .ok (.iload 5, 2) := by decide +kernel
theorem dX12_tells_124 : decode cX12_tells 124 = .ok (.bipush 118, 2) := by decide +kernel
theorem dX12_tells_126 : decode cX12_tells 126 = .ok (.if_icmp .ne 34, 3) := by decide +kernel
theorem dX12_tells_129 : decode cX12_tells 129 = .ok (.aload_n 0, 1) := by decide +kernel
theorem dX12_tells_130 : decode cX12_tells 130 = .ok (.getfield 191, 3) := by decide +kernel
theorem dX12_tells_133 : decode cX12_tells 133 = .ok (.iload_n 3, 1) := by decide +kernel
theorem dX12_tells_134 : decode cX12_tells 134 = .ok (.iload 5, 2) := by decide +kernel
theorem dX12_tells_136 : decode cX12_tells 136 = .ok (.bipush 110, 2) := by decide +kernel
theorem dX12_tells_138 : decode cX12_tells 138 = .ok (.if_icmp .ne 8, 3) := by decide +kernel
theorem dX12_tells_141 : decode cX12_tells 141 = .ok (.iload 6, 2) := by decide +kernel
theorem dX12_tells_143 : decode cX12_tells 143 = .ok (.goto 10, 3) := by decide +kernel
theorem dX12_tells_146 : decode cX12_tells 146 = .ok (.aload_n 0, 1) := by decide +kernel
theorem dX12_tells_147 : decode cX12_tells 147 = .ok (.getfield 188, 3) := by decide +kernel
theorem dX12_tells_150 : decode cX12_tells 150 = .ok (.iload 6, 2) := by decide +kernel
theorem dX12_tells_152 : decode cX12_tells 152 = .ok (.iaload, 1) := by decide +kernel
theorem dX12_tells_153 : decode cX12_tells 153 = .ok (.iastore, 1) := by decide +kernel
theorem dX12_tells_154 : decode cX12_tells 154 = .ok (.iinc 3 1, 3) := by decide +kernel
theorem dX12_tells_157 : decode cX12_tells 157 = .ok (.goto 63, 3) := by decide +kernel
theorem dX12_tells_160 : decode cX12_tells 160 = .ok (.iload 5, 2) := by decide +kernel
theorem dX12_tells_162 : decode cX12_tells 162 = .ok (.bipush 33, 2) := by decide +kernel
theorem dX12_tells_164 : decode cX12_tells 164 = .ok (.if_icmp .ne 24, 3) := by decide +kernel
theorem dX12_tells_167 : decode cX12_tells 167 = .ok (.aload_n 0, 1) := by decide +kernel
theorem dX12_tells_168 : decode cX12_tells 168 = .ok (.getfield 191, 3) := by decide +kernel
theorem dX12_tells_171 : decode cX12_tells 171 = .ok (.iload_n 3, 1) := by decide +kernel
theorem dX12_tells_172 : decode cX12_tells 172 = .ok (.iconst 1, 1) := by decide +kernel
theorem dX12_tells_173 : decode cX12_tells 173 = .ok (.isub, 1) := by decide +kernel
theorem dX12_tells_174 : decode cX12_tells 174 = .ok (.iconst 1, 1) := by decide +kernel
theorem dX12_tells_175 : decode cX12_tells 175 = .ok (.aload_n 0, 1) := by decide +kernel
theorem dX12_tells_176 : decode cX12_tells 176 = .ok (.getfield 191, 3) := by decide +kernel
theorem dX12_tells_179 : decode cX12_tells 179 = .ok (.iload_n 3, 1) := by decide +kernel
theorem dX12_tells_180 : decode cX12_tells 180 = .ok (.iconst 1, 1) := by decide +kernel
theorem dX12_tells_181 : decode cX12_tells 181 = .ok (.isub, 1) := by decide +kernel
theorem dX12_tells_182 : decode cX12_tells 182 = .ok (.iaload, 1) := by decide +kernel
theorem dX12_tells_183 : decode cX12_tells 183 = .ok (.isub, 1) := by decide +kernel
theorem dX12_tells_184 : decode cX12_tells 184 = .ok (.iastore, 1) := by decide +kernel
theorem dX12_tells_185 : decode cX12_tells 185 = .ok (.goto 35, 3) := by decide +kernel
theorem dX12_tells_188 : decode cX12_tells 188 = .ok (.aload_n 0, 1) := by decide +kernel
theorem dX12_tells_189 : decode cX12_tells 189 = .ok (.getfield 191, 3) := by decide +kernel
theorem dX12_tells_192 : decode cX12_tells 192 = .ok (.iload_n 3, 1) := by decide +kernel
theorem dX12_tells_193 : decode cX12_tells 193 = .ok (.iconst 2, 1) := by decide +kernel
theorem dX12_tells_194 : decode cX12_tells 194 = .ok (.isub, 1) := by decide +kernel
theorem dX12_tells_195 : decode cX12_tells 195 = .ok (.iload 5, 2) := by decide +kernel
theorem dX12_tells_197 : decode cX12_tells 197 = .ok (.aload_n 0, 1) := by decide +kernel
theorem dX12_tells_198 : decode cX12_tells 198 = .ok (.getfield 191, 3) := by decide +kernel
theorem dX12_tells_201 : decode cX12_tells 201 = .ok (.iload_n 3, 1) := by decide +kernel
theorem dX12_tells_202 : decode cX12_tells 202 = .ok (.iconst 2, 1) := by decide +kernel
theorem dX12_tells_203 : decode cX12_tells 203 = .ok (.isub, 1) := by decide +kernel
theorem dX12_tells_204 : decode cX12_tells 204 = .ok (.iaload, 1) := by decide +kernel
theorem dX12_tells_205 : decode cX12_tells 205 = .ok (.aload_n 0, 1) := by decide +kernel
theorem dX12_tells_206 : decode cX12_tells 206 = .ok (.getfield 191, 3) := by decide +kernel
theorem dX12_tells_209 : decode cX12_tells 209 = .ok (.iload_n 3, 1) := by decide +kernel
theorem dX12_tells_210 : decode cX12_tells 210 = .ok (.iconst 1, 1) := by decide +kernel
theorem dX12_tells_211 : decode cX12_tells 211 = .ok (.isub, 1) := by decide +kernel
theorem dX12_tells_212 : decode cX12_tells 212 = .ok (.iaload, 1) := by decide +kernel
theorem dX12_tells_213 : decode cX12_tells 213 = .ok (.invokestatic 454, 3) := by decide +kernel
theorem dX12_tells_216 : decode cX12_tells 216 = .ok (.iastore, 1) := by decide +kernel
theorem dX12_tells_217 : decode cX12_tells 217 = .ok (.iinc 3 (-1), 3) := by decide +kernel
theorem dX12_tells_220 : decode cX12_tells 220 = .ok (.iinc 4 1, 3) := by decide +kernel
theorem dX12_tells_223 : decode cX12_tells 223 = .ok (.goto (-153), 3) := by decide +kernel
theorem dX12_tells_226 : decode cX12_tells 226 = .ok (.aload_n 0, 1) := by decide +kernel
theorem dX12_tells_227 : decode cX12_tells 227 = .ok (.getfield 191, 3) := by decide +kernel
theorem dX12_tells_230 : decode cX12_tells 230 = .ok (.iconst 0, 1) := by decide +kernel
theorem dX12_tells_231 : decode cX12_tells 231 = .ok (.iaload, 1) := by decide +kernel
theorem dX12_tells_232 : decode cX12_tells 232 = .ok (.ireturn, 1) := by decide +kernel
theorem dX12_pupilsIn_0 : decode cX12_pupilsIn 0 = .ok (.iconst 0, 1) := by decide +kernel
theorem dX12_pupilsIn_1 : decode cX12_pupilsIn 1 = .ok (.istore_n 3, 1) := by decide +kernel
theorem dX12_pupilsIn_2 : decode cX12_pupilsIn 2 = .ok (.iconst 0, 1) := by decide +kernel
theorem dX12_pupilsIn_3 : decode cX12_pupilsIn 3 = .ok (.istore 4, 2) := by decide +kernel
theorem dX12_pupilsIn_5 : decode cX12_pupilsIn 5 = .ok (.iload 4, 2) := by decide +kernel
theorem dX12_pupilsIn_7 : decode cX12_pupilsIn 7 = .ok (.aload_n 0, 1) := by decide +kernel
theorem dX12_pupilsIn_8 : decode cX12_pupilsIn 8 = .ok (.getfield 254, 3) := by decide +kernel
theorem dX12_pupilsIn_11 : decode cX12_pupilsIn 11 = .ok (.if_icmp .ge 39, 3) := by decide +kernel
theorem dX12_pupilsIn_14 : decode cX12_pupilsIn 14 = .ok (.iload_n 3, 1) := by decide +kernel
theorem dX12_pupilsIn_15 : decode cX12_pupilsIn 15 = .ok (.iload 4, 2) := by decide +kernel
theorem dX12_pupilsIn_17 : decode cX12_pupilsIn 17 = .ok (.iload_n 2, 1) := by decide +kernel
theorem dX12_pupilsIn_18 : decode cX12_pupilsIn 18 = .ok (.if_icmp .eq 23, 3) := by decide +kernel
theorem dX12_pupilsIn_21 : decode cX12_pupilsIn 21 = .ok (.aload_n 0, 1) := by decide +kernel
theorem dX12_pupilsIn_22 : decode cX12_pupilsIn 22 = .ok (.iload 4, 2) := by decide +kernel
theorem dX12_pupilsIn_24 : decode cX12_pupilsIn 24 = .ok (.invokevirtual 458, 3) := by decide +kernel
theorem dX12_pupilsIn_27 : decode cX12_pupilsIn 27 = .ok (.iload_n 1, 1) := by decide +kernel
theorem dX12_pupilsIn_28 : decode cX12_pupilsIn 28 = .ok (.if_icmp .ne 13, 3) := by decide +kernel
theorem dX12_pupilsIn_31 : decode cX12_pupilsIn 31 = .ok (.aload_n 0, 1) := by decide +kernel
theorem dX12_pupilsIn_32 : decode cX12_pupilsIn 32 = .ok (.getfield 51, 3) := by decide +kernel
theorem dX12_pupilsIn_35 : decode cX12_pupilsIn 35 = .ok (.iload 4, 2) := by decide +kernel
theorem dX12_pupilsIn_37 : decode cX12_pupilsIn 37 = .ok (.iaload, 1) := by decide +kernel
theorem dX12_pupilsIn_38 : decode cX12_pupilsIn 38 = .ok (.goto 4, 3) := by decide +kernel
theorem dX12_pupilsIn_41 : decode cX12_pupilsIn 41 = .ok (.iconst 0, 1) := by decide +kernel
theorem dX12_pupilsIn_42 : decode cX12_pupilsIn 42 = .ok (.iadd, 1) := by decide +kernel
theorem dX12_pupilsIn_43 : decode cX12_pupilsIn 43 = .ok (.istore_n 3, 1) := by decide +kernel
theorem dX12_pupilsIn_44 : decode cX12_pupilsIn 44 = .ok (.iinc 4 1, 3) := by decide +kernel
theorem dX12_pupilsIn_47 : decode cX12_pupilsIn 47 = .ok (.goto (-42), 3) := by decide +kernel
theorem dX12_pupilsIn_50 : decode cX12_pupilsIn 50 = .ok (.iload_n 3, 1) := by decide +kernel
theorem dX12_pupilsIn_51 : decode cX12_pupilsIn 51 = .ok (.ireturn, 1) := by decide +kernel
theorem dX12_headsIn_0 : decode cX12_headsIn 0 = .ok (.iconst 0, 1) := by decide +kernel
theorem dX12_headsIn_1 : decode cX12_headsIn 1 = .ok (.istore_n 2, 1) := by decide +kernel
theorem dX12_headsIn_2 : decode cX12_headsIn 2 = .ok (.iconst 0, 1) := by decide +kernel
theorem dX12_headsIn_3 : decode cX12_headsIn 3 = .ok (.istore_n 3, 1) := by decide +kernel
theorem dX12_headsIn_4 : decode cX12_headsIn 4 = .ok (.iload_n 3, 1) := by decide +kernel
theorem dX12_headsIn_5 : decode cX12_headsIn 5 = .ok (.aload_n 0, 1) := by decide +kernel
theorem dX12_headsIn_6 : decode cX12_headsIn 6 = .ok (.getfield 254, 3) := by decide +kernel
theorem dX12_headsIn_9 : decode cX12_headsIn 9 = .ok (.if_icmp .ge 31, 3) := by decide +kernel
theorem dX12_headsIn_12 : decode cX12_headsIn 12 = .ok (.iload_n 2, 1) := by decide +kernel
theorem dX12_headsIn_13 : decode cX12_headsIn 13 = .ok (.aload_n 0, 1) := by decide +kernel
theorem dX12_headsIn_14 : decode cX12_headsIn 14 = .ok (.iload_n 3, 1) := by decide +kernel
theorem dX12_headsIn_15 : decode cX12_headsIn 15 = .ok (.invokevirtual 458, 3) := by decide +kernel
theorem dX12_headsIn_18 : decode cX12_headsIn 18 = .ok (.iload_n 1, 1) := by decide +kernel
theorem dX12_headsIn_19 : decode cX12_headsIn 19 = .ok (.if_icmp .ne 12, 3) := by decide +kernel
theorem dX12_headsIn_22 : decode cX12_headsIn 22 = .ok (.aload_n 0, 1) := by decide +kernel
theorem dX12_headsIn_23 : decode cX12_headsIn 23 = .ok (.getfield 48, 3) := by decide +kernel
theorem dX12_headsIn_26 : decode cX12_headsIn 26 = .ok (.iload_n 3, 1) := by decide +kernel
theorem dX12_headsIn_27 : decode cX12_headsIn 27 = .ok (.iaload, 1) := by decide +kernel
theorem dX12_headsIn_28 : decode cX12_headsIn 28 = .ok (.goto 4, 3) := by decide +kernel
theorem dX12_headsIn_31 : decode cX12_headsIn 31 = .ok (.iconst 0, 1) := by decide +kernel
theorem dX12_headsIn_32 : decode cX12_headsIn 32 = .ok (.iadd, 1) := by decide +kernel
theorem dX12_headsIn_33 : decode cX12_headsIn 33 = .ok (.istore_n 2, 1) := by decide +kernel
theorem dX12_headsIn_34 : decode cX12_headsIn 34 = .ok (.iinc 3 1, 3) := by decide +kernel
theorem dX12_headsIn_37 : decode cX12_headsIn 37 = .ok (.goto (-33), 3) := by decide +kernel
theorem dX12_headsIn_40 : decode cX12_headsIn 40 = .ok (.iload_n 2, 1) := by decide +kernel
theorem dX12_headsIn_41 : decode cX12_headsIn 41 = .ok (.ireturn, 1) := by decide +kernel
theorem dX12_roomsIn_0 : decode cX12_roomsIn 0 = .ok (.iconst 0, 1) := by decide +kernel
theorem dX12_roomsIn_1 : decode cX12_roomsIn 1 = .ok (.istore_n 2, 1) := by decide +kernel
theorem dX12_roomsIn_2 : decode cX12_roomsIn 2 = .ok (.iconst 0, 1) := by decide +kernel
theorem dX12_roomsIn_3 : decode cX12_roomsIn 3 = .ok (.istore_n 3, 1) := by decide +kernel
theorem dX12_roomsIn_4 : decode cX12_roomsIn 4 = .ok (.iload_n 3, 1) := by decide +kernel
theorem dX12_roomsIn_5 : decode cX12_roomsIn 5 = .ok (.aload_n 0, 1) := by decide +kernel
theorem dX12_roomsIn_6 : decode cX12_roomsIn 6 = .ok (.getfield 251, 3) := by decide +kernel
theorem dX12_roomsIn_9 : decode cX12_roomsIn 9 = .ok (.if_icmp .ge 32, 3) := by decide +kernel
theorem dX12_roomsIn_12 : decode cX12_roomsIn 12 = .ok (.iload_n 2, 1) := by decide +kernel
theorem dX12_roomsIn_13 : decode cX12_roomsIn 13 = .ok (.aload_n 0, 1) := by decide +kernel
theorem dX12_roomsIn_14 : decode cX12_roomsIn 14 = .ok (.getfield 30, 3) := by decide +kernel
theorem dX12_roomsIn_17 : decode cX12_roomsIn 17 = .ok (.iload_n 3, 1) := by decide +kernel
theorem dX12_roomsIn_18 : decode cX12_roomsIn 18 = .ok (.iaload, 1) := by decide +kernel
theorem dX12_roomsIn_19 : decode cX12_roomsIn 19 = .ok (.iload_n 1, 1) := by decide +kernel
theorem dX12_roomsIn_20 : decode cX12_roomsIn 20 = .ok (.if_icmp .ne 12, 3) := by decide +kernel
theorem dX12_roomsIn_23 : decode cX12_roomsIn 23 = .ok (.aload_n 0, 1) := by decide +kernel
theorem dX12_roomsIn_24 : decode cX12_roomsIn 24 = .ok (.getfield 33, 3) := by decide +kernel
theorem dX12_roomsIn_27 : decode cX12_roomsIn 27 = .ok (.iload_n 3, 1) := by decide +kernel
theorem dX12_roomsIn_28 : decode cX12_roomsIn 28 = .ok (.iaload, 1) := by decide +kernel
theorem dX12_roomsIn_29 : decode cX12_roomsIn 29 = .ok (.goto 4, 3) := by decide +kernel
theorem dX12_roomsIn_32 : decode cX12_roomsIn 32 = .ok (.iconst 0, 1) := by decide +kernel
theorem dX12_roomsIn_33 : decode cX12_roomsIn 33 = .ok (.iadd, 1) := by decide +kernel
theorem dX12_roomsIn_34 : decode cX12_roomsIn 34 = .ok (.istore_n 2, 1) := by decide +kernel
theorem dX12_roomsIn_35 : decode cX12_roomsIn 35 = .ok (.iinc 3 1, 3) := by decide +kernel
theorem dX12_roomsIn_38 : decode cX12_roomsIn 38 = .ok (.goto (-34), 3) := by decide +kernel
theorem dX12_roomsIn_41 : decode cX12_roomsIn 41 = .ok (.iload_n 2, 1) := by decide +kernel
theorem dX12_roomsIn_42 : decode cX12_roomsIn 42 = .ok (.ireturn, 1) := by decide +kernel
theorem dX12_headsThere_0 : decode cX12_headsThere 0 = .ok (.iconst 0, 1) := by decide +kernel
theorem dX12_headsThere_1 : decode cX12_headsThere 1 = .ok (.istore_n 1, 1) := by decide +kernel
theorem dX12_headsThere_2 : decode cX12_headsThere 2 = .ok (.iconst 0, 1) := by decide +kernel
theorem dX12_headsThere_3 : decode cX12_headsThere 3 = .ok (.istore_n 2, 1) := by decide +kernel
theorem dX12_headsThere_4 : decode cX12_headsThere 4 = .ok (.iload_n 2, 1) := by decide +kernel
theorem dX12_headsThere_5 : decode cX12_headsThere 5 = .ok (.aload_n 0, 1) := by decide +kernel
theorem dX12_headsThere_6 : decode cX12_headsThere 6 = .ok (.getfield 254, 3) := by decide +kernel
theorem dX12_headsThere_9 : decode cX12_headsThere 9 = .ok (.if_icmp .ge 32, 3) := by decide +kernel
theorem dX12_headsThere_12 : decode cX12_headsThere 12 = .ok (.iload_n 1, 1) := by decide +kernel
theorem dX12_headsThere_13 : decode cX12_headsThere 13 = .ok (.aload_n 0, 1) := by decide +kernel
theorem dX12_headsThere_14 : decode cX12_headsThere 14 = .ok (.getfield 66, 3) := by decide +kernel
theorem dX12_headsThere_17 : decode cX12_headsThere 17 = .ok (.iload_n 2, 1) := by decide +kernel
theorem dX12_headsThere_18 : decode cX12_headsThere 18 = .ok (.iaload, 1) := by decide +kernel
theorem dX12_headsThere_19 : decode cX12_headsThere 19 = .ok (.iconst 2, 1) := by decide +kernel
theorem dX12_headsThere_20 : decode cX12_headsThere 20 = .ok (.if_icmp .ne 7, 3) := by decide +kernel
theorem dX12_headsThere_23 : decode cX12_headsThere 23 = .ok (.iconst 0, 1) := by decide +kernel
theorem dX12_headsThere_24 : decode cX12_headsThere 24 = .ok (.goto 9, 3) := by decide +kernel
theorem dX12_headsThere_27 : decode cX12_headsThere 27 = .ok (.aload_n 0, 1) := by decide +kernel
theorem dX12_headsThere_28 : decode cX12_headsThere 28 = .ok (.getfield 48, 3) := by decide +kernel
theorem dX12_headsThere_31 : decode cX12_headsThere 31 = .ok (.iload_n 2, 1) := by decide +kernel
theorem dX12_headsThere_32 : decode cX12_headsThere 32 = .ok (.iaload, 1) := by decide +kernel
theorem dX12_headsThere_33 : decode cX12_headsThere 33 = .ok (.iadd, 1) := by decide +kernel
theorem dX12_headsThere_34 : decode cX12_headsThere 34 = .ok (.istore_n 1, 1) := by decide +kernel
theorem dX12_headsThere_35 : decode cX12_headsThere 35 = .ok (.iinc 2 1, 3) := by decide +kernel
theorem dX12_headsThere_38 : decode cX12_headsThere 38 = .ok (.goto (-34), 3) := by decide +kernel
theorem dX12_headsThere_41 : decode cX12_headsThere 41 = .ok (.iload_n 1, 1) := by decide +kernel
theorem dX12_headsThere_42 : decode cX12_headsThere 42 = .ok (.ireturn, 1) := by decide +kernel
theorem dX12_clears_0 : decode cX12_clears 0 = .ok (.iconst 0, 1) := by decide +kernel
theorem dX12_clears_1 : decode cX12_clears 1 = .ok (.istore_n 1, 1) := by decide +kernel
theorem dX12_clears_2 : decode cX12_clears 2 = .ok (.iload_n 1, 1) := by decide +kernel
theorem dX12_clears_3 : decode cX12_clears 3 = .ok (.bipush 18, 2) := by decide +kernel
theorem dX12_clears_5 : decode cX12_clears 5 = .ok (.if_icmp .ge 16, 3) := by decide +kernel
theorem dX12_clears_8 : decode cX12_clears 8 = .ok (.aload_n 0, 1) := by decide +kernel
theorem dX12_clears_9 : decode cX12_clears 9 = .ok (.getfield 188, 3) := by decide +kernel
theorem dX12_clears_12 : decode cX12_clears 12 = .ok (.iload_n 1, 1) := by decide +kernel
theorem dX12_clears_13 : decode cX12_clears 13 = .ok (.iconst 0, 1) := by decide +kernel
theorem dX12_clears_14 : decode cX12_clears 14 = .ok (.iastore, 1) := by decide +kernel
theorem dX12_clears_15 : decode cX12_clears 15 = .ok (.iinc 1 1, 3) := by decide +kernel
theorem dX12_clears_18 : decode cX12_clears 18 = .ok (.goto (-16), 3) := by decide +kernel
theorem dX12_clears_21 : decode cX12_clears 21 = .ok (.aload_n 0, 1) := by decide +kernel
theorem dX12_clears_22 : decode cX12_clears 22 = .ok (.getfield 188, 3) := by decide +kernel
theorem dX12_clears_25 : decode cX12_clears 25 = .ok (.bipush 14, 2) := by decide +kernel
theorem dX12_clears_27 : decode cX12_clears 27 = .ok (.aload_n 0, 1) := by decide +kernel
theorem dX12_clears_28 : decode cX12_clears 28 = .ok (.invokevirtual 461, 3) := by decide +kernel
theorem dX12_clears_31 : decode cX12_clears 31 = .ok (.iastore, 1) := by decide +kernel
theorem dX12_clears_32 : decode cX12_clears 32 = .ok (.aload_n 0, 1) := by decide +kernel
theorem dX12_clears_33 : decode cX12_clears 33 = .ok (.getfield 188, 3) := by decide +kernel
theorem dX12_clears_36 : decode cX12_clears 36 = .ok (.bipush 16, 2) := by decide +kernel
theorem dX12_clears_38 : decode cX12_clears 38 = .ok (.aload_n 0, 1) := by decide +kernel
theorem dX12_clears_39 : decode cX12_clears 39 = .ok (.getfield 275, 3) := by decide +kernel
theorem dX12_clears_42 : decode cX12_clears 42 = .ok (.iastore, 1) := by decide +kernel
theorem dX12_clears_43 : decode cX12_clears 43 = .ok (.return_, 1) := by decide +kernel
theorem dX12_asksOf_0 : decode cX12_asksOf 0 = .ok (.aload_n 0, 1) := by decide +kernel
theorem dX12_asksOf_1 : decode cX12_asksOf 1 = .ok (.invokevirtual 464, 3) := by decide +kernel
theorem dX12_asksOf_4 : decode cX12_asksOf 4 = .ok (.aload_n 0, 1) := by decide +kernel
theorem dX12_asksOf_5 : decode cX12_asksOf 5 = .ok (.getfield 188, 3) := by decide +kernel
theorem dX12_asksOf_8 : decode cX12_asksOf 8 = .ok (.iconst 0, 1) := by decide +kernel
theorem dX12_asksOf_9 : decode cX12_asksOf 9 = .ok (.aload_n 0, 1) := by decide +kernel
theorem dX12_asksOf_10 : decode cX12_asksOf 10 = .ok (.getfield 48, 3) := by decide +kernel
theorem dX12_asksOf_13 : decode cX12_asksOf 13 = .ok (.iload_n 1, 1) := by decide +kernel
theorem dX12_asksOf_14 : decode cX12_asksOf 14 = .ok (.iaload, 1) := by decide +kernel
theorem dX12_asksOf_15 : decode cX12_asksOf 15 = .ok (.iastore, 1) := by decide +kernel
theorem dX12_asksOf_16 : decode cX12_asksOf 16 = .ok (.aload_n 0, 1) := by decide +kernel
theorem dX12_asksOf_17 : decode cX12_asksOf 17 = .ok (.getfield 188, 3) := by decide +kernel
theorem dX12_asksOf_20 : decode cX12_asksOf 20 = .ok (.iconst 1, 1) := by decide +kernel
theorem dX12_asksOf_21 : decode cX12_asksOf 21 = .ok (.aload_n 0, 1) := by decide +kernel
theorem dX12_asksOf_22 : decode cX12_asksOf 22 = .ok (.getfield 51, 3) := by decide +kernel
theorem dX12_asksOf_25 : decode cX12_asksOf 25 = .ok (.iload_n 1, 1) := by decide +kernel
theorem dX12_asksOf_26 : decode cX12_asksOf 26 = .ok (.iaload, 1) := by decide +kernel
theorem dX12_asksOf_27 : decode cX12_asksOf 27 = .ok (.iastore, 1) := by decide +kernel
theorem dX12_asksOf_28 : decode cX12_asksOf 28 = .ok (.aload_n 0, 1) := by decide +kernel
theorem dX12_asksOf_29 : decode cX12_asksOf 29 = .ok (.getfield 188, 3) := by decide +kernel
theorem dX12_asksOf_32 : decode cX12_asksOf 32 = .ok (.iconst 2, 1) := by decide +kernel
theorem dX12_asksOf_33 : decode cX12_asksOf 33 = .ok (.aload_n 0, 1) := by decide +kernel
theorem dX12_asksOf_34 : decode cX12_asksOf 34 = .ok (.getfield 54, 3) := by decide +kernel
theorem dX12_asksOf_37 : decode cX12_asksOf 37 = .ok (.iload_n 1, 1) := by decide +kernel
theorem dX12_asksOf_38 : decode cX12_asksOf 38 = .ok (.iaload, 1) := by decide +kernel
theorem dX12_asksOf_39 : decode cX12_asksOf 39 = .ok (.iastore, 1) := by decide +kernel
theorem dX12_asksOf_40 : decode cX12_asksOf 40 = .ok (.aload_n 0, 1) := by decide +kernel
theorem dX12_asksOf_41 : decode cX12_asksOf 41 = .ok (.getfield 188, 3) := by decide +kernel
theorem dX12_asksOf_44 : decode cX12_asksOf 44 = .ok (.iconst 3, 1) := by decide +kernel
theorem dX12_asksOf_45 : decode cX12_asksOf 45 = .ok (.aload_n 0, 1) := by decide +kernel
theorem dX12_asksOf_46 : decode cX12_asksOf 46 = .ok (.getfield 57, 3) := by decide +kernel
theorem dX12_asksOf_49 : decode cX12_asksOf 49 = .ok (.iload_n 1, 1) := by decide +kernel
theorem dX12_asksOf_50 : decode cX12_asksOf 50 = .ok (.iaload, 1) := by decide +kernel
theorem dX12_asksOf_51 : decode cX12_asksOf 51 = .ok (.iastore, 1) := by decide +kernel
theorem dX12_asksOf_52 : decode cX12_asksOf 52 = .ok (.aload_n 0, 1) := by decide +kernel
theorem dX12_asksOf_53 : decode cX12_asksOf 53 = .ok (.getfield 188, 3) := by decide +kernel
theorem dX12_asksOf_56 : decode cX12_asksOf 56 = .ok (.iconst 4, 1) := by decide +kernel
theorem dX12_asksOf_57 : decode cX12_asksOf 57 = .ok (.aload_n 0, 1) := by decide +kernel
theorem dX12_asksOf_58 : decode cX12_asksOf 58 = .ok (.getfield 60, 3) := by decide +kernel
theorem dX12_asksOf_61 : decode cX12_asksOf 61 = .ok (.iload_n 1, 1) := by decide +kernel
theorem dX12_asksOf_62 : decode cX12_asksOf 62 = .ok (.iaload, 1) := by decide +kernel
theorem dX12_asksOf_63 : decode cX12_asksOf 63 = .ok (.iastore, 1) := by decide +kernel
theorem dX12_asksOf_64 : decode cX12_asksOf 64 = .ok (.aload_n 0, 1) := by decide +kernel
theorem dX12_asksOf_65 : decode cX12_asksOf 65 = .ok (.getfield 188, 3) := by decide +kernel
theorem dX12_asksOf_68 : decode cX12_asksOf 68 = .ok (.iconst 5, 1) := by decide +kernel
theorem dX12_asksOf_69 : decode cX12_asksOf 69 = .ok (.aload_n 0, 1) := by decide +kernel
theorem dX12_asksOf_70 : decode cX12_asksOf 70 = .ok (.getfield 63, 3) := by decide +kernel
theorem dX12_asksOf_73 : decode cX12_asksOf 73 = .ok (.iload_n 1, 1) := by decide +kernel
theorem dX12_asksOf_74 : decode cX12_asksOf 74 = .ok (.iaload, 1) := by decide +kernel
theorem dX12_asksOf_75 : decode cX12_asksOf 75 = .ok (.iastore, 1) := by decide +kernel
theorem dX12_asksOf_76 : decode cX12_asksOf 76 = .ok (.aload_n 0, 1) := by decide +kernel
theorem dX12_asksOf_77 : decode cX12_asksOf 77 = .ok (.getfield 188, 3) := by decide +kernel
theorem dX12_asksOf_80 : decode cX12_asksOf 80 = .ok (.bipush 6, 2) := by decide +kernel
theorem dX12_asksOf_82 : decode cX12_asksOf 82 = .ok (.aload_n 0, 1) := by decide +kernel
theorem dX12_asksOf_83 : decode cX12_asksOf 83 = .ok (.getfield 72, 3) := by decide +kernel
theorem dX12_asksOf_86 : decode cX12_asksOf 86 = .ok (.iload_n 1, 1) := by decide +kernel
theorem dX12_asksOf_87 : decode cX12_asksOf 87 = .ok (.iaload, 1) := by decide +kernel
theorem dX12_asksOf_88 : decode cX12_asksOf 88 = .ok (.iastore, 1) := by decide +kernel
theorem dX12_asksOf_89 : decode cX12_asksOf 89 = .ok (.return_, 1) := by decide +kernel
theorem dX12_kinIn_0 : decode cX12_kinIn 0 = .ok (.iconst 0, 1) := by decide +kernel
theorem dX12_kinIn_1 : decode cX12_kinIn 1 = .ok (.istore_n 3, 1) := by decide +kernel
theorem dX12_kinIn_2 : decode cX12_kinIn 2 = .ok (.iconst 0, 1) := by decide +kernel
theorem dX12_kinIn_3 : decode cX12_kinIn 3 = .ok (.istore 4, 2) := by decide +kernel
theorem dX12_kinIn_5 : decode cX12_kinIn 5 = .ok (.iload 4, 2) := by decide +kernel
theorem dX12_kinIn_7 : decode cX12_kinIn 7 = .ok (.aload_n 0, 1) := by decide +kernel
theorem dX12_kinIn_8 : decode cX12_kinIn 8 = .ok (.getfield 254, 3) := by decide +kernel
theorem dX12_kinIn_11 : decode cX12_kinIn 11 = .ok (.if_icmp .ge 43, 3) := by decide +kernel
theorem dX12_kinIn_14 : decode cX12_kinIn 14 = .ok (.iload_n 3, 1) := by decide +kernel
theorem dX12_kinIn_15 : decode cX12_kinIn 15 = .ok (.iload 4, 2) := by decide +kernel
theorem dX12_kinIn_17 : decode cX12_kinIn 17 = .ok (.iload_n 1, 1) := by decide +kernel
theorem dX12_kinIn_18 : decode cX12_kinIn 18 = .ok (.if_icmp .eq 27, 3) := by decide +kernel
theorem dX12_kinIn_21 : decode cX12_kinIn 21 = .ok (.aload_n 0, 1) := by decide +kernel
theorem dX12_kinIn_22 : decode cX12_kinIn 22 = .ok (.iload 4, 2) := by decide +kernel
theorem dX12_kinIn_24 : decode cX12_kinIn 24 = .ok (.invokevirtual 458, 3) := by decide +kernel
theorem dX12_kinIn_27 : decode cX12_kinIn 27 = .ok (.iload_n 2, 1) := by decide +kernel
theorem dX12_kinIn_28 : decode cX12_kinIn 28 = .ok (.if_icmp .ne 17, 3) := by decide +kernel
theorem dX12_kinIn_31 : decode cX12_kinIn 31 = .ok (.aload_n 0, 1) := by decide +kernel
theorem dX12_kinIn_32 : decode cX12_kinIn 32 = .ok (.iload_n 1, 1) := by decide +kernel
theorem dX12_kinIn_33 : decode cX12_kinIn 33 = .ok (.iload 4, 2) := by decide +kernel
theorem dX12_kinIn_35 : decode cX12_kinIn 35 = .ok (.invokevirtual 340, 3) := by decide +kernel
theorem dX12_kinIn_38 : decode cX12_kinIn 38 = .ok (.ifCond .eq 7, 3) := by decide +kernel
theorem dX12_kinIn_41 : decode cX12_kinIn 41 = .ok (.iconst 1, 1) := by decide +kernel
theorem dX12_kinIn_42 : decode cX12_kinIn 42 = .ok (.goto 4, 3) := by decide +kernel
theorem dX12_kinIn_45 : decode cX12_kinIn 45 = .ok (.iconst 0, 1) := by decide +kernel
theorem dX12_kinIn_46 : decode cX12_kinIn 46 = .ok (.iadd, 1) := by decide +kernel
theorem dX12_kinIn_47 : decode cX12_kinIn 47 = .ok (.istore_n 3, 1) := by decide +kernel
theorem dX12_kinIn_48 : decode cX12_kinIn 48 = .ok (.iinc 4 1, 3) := by decide +kernel
theorem dX12_kinIn_51 : decode cX12_kinIn 51 = .ok (.goto (-46), 3) := by decide +kernel
theorem dX12_kinIn_54 : decode cX12_kinIn 54 = .ok (.iload_n 3, 1) := by decide +kernel
theorem dX12_kinIn_55 : decode cX12_kinIn 55 = .ok (.ireturn, 1) := by decide +kernel
theorem dX12_wants_0 : decode cX12_wants 0 = .ok (.aload_n 0, 1) := by decide +kernel
theorem dX12_wants_1 : decode cX12_wants 1 = .ok (.getfield 19, 3) := by decide +kernel
theorem dX12_wants_4 : decode cX12_wants 4 = .ok (.iload_n 1, 1) := by decide +kernel
theorem dX12_wants_5 : decode cX12_wants 5 = .ok (.iaload, 1) := by decide +kernel
theorem dX12_wants_6 : decode cX12_wants 6 = .ok (.aload_n 0, 1) := by decide +kernel
theorem dX12_wants_7 : decode cX12_wants 7 = .ok (.getfield 60, 3) := by decide +kernel
theorem dX12_wants_10 : decode cX12_wants 10 = .ok (.iload_n 2, 1) := by decide +kernel
theorem dX12_wants_11 : decode cX12_wants 11 = .ok (.iaload, 1) := by decide +kernel
theorem dX12_wants_12 : decode cX12_wants 12 = .ok (.ishr, 1) := by decide +kernel
theorem dX12_wants_13 : decode cX12_wants 13 = .ok (.iconst 1, 1) := by decide +kernel
theorem dX12_wants_14 : decode cX12_wants 14 = .ok (.iand, 1) := by decide +kernel
theorem dX12_wants_15 : decode cX12_wants 15 = .ok (.iconst 1, 1) := by decide +kernel
theorem dX12_wants_16 : decode cX12_wants 16 = .ok (.if_icmp .ne 7, 3) := by decide +kernel
theorem dX12_wants_19 : decode cX12_wants 19 = .ok (.iconst 1, 1) := by decide +kernel
theorem dX12_wants_20 : decode cX12_wants 20 = .ok (.goto 4, 3) := by decide +kernel
theorem dX12_wants_23 : decode cX12_wants 23 = .ok (.iconst 0, 1) := by decide +kernel
theorem dX12_wants_24 : decode cX12_wants 24 = .ok (.ireturn, 1) := by decide +kernel
theorem dX12_asksOf__0 : decode cX12_asksOf_ 0 = .ok (.aload_n 0, 1) := by decide +kernel
theorem dX12_asksOf__1 : decode cX12_asksOf_ 1 = .ok (.iload_n 1, 1) := by decide +kernel
theorem dX12_asksOf__2 : decode cX12_asksOf_ 2 = .ok (.invokevirtual 467, 3) := by decide +kernel
theorem dX12_asksOf__5 : decode cX12_asksOf_ 5 = .ok (.aload_n 0, 1) := by decide +kernel
theorem dX12_asksOf__6 : decode cX12_asksOf_ 6 = .ok (.getfield 30, 3) := by decide +kernel
theorem dX12_asksOf__9 : decode cX12_asksOf_ 9 = .ok (.iload_n 2, 1) := by decide +kernel
theorem dX12_asksOf__10 : decode cX12_asksOf_ 10 = .ok (.iaload, 1) := by decide +kernel
theorem dX12_asksOf__11 : decode cX12_asksOf_ 11 = .ok (.istore_n 3, 1) := by decide +kernel
theorem dX12_asksOf__12 : decode cX12_asksOf_ 12 = .ok (.aload_n 0, 1) := by decide +kernel
theorem dX12_asksOf__13 : decode cX12_asksOf_ 13 = .ok (.getfield 188, 3) := by decide +kernel
theorem dX12_asksOf__16 : decode cX12_asksOf_ 16 = .ok (.bipush 7, 2) := by decide +kernel
theorem dX12_asksOf__18 : decode cX12_asksOf_ 18 = .ok (.aload_n 0, 1) := by decide +kernel
theorem dX12_asksOf__19 : decode cX12_asksOf_ 19 = .ok (.getfield 78, 3) := by decide +kernel
theorem dX12_asksOf__22 : decode cX12_asksOf_ 22 = .ok (.iload_n 1, 1) := by decide +kernel
theorem dX12_asksOf__23 : decode cX12_asksOf_ 23 = .ok (.iaload, 1) := by decide +kernel
theorem dX12_asksOf__24 : decode cX12_asksOf_ 24 = .ok (.iload_n 3, 1) := by decide +kernel
theorem dX12_asksOf__25 : decode cX12_asksOf_ 25 = .ok (.if_icmp .ne 7, 3) := by decide +kernel
theorem dX12_asksOf__28 : decode cX12_asksOf_ 28 = .ok (.iconst 1, 1) := by decide +kernel
theorem dX12_asksOf__29 : decode cX12_asksOf_ 29 = .ok (.goto 4, 3) := by decide +kernel
theorem dX12_asksOf__32 : decode cX12_asksOf_ 32 = .ok (.iconst 0, 1) := by decide +kernel
theorem dX12_asksOf__33 : decode cX12_asksOf_ 33 = .ok (.iastore, 1) := by decide +kernel
theorem dX12_asksOf__34 : decode cX12_asksOf_ 34 = .ok (.aload_n 0, 1) := by decide +kernel
theorem dX12_asksOf__35 : decode cX12_asksOf_ 35 = .ok (.getfield 188, 3) := by decide +kernel
theorem dX12_asksOf__38 : decode cX12_asksOf_ 38 = .ok (.bipush 8, 2) := by decide +kernel
theorem dX12_asksOf__40 : decode cX12_asksOf_ 40 = .ok (.aload_n 0, 1) := by decide +kernel
theorem dX12_asksOf__41 : decode cX12_asksOf_ 41 = .ok (.iload_n 1, 1) := by decide +kernel
theorem dX12_asksOf__42 : decode cX12_asksOf_ 42 = .ok (.iload_n 3, 1) := by decide +kernel
theorem dX12_asksOf__43 : decode cX12_asksOf_ 43 = .ok (.invokevirtual 470, 3) := by decide +kernel
theorem dX12_asksOf__46 : decode cX12_asksOf_ 46 = .ok (.iastore, 1) := by decide +kernel
theorem dX12_asksOf__47 : decode cX12_asksOf_ 47 = .ok (.aload_n 0, 1) := by decide +kernel
theorem dX12_asksOf__48 : decode cX12_asksOf_ 48 = .ok (.getfield 188, 3) := by decide +kernel
theorem dX12_asksOf__51 : decode cX12_asksOf_ 51 = .ok (.bipush 9, 2) := by decide +kernel
theorem dX12_asksOf__53 : decode cX12_asksOf_ 53 = .ok (.aload_n 0, 1) := by decide +kernel
theorem dX12_asksOf__54 : decode cX12_asksOf_ 54 = .ok (.getfield 33, 3) := by decide +kernel
theorem dX12_asksOf__57 : decode cX12_asksOf_ 57 = .ok (.iload_n 2, 1) := by decide +kernel
theorem dX12_asksOf__58 : decode cX12_asksOf_ 58 = .ok (.iaload, 1) := by decide +kernel
theorem dX12_asksOf__59 : decode cX12_asksOf_ 59 = .ok (.iastore, 1) := by decide +kernel
theorem dX12_asksOf__60 : decode cX12_asksOf_ 60 = .ok (.aload_n 0, 1) := by decide +kernel
theorem dX12_asksOf__61 : decode cX12_asksOf_ 61 = .ok (.getfield 188, 3) := by decide +kernel
theorem dX12_asksOf__64 : decode cX12_asksOf_ 64 = .ok (.bipush 10, 2) := by decide +kernel
theorem dX12_asksOf__66 : decode cX12_asksOf_ 66 = .ok (.aload_n 0, 1) := by decide +kernel
theorem dX12_asksOf__67 : decode cX12_asksOf_ 67 = .ok (.getfield 36, 3) := by decide +kernel
theorem dX12_asksOf__70 : decode cX12_asksOf_ 70 = .ok (.iload_n 2, 1) := by decide +kernel
theorem dX12_asksOf__71 : decode cX12_asksOf_ 71 = .ok (.iaload, 1) := by decide +kernel
theorem dX12_asksOf__72 : decode cX12_asksOf_ 72 = .ok (.iastore, 1) := by decide +kernel
theorem dX12_asksOf__73 : decode cX12_asksOf_ 73 = .ok (.aload_n 0, 1) := by decide +kernel
theorem dX12_asksOf__74 : decode cX12_asksOf_ 74 = .ok (.getfield 188, 3) := by decide +kernel
theorem dX12_asksOf__77 : decode cX12_asksOf_ 77 = .ok (.bipush 11, 2) := by decide +kernel
theorem dX12_asksOf__79 : decode cX12_asksOf_ 79 = .ok (.aload_n 0, 1) := by decide +kernel
theorem dX12_asksOf__80 : decode cX12_asksOf_ 80 = .ok (.getfield 78, 3) := by decide +kernel
theorem dX12_asksOf__83 : decode cX12_asksOf_ 83 = .ok (.iload_n 1, 1) := by decide +kernel
theorem dX12_asksOf__84 : decode cX12_asksOf_ 84 = .ok (.iaload, 1) := by decide +kernel
theorem dX12_asksOf__85 : decode cX12_asksOf_ 85 = .ok (.iconst (-1), 1) := by decide +kernel
theorem dX12_asksOf__86 : decode cX12_asksOf_ 86 = .ok (.if_icmp .ne 7, 3) := by decide +kernel
theorem dX12_asksOf__89 : decode cX12_asksOf_ 89 = .ok (.iconst 0, 1) := by decide +kernel
theorem dX12_asksOf__90 : decode cX12_asksOf_ 90 = .ok (.goto 24, 3) := by decide +kernel
theorem dX12_asksOf__93 : decode cX12_asksOf_ 93 = .ok (.aload_n 0, 1) := by decide +kernel
theorem dX12_asksOf__94 : decode cX12_asksOf_ 94 = .ok (.getfield 9, 3) := by decide +kernel
theorem dX12_asksOf__97 : decode cX12_asksOf_ 97 = .ok (.iload_n 3, 1) := by decide +kernel
theorem dX12_asksOf__98 : decode cX12_asksOf_ 98 = .ok (.iaload, 1) := by decide +kernel
theorem dX12_asksOf__99 : decode cX12_asksOf_ 99 = .ok (.aload_n 0, 1) := by decide +kernel
theorem dX12_asksOf__100 : decode cX12_asksOf_ 100 = .ok (.getfield 9, 3) := by decide +kernel
theorem dX12_asksOf__103 : decode cX12_asksOf_ 103 = .ok (.aload_n 0, 1) := by decide +kernel
theorem dX12_asksOf__104 : decode cX12_asksOf_ 104 = .ok (.getfield 78, 3) := by decide +kernel
theorem dX12_asksOf__107 : decode cX12_asksOf_ 107 = .ok (.iload_n 1, 1) := by decide +kernel
theorem dX12_asksOf__108 : decode cX12_asksOf_ 108 = .ok (.iaload, 1) := by decide +kernel
theorem dX12_asksOf__109 : decode cX12_asksOf_ 109 = .ok (.iaload, 1) := by decide +kernel
theorem dX12_asksOf__110 : decode cX12_asksOf_ 110 = .ok (.isub, 1) := by decide +kernel
theorem dX12_asksOf__111 : decode cX12_asksOf_ 111 = .ok (.invokestatic 299, 3) := by decide +kernel
theorem dX12_asksOf__114 : decode cX12_asksOf_ 114 = .ok (.iastore, 1) := by decide +kernel
theorem dX12_asksOf__115 : decode cX12_asksOf_ 115 = .ok (.aload_n 0, 1) := by decide +kernel
theorem dX12_asksOf__116 : decode cX12_asksOf_ 116 = .ok (.getfield 188, 3) := by decide +kernel
theorem dX12_asksOf__119 : decode cX12_asksOf_ 119 = .ok (.bipush 12, 2) := by decide +kernel
theorem dX12_asksOf__121 : decode cX12_asksOf_ 121 = .ok (.aload_n 0, 1) := by decide +kernel
theorem dX12_asksOf__122 : decode cX12_asksOf_ 122 = .ok (.getfield 16, 3) := by decide +kernel
theorem dX12_asksOf__125 : decode cX12_asksOf_ 125 = .ok (.iload_n 3, 1) := by decide +kernel
theorem dX12_asksOf__126 : decode cX12_asksOf_ 126 = .ok (.iaload, 1) := by decide +kernel
theorem dX12_asksOf__127 : decode cX12_asksOf_ 127 = .ok (.aload_n 0, 1) := by decide +kernel
theorem dX12_asksOf__128 : decode cX12_asksOf_ 128 = .ok (.iload_n 3, 1) := by decide +kernel
theorem dX12_asksOf__129 : decode cX12_asksOf_ 129 = .ok (.iload_n 1, 1) := by decide +kernel
theorem dX12_asksOf__130 : decode cX12_asksOf_ 130 = .ok (.invokevirtual 473, 3) := by decide +kernel
theorem dX12_asksOf__133 : decode cX12_asksOf_ 133 = .ok (.isub, 1) := by decide +kernel
theorem dX12_asksOf__134 : decode cX12_asksOf_ 134 = .ok (.iastore, 1) := by decide +kernel
theorem dX12_asksOf__135 : decode cX12_asksOf_ 135 = .ok (.aload_n 0, 1) := by decide +kernel
theorem dX12_asksOf__136 : decode cX12_asksOf_ 136 = .ok (.getfield 188, 3) := by decide +kernel
theorem dX12_asksOf__139 : decode cX12_asksOf_ 139 = .ok (.bipush 13, 2) := by decide +kernel
theorem dX12_asksOf__141 : decode cX12_asksOf_ 141 = .ok (.aload_n 0, 1) := by decide +kernel
theorem dX12_asksOf__142 : decode cX12_asksOf_ 142 = .ok (.iload_n 3, 1) := by decide +kernel
theorem dX12_asksOf__143 : decode cX12_asksOf_ 143 = .ok (.iload_n 1, 1) := by decide +kernel
theorem dX12_asksOf__144 : decode cX12_asksOf_ 144 = .ok (.invokevirtual 476, 3) := by decide +kernel
theorem dX12_asksOf__147 : decode cX12_asksOf_ 147 = .ok (.ifCond .eq 7, 3) := by decide +kernel
theorem dX12_asksOf__150 : decode cX12_asksOf_ 150 = .ok (.iconst 1, 1) := by decide +kernel
theorem dX12_asksOf__151 : decode cX12_asksOf_ 151 = .ok (.goto 4, 3) := by decide +kernel
theorem dX12_asksOf__154 : decode cX12_asksOf_ 154 = .ok (.iconst 0, 1) := by decide +kernel
theorem dX12_asksOf__155 : decode cX12_asksOf_ 155 = .ok (.iastore, 1) := by decide +kernel
theorem dX12_asksOf__156 : decode cX12_asksOf_ 156 = .ok (.aload_n 0, 1) := by decide +kernel
theorem dX12_asksOf__157 : decode cX12_asksOf_ 157 = .ok (.getfield 188, 3) := by decide +kernel
theorem dX12_asksOf__160 : decode cX12_asksOf_ 160 = .ok (.bipush 15, 2) := by decide +kernel
theorem dX12_asksOf__162 : decode cX12_asksOf_ 162 = .ok (.aload_n 0, 1) := by decide +kernel
theorem dX12_asksOf__163 : decode cX12_asksOf_ 163 = .ok (.iload_n 3, 1) := by decide +kernel
theorem dX12_asksOf__164 : decode cX12_asksOf_ 164 = .ok (.invokevirtual 479, 3) := by decide +kernel
theorem dX12_asksOf__167 : decode cX12_asksOf_ 167 = .ok (.iastore, 1) := by decide +kernel
theorem dX12_asksOf__168 : decode cX12_asksOf_ 168 = .ok (.return_, 1) := by decide +kernel
theorem dX12_askedOf_0 : decode cX12_askedOf 0 = .ok (.aload_n 0, 1) := by decide +kernel
theorem dX12_askedOf_1 : decode cX12_askedOf 1 = .ok (.iload_n 1, 1) := by decide +kernel
theorem dX12_askedOf_2 : decode cX12_askedOf 2 = .ok (.invokevirtual 467, 3) := by decide +kernel
theorem dX12_askedOf_5 : decode cX12_askedOf 5 = .ok (.aload_n 0, 1) := by decide +kernel
theorem dX12_askedOf_6 : decode cX12_askedOf 6 = .ok (.iload_n 2, 1) := by decide +kernel
theorem dX12_askedOf_7 : decode cX12_askedOf 7 = .ok (.invokevirtual 482, 3) := by decide +kernel
theorem dX12_askedOf_10 : decode cX12_askedOf 10 = .ok (.ireturn, 1) := by decide +kernel
theorem dX12_shareOf_0 : decode cX12_shareOf 0 = .ok (.aload_n 0, 1) := by decide +kernel
theorem dX12_shareOf_1 : decode cX12_shareOf 1 = .ok (.invokevirtual 464, 3) := by decide +kernel
theorem dX12_shareOf_4 : decode cX12_shareOf 4 = .ok (.aload_n 0, 1) := by decide +kernel
theorem dX12_shareOf_5 : decode cX12_shareOf 5 = .ok (.getfield 188, 3) := by decide +kernel
theorem dX12_shareOf_8 : decode cX12_shareOf 8 = .ok (.bipush 12, 2) := by decide +kernel
theorem dX12_shareOf_10 : decode cX12_shareOf 10 = .ok (.aload_n 0, 1) := by decide +kernel
theorem dX12_shareOf_11 : decode cX12_shareOf 11 = .ok (.getfield 16, 3) := by decide +kernel
theorem dX12_shareOf_14 : decode cX12_shareOf 14 = .ok (.iload_n 1, 1) := by decide +kernel
theorem dX12_shareOf_15 : decode cX12_shareOf 15 = .ok (.iaload, 1) := by decide +kernel
theorem dX12_shareOf_16 : decode cX12_shareOf 16 = .ok (.aload_n 0, 1) := by decide +kernel
theorem dX12_shareOf_17 : decode cX12_shareOf 17 = .ok (.iload_n 1, 1) := by decide +kernel
theorem dX12_shareOf_18 : decode cX12_shareOf 18 = .ok (.iconst (-1), 1) := by decide +kernel
theorem dX12_shareOf_19 : decode cX12_shareOf 19 = .ok (.invokevirtual 473, 3) := by decide +kernel
theorem dX12_shareOf_22 : decode cX12_shareOf 22 = .ok (.isub, 1) := by decide +kernel
theorem dX12_shareOf_23 : decode cX12_shareOf 23 = .ok (.iastore, 1) := by decide +kernel
theorem dX12_shareOf_24 : decode cX12_shareOf 24 = .ok (.aload_n 0, 1) := by decide +kernel
theorem dX12_shareOf_25 : decode cX12_shareOf 25 = .ok (.getfield 188, 3) := by decide +kernel
theorem dX12_shareOf_28 : decode cX12_shareOf 28 = .ok (.bipush 15, 2) := by decide +kernel
theorem dX12_shareOf_30 : decode cX12_shareOf 30 = .ok (.aload_n 0, 1) := by decide +kernel
theorem dX12_shareOf_31 : decode cX12_shareOf 31 = .ok (.iload_n 1, 1) := by decide +kernel
theorem dX12_shareOf_32 : decode cX12_shareOf 32 = .ok (.invokevirtual 479, 3) := by decide +kernel
theorem dX12_shareOf_35 : decode cX12_shareOf 35 = .ok (.iastore, 1) := by decide +kernel
theorem dX12_shareOf_36 : decode cX12_shareOf 36 = .ok (.aload_n 0, 1) := by decide +kernel
theorem dX12_shareOf_37 : decode cX12_shareOf 37 = .ok (.iconst 1, 1) := by decide +kernel
theorem dX12_shareOf_38 : decode cX12_shareOf 38 = .ok (.invokevirtual 482, 3) := by decide +kernel
theorem dX12_shareOf_41 : decode cX12_shareOf 41 = .ok (.ireturn, 1) := by decide +kernel
theorem dX12_lackOf_0 : decode cX12_lackOf 0 = .ok (.aload_n 0, 1) := by decide +kernel
theorem dX12_lackOf_1 : decode cX12_lackOf 1 = .ok (.iload_n 1, 1) := by decide +kernel
theorem dX12_lackOf_2 : decode cX12_lackOf 2 = .ok (.invokevirtual 485, 3) := by decide +kernel
theorem dX12_lackOf_5 : decode cX12_lackOf 5 = .ok (.aload_n 0, 1) := by decide +kernel
theorem dX12_lackOf_6 : decode cX12_lackOf 6 = .ok (.iload_n 1, 1) := by decide +kernel
theorem dX12_lackOf_7 : decode cX12_lackOf 7 = .ok (.invokevirtual 488, 3) := by decide +kernel
theorem dX12_lackOf_10 : decode cX12_lackOf 10 = .ok (.isub, 1) := by decide +kernel
theorem dX12_lackOf_11 : decode cX12_lackOf 11 = .ok (.ireturn, 1) := by decide +kernel
theorem dX12_rank_0 : decode cX12_rank 0 = .ok (.aload_n 0, 1) := by decide +kernel
theorem dX12_rank_1 : decode cX12_rank 1 = .ok (.iload_n 1, 1) := by decide +kernel
theorem dX12_rank_2 : decode cX12_rank 2 = .ok (.invokevirtual 282, 3) := by decide +kernel
theorem dX12_rank_5 : decode cX12_rank 5 = .ok (.ifCond .eq 30, 3) := by decide +kernel
theorem dX12_rank_8 : decode cX12_rank 8 = .ok (.iload_n 2, 1) := by decide +kernel
theorem dX12_rank_9 : decode cX12_rank 9 = .ok (.i2l, 1) := by decide +kernel
theorem dX12_rank_10 : decode cX12_rank 10 = .ok (.lconst 0, 1) := by decide +kernel
theorem dX12_rank_11 : decode cX12_rank 11 = .ok (.lconst 1, 1) := by decide +kernel
theorem dX12_rank_12 : decode cX12_rank 12 = .ok (.invokestatic 247, 3) := by decide +kernel
theorem dX12_rank_15 : decode cX12_rank 15 = .ok (.ifCond .eq 20, 3) := by decide +kernel
theorem dX12_rank_18 : decode cX12_rank 18 = .ok (.aload_n 0, 1) := by decide +kernel
theorem dX12_rank_19 : decode cX12_rank 19 = .ok (.iload_n 1, 1) := by decide +kernel
theorem dX12_rank_20 : decode cX12_rank 20 = .ok (.iload_n 2, 1) := by decide +kernel
theorem dX12_rank_21 : decode cX12_rank 21 = .ok (.ifCond .ne 7, 3) := by decide +kernel
theorem dX12_rank_24 : decode cX12_rank 24 = .ok (.iconst 0, 1) := by decide +kernel
theorem dX12_rank_25 : decode cX12_rank 25 = .ok (.goto 4, 3) := by decide +kernel
theorem dX12_rank_28 : decode cX12_rank 28 = .ok (.iconst 2, 1) := by decide +kernel
theorem dX12_rank_29 : decode cX12_rank 29 = .ok (.invokevirtual 491, 3) := by decide +kernel
theorem dX12_rank_32 : decode cX12_rank 32 = .ok (.goto 6, 3) := by decide +kernel
theorem dX12_rank_35 : decode cX12_rank 35 = .ok (.ldc_w 314, 3) := by decide +kernel
theorem dX12_rank_38 : decode cX12_rank 38 = .ok (.ireturn, 1) := by decide +kernel
theorem dX12_lack_0 : decode cX12_lack 0 = .ok (.aload_n 0, 1) := by decide +kernel
theorem dX12_lack_1 : decode cX12_lack 1 = .ok (.iload_n 1, 1) := by decide +kernel
theorem dX12_lack_2 : decode cX12_lack 2 = .ok (.invokevirtual 261, 3) := by decide +kernel
theorem dX12_lack_5 : decode cX12_lack 5 = .ok (.ifCond .eq 11, 3) := by decide +kernel
theorem dX12_lack_8 : decode cX12_lack 8 = .ok (.aload_n 0, 1) := by decide +kernel
theorem dX12_lack_9 : decode cX12_lack 9 = .ok (.iload_n 1, 1) := by decide +kernel
theorem dX12_lack_10 : decode cX12_lack 10 = .ok (.invokevirtual 494, 3) := by decide +kernel
theorem dX12_lack_13 : decode cX12_lack 13 = .ok (.goto 6, 3) := by decide +kernel
theorem dX12_lack_16 : decode cX12_lack 16 = .ok (.ldc_w 314, 3) := by decide +kernel
theorem dX12_lack_19 : decode cX12_lack 19 = .ok (.ireturn, 1) := by decide +kernel
theorem dX12_lodger_0 : decode cX12_lodger 0 = .ok (.iconst 0, 1) := by decide +kernel
theorem dX12_lodger_1 : decode cX12_lodger 1 = .ok (.istore_n 2, 1) := by decide +kernel
theorem dX12_lodger_2 : decode cX12_lodger 2 = .ok (.iload_n 2, 1) := by decide +kernel
theorem dX12_lodger_3 : decode cX12_lodger 3 = .ok (.aload_n 0, 1) := by decide +kernel
theorem dX12_lodger_4 : decode cX12_lodger 4 = .ok (.getfield 254, 3) := by decide +kernel
theorem dX12_lodger_7 : decode cX12_lodger 7 = .ok (.if_icmp .ge 29, 3) := by decide +kernel
theorem dX12_lodger_10 : decode cX12_lodger 10 = .ok (.aload_n 0, 1) := by decide +kernel
theorem dX12_lodger_11 : decode cX12_lodger 11 = .ok (.iload_n 2, 1) := by decide +kernel
theorem dX12_lodger_12 : decode cX12_lodger 12 = .ok (.invokevirtual 287, 3) := by decide +kernel
theorem dX12_lodger_15 : decode cX12_lodger 15 = .ok (.ifCond .eq 15, 3) := by decide +kernel
theorem dX12_lodger_18 : decode cX12_lodger 18 = .ok (.aload_n 0, 1) := by decide +kernel
theorem dX12_lodger_19 : decode cX12_lodger 19 = .ok (.getfield 69, 3) := by decide +kernel
theorem dX12_lodger_22 : decode cX12_lodger 22 = .ok (.iload_n 2, 1) := by decide +kernel
theorem dX12_lodger_23 : decode cX12_lodger 23 = .ok (.iaload, 1) := by decide +kernel
theorem dX12_lodger_24 : decode cX12_lodger 24 = .ok (.iload_n 1, 1) := by decide +kernel
theorem dX12_lodger_25 : decode cX12_lodger 25 = .ok (.if_icmp .ne 5, 3) := by decide +kernel
theorem dX12_lodger_28 : decode cX12_lodger 28 = .ok (.iload_n 2, 1) := by decide +kernel
theorem dX12_lodger_29 : decode cX12_lodger 29 = .ok (.ireturn, 1) := by decide +kernel
theorem dX12_lodger_30 : decode cX12_lodger 30 = .ok (.iinc 2 1, 3) := by decide +kernel
theorem dX12_lodger_33 : decode cX12_lodger 33 = .ok (.goto (-31), 3) := by decide +kernel
theorem dX12_lodger_36 : decode cX12_lodger 36 = .ok (.iconst (-1), 1) := by decide +kernel
theorem dX12_lodger_37 : decode cX12_lodger 37 = .ok (.ireturn, 1) := by decide +kernel
theorem dX12_isApart_0 : decode cX12_isApart 0 = .ok (.iconst 0, 1) := by decide +kernel
theorem dX12_isApart_1 : decode cX12_isApart 1 = .ok (.istore_n 3, 1) := by decide +kernel
theorem dX12_isApart_2 : decode cX12_isApart 2 = .ok (.iload_n 3, 1) := by decide +kernel
theorem dX12_isApart_3 : decode cX12_isApart 3 = .ok (.aload_n 0, 1) := by decide +kernel
theorem dX12_isApart_4 : decode cX12_isApart 4 = .ok (.getfield 254, 3) := by decide +kernel
theorem dX12_isApart_7 : decode cX12_isApart 7 = .ok (.if_icmp .ge 65, 3) := by decide +kernel
theorem dX12_isApart_10 : decode cX12_isApart 10 = .ok (.iload_n 3, 1) := by decide +kernel
theorem dX12_isApart_11 : decode cX12_isApart 11 = .ok (.iload_n 1, 1) := by decide +kernel
theorem dX12_isApart_12 : decode cX12_isApart 12 = .ok (.if_icmp .eq 54, 3) := by decide +kernel
theorem dX12_isApart_15 : decode cX12_isApart 15 = .ok (.aload_n 0, 1) := by decide +kernel
theorem dX12_isApart_16 : decode cX12_isApart 16 = .ok (.iload_n 3, 1) := by decide +kernel
theorem dX12_isApart_17 : decode cX12_isApart 17 = .ok (.invokevirtual 287, 3) := by decide +kernel
theorem dX12_isApart_20 : decode cX12_isApart 20 = .ok (.ifCond .eq 46, 3) := by decide +kernel
theorem dX12_isApart_23 : decode cX12_isApart 23 = .ok (.aload_n 0, 1) := by decide +kernel
theorem dX12_isApart_24 : decode cX12_isApart 24 = .ok (.getfield 9, 3) := by decide +kernel
theorem dX12_isApart_27 : decode cX12_isApart 27 = .ok (.aload_n 0, 1) := by decide +kernel
theorem dX12_isApart_28 : decode cX12_isApart 28 = .ok (.iload_n 3, 1) := by decide +kernel
theorem dX12_isApart_29 : decode cX12_isApart 29 = .ok (.invokevirtual 458, 3) := by decide +kernel
theorem dX12_isApart_32 : decode cX12_isApart 32 = .ok (.iaload, 1) := by decide +kernel
theorem dX12_isApart_33 : decode cX12_isApart 33 = .ok (.aload_n 0, 1) := by decide +kernel
theorem dX12_isApart_34 : decode cX12_isApart 34 = .ok (.getfield 9, 3) := by decide +kernel
theorem dX12_isApart_37 : decode cX12_isApart 37 = .ok (.iload_n 2, 1) := by decide +kernel
theorem dX12_isApart_38 : decode cX12_isApart 38 = .ok (.iaload, 1) := by decide +kernel
theorem dX12_isApart_39 : decode cX12_isApart 39 = .ok (.isub, 1) := by decide +kernel
theorem dX12_isApart_40 : decode cX12_isApart 40 = .ok (.invokestatic 299, 3) := by decide +kernel
theorem dX12_isApart_43 : decode cX12_isApart 43 = .ok (.aload_n 0, 1) := by decide +kernel
theorem dX12_isApart_44 : decode cX12_isApart 44 = .ok (.getfield 83, 3) := by decide +kernel
theorem dX12_isApart_47 : decode cX12_isApart 47 = .ok (.aload_n 0, 1) := by decide +kernel
theorem dX12_isApart_48 : decode cX12_isApart 48 = .ok (.getfield 63, 3) := by decide +kernel
theorem dX12_isApart_51 : decode cX12_isApart 51 = .ok (.iload_n 1, 1) := by decide +kernel
theorem dX12_isApart_52 : decode cX12_isApart 52 = .ok (.iaload, 1) := by decide +kernel
theorem dX12_isApart_53 : decode cX12_isApart 53 = .ok (.aaload, 1) := by decide +kernel
theorem dX12_isApart_54 : decode cX12_isApart 54 = .ok (.aload_n 0, 1) := by decide +kernel
theorem dX12_isApart_55 : decode cX12_isApart 55 = .ok (.getfield 63, 3) := by decide +kernel
theorem dX12_isApart_58 : decode cX12_isApart 58 = .ok (.iload_n 3, 1) := by decide +kernel
theorem dX12_isApart_59 : decode cX12_isApart 59 = .ok (.iaload, 1) := by decide +kernel
theorem dX12_isApart_60 : decode cX12_isApart 60 = .ok (.iaload, 1) := by decide +kernel
theorem dX12_isApart_61 : decode cX12_isApart 61 = .ok (.if_icmp .ge 5, 3) := by decide +kernel
theorem dX12_isApart_64 : decode cX12_isApart 64 = .ok (.iconst 1, 1) := by decide +kernel
theorem dX12_isApart_65 : decode cX12_isApart 65 = .ok (.ireturn, 1) := by decide +kernel
theorem dX12_isApart_66 : decode cX12_isApart 66 = .ok (.iinc 3 1, 3) := by decide +kernel
theorem dX12_isApart_69 : decode cX12_isApart 69 = .ok (.goto (-67), 3) := by decide +kernel
theorem dX12_isApart_72 : decode cX12_isApart 72 = .ok (.iconst 0, 1) := by decide +kernel
theorem dX12_isApart_73 : decode cX12_isApart 73 = .ok (.ireturn, 1) := by decide +kernel
theorem dX12_barOf_0 : decode cX12_barOf 0 = .ok (.aload_n 0, 1) := by decide +kernel
theorem dX12_barOf_1 : decode cX12_barOf 1 = .ok (.getfield 30, 3) := by decide +kernel
theorem dX12_barOf_4 : decode cX12_barOf 4 = .ok (.iload_n 2, 1) := by decide +kernel
theorem dX12_barOf_5 : decode cX12_barOf 5 = .ok (.iaload, 1) := by decide +kernel
theorem dX12_barOf_6 : decode cX12_barOf 6 = .ok (.istore_n 3, 1) := by decide +kernel
theorem dX12_barOf_7 : decode cX12_barOf 7 = .ok (.aload_n 0, 1) := by decide +kernel
theorem dX12_barOf_8 : decode cX12_barOf 8 = .ok (.iload_n 2, 1) := by decide +kernel
theorem dX12_barOf_9 : decode cX12_barOf 9 = .ok (.invokevirtual 497, 3) := by decide +kernel
theorem dX12_barOf_12 : decode cX12_barOf 12 = .ok (.istore 4, 2) := by decide +kernel
theorem dX12_barOf_14 : decode cX12_barOf 14 = .ok (.aload_n 0, 1) := by decide +kernel
theorem dX12_barOf_15 : decode cX12_barOf 15 = .ok (.getfield 275, 3) := by decide +kernel
theorem dX12_barOf_18 : decode cX12_barOf 18 = .ok (.i2l, 1) := by decide +kernel
theorem dX12_barOf_19 : decode cX12_barOf 19 = .ok (.aload_n 0, 1) := by decide +kernel
theorem dX12_barOf_20 : decode cX12_barOf 20 = .ok (.getfield 42, 3) := by decide +kernel
theorem dX12_barOf_23 : decode cX12_barOf 23 = .ok (.iload_n 2, 1) := by decide +kernel
theorem dX12_barOf_24 : decode cX12_barOf 24 = .ok (.iaload, 1) := by decide +kernel
theorem dX12_barOf_25 : decode cX12_barOf 25 = .ok (.i2l, 1) := by decide +kernel
theorem dX12_barOf_26 : decode cX12_barOf 26 = .ok (.aload_n 0, 1) := by decide +kernel
theorem dX12_barOf_27 : decode cX12_barOf 27 = .ok (.getfield 45, 3) := by decide +kernel
theorem dX12_barOf_30 : decode cX12_barOf 30 = .ok (.iload_n 2, 1) := by decide +kernel
theorem dX12_barOf_31 : decode cX12_barOf 31 = .ok (.iaload, 1) := by decide +kernel
theorem dX12_barOf_32 : decode cX12_barOf 32 = .ok (.i2l, 1) := by decide +kernel
theorem dX12_barOf_33 : decode cX12_barOf 33 = .ok (.invokestatic 247, 3) := by decide +kernel
theorem dX12_barOf_36 : decode cX12_barOf 36 = .ok (.ifCond .ne 5, 3) := by decide +kernel
theorem dX12_barOf_39 : decode cX12_barOf 39 = .ok (.iconst 1, 1) := by decide +kernel
theorem dX12_barOf_40 : decode cX12_barOf 40 = .ok (.ireturn, 1) := by decide +kernel
theorem dX12_barOf_41 : decode cX12_barOf 41 = .ok (.iload 4, 2) := by decide +kernel
theorem dX12_barOf_43 : decode cX12_barOf 43 = .ok (.iconst (-1), 1) := by decide +kernel
theorem dX12_barOf_44 : decode cX12_barOf 44 = .ok (.if_icmp .eq 11, 3) := by decide +kernel
theorem dX12_barOf_47 : decode cX12_barOf 47 = .ok (.iload 4, 2) := by decide +kernel
theorem dX12_barOf_49 : decode cX12_barOf 49 = .ok (.iload_n 1, 1) := by decide +kernel
theorem dX12_barOf_50 : decode cX12_barOf 50 = .ok (.if_icmp .eq 5, 3) := by decide +kernel
theorem dX12_barOf_53 : decode cX12_barOf 53 = .ok (.iconst 2, 1) := by decide +kernel
theorem dX12_barOf_54 : decode cX12_barOf 54 = .ok (.ireturn, 1) := by decide +kernel
theorem dX12_barOf_55 : decode cX12_barOf 55 = .ok (.aload_n 0, 1) := by decide +kernel
theorem dX12_barOf_56 : decode cX12_barOf 56 = .ok (.getfield 48, 3) := by decide +kernel
theorem dX12_barOf_59 : decode cX12_barOf 59 = .ok (.iload_n 1, 1) := by decide +kernel
theorem dX12_barOf_60 : decode cX12_barOf 60 = .ok (.iaload, 1) := by decide +kernel
theorem dX12_barOf_61 : decode cX12_barOf 61 = .ok (.aload_n 0, 1) := by decide +kernel
theorem dX12_barOf_62 : decode cX12_barOf 62 = .ok (.getfield 33, 3) := by decide +kernel
theorem dX12_barOf_65 : decode cX12_barOf 65 = .ok (.iload_n 2, 1) := by decide +kernel
theorem dX12_barOf_66 : decode cX12_barOf 66 = .ok (.iaload, 1) := by decide +kernel
theorem dX12_barOf_67 : decode cX12_barOf 67 = .ok (.if_icmp .le 5, 3) := by decide +kernel
theorem dX12_barOf_70 : decode cX12_barOf 70 = .ok (.iconst 3, 1) := by decide +kernel
theorem dX12_barOf_71 : decode cX12_barOf 71 = .ok (.ireturn, 1) := by decide +kernel
theorem dX12_barOf_72 : decode cX12_barOf 72 = .ok (.aload_n 0, 1) := by decide +kernel
theorem dX12_barOf_73 : decode cX12_barOf 73 = .ok (.getfield 36, 3) := by decide +kernel
theorem dX12_barOf_76 : decode cX12_barOf 76 = .ok (.iload_n 2, 1) := by decide +kernel
theorem dX12_barOf_77 : decode cX12_barOf 77 = .ok (.iaload, 1) := by decide +kernel
theorem dX12_barOf_78 : decode cX12_barOf 78 = .ok (.iconst 1, 1) := by decide +kernel
theorem dX12_barOf_79 : decode cX12_barOf 79 = .ok (.if_icmp .ne 15, 3) := by decide +kernel
theorem dX12_barOf_82 : decode cX12_barOf 82 = .ok (.aload_n 0, 1) := by decide +kernel
theorem dX12_barOf_83 : decode cX12_barOf 83 = .ok (.getfield 54, 3) := by decide +kernel
theorem dX12_barOf_86 : decode cX12_barOf 86 = .ok (.iload_n 1, 1) := by decide +kernel
theorem dX12_barOf_87 : decode cX12_barOf 87 = .ok (.iaload, 1) := by decide +kernel
theorem dX12_barOf_88 : decode cX12_barOf 88 = .ok (.iconst 1, 1) := by decide +kernel
theorem dX12_barOf_89 : decode cX12_barOf 89 = .ok (.if_icmp .ne 5, 3) := by decide +kernel
theorem dX12_barOf_92 : decode cX12_barOf 92 = .ok (.iconst 4, 1) := by decide +kernel
theorem dX12_barOf_93 : decode cX12_barOf 93 = .ok (.ireturn, 1) := by decide +kernel
theorem dX12_barOf_94 : decode cX12_barOf 94 = .ok (.aload_n 0, 1) := by decide +kernel
theorem dX12_barOf_95 : decode cX12_barOf 95 = .ok (.getfield 51, 3) := by decide +kernel
theorem dX12_barOf_98 : decode cX12_barOf 98 = .ok (.iload_n 1, 1) := by decide +kernel
theorem dX12_barOf_99 : decode cX12_barOf 99 = .ok (.iaload, 1) := by decide +kernel
theorem dX12_barOf_100 : decode cX12_barOf 100 = .ok (.ifCond .le 45, 3) := by decide +kernel
theorem dX12_barOf_103 : decode cX12_barOf 103 = .ok (.aload_n 0, 1) := by decide +kernel
theorem dX12_barOf_104 : decode cX12_barOf 104 = .ok (.getfield 13, 3) := by decide +kernel
theorem dX12_barOf_107 : decode cX12_barOf 107 = .ok (.iload_n 3, 1) := by decide +kernel
theorem dX12_barOf_108 : decode cX12_barOf 108 = .ok (.iaload, 1) := by decide +kernel
theorem dX12_barOf_109 : decode cX12_barOf 109 = .ok (.aload_n 0, 1) := by decide +kernel
theorem dX12_barOf_110 : decode cX12_barOf 110 = .ok (.getfield 57, 3) := by decide +kernel
theorem dX12_barOf_113 : decode cX12_barOf 113 = .ok (.iload_n 1, 1) := by decide +kernel
theorem dX12_barOf_114 : decode cX12_barOf 114 = .ok (.iaload, 1) := by decide +kernel
theorem dX12_barOf_115 : decode cX12_barOf 115 = .ok (.ishr, 1) := by decide +kernel
theorem dX12_barOf_116 : decode cX12_barOf 116 = .ok (.iconst 1, 1) := by decide +kernel
theorem dX12_barOf_117 : decode cX12_barOf 117 = .ok (.iand, 1) := by decide +kernel
theorem dX12_barOf_118 : decode cX12_barOf 118 = .ok (.ifCond .eq 25, 3) := by decide +kernel
theorem dX12_barOf_121 : decode cX12_barOf 121 = .ok (.aload_n 0, 1) := by decide +kernel
theorem dX12_barOf_122 : decode cX12_barOf 122 = .ok (.getfield 16, 3) := by decide +kernel
theorem dX12_barOf_125 : decode cX12_barOf 125 = .ok (.iload_n 3, 1) := by decide +kernel
theorem dX12_barOf_126 : decode cX12_barOf 126 = .ok (.iaload, 1) := by decide +kernel
theorem dX12_barOf_127 : decode cX12_barOf 127 = .ok (.aload_n 0, 1) := by decide +kernel
theorem dX12_barOf_128 : decode cX12_barOf 128 = .ok (.iload_n 3, 1) := by decide +kernel
theorem dX12_barOf_129 : decode cX12_barOf 129 = .ok (.iload_n 1, 1) := by decide +kernel
theorem dX12_barOf_130 : decode cX12_barOf 130 = .ok (.invokevirtual 473, 3) := by decide +kernel
theorem dX12_barOf_133 : decode cX12_barOf 133 = .ok (.isub, 1) := by decide +kernel
theorem dX12_barOf_134 : decode cX12_barOf 134 = .ok (.aload_n 0, 1) := by decide +kernel
theorem dX12_barOf_135 : decode cX12_barOf 135 = .ok (.getfield 51, 3) := by decide +kernel
theorem dX12_barOf_138 : decode cX12_barOf 138 = .ok (.iload_n 1, 1) := by decide +kernel
theorem dX12_barOf_139 : decode cX12_barOf 139 = .ok (.iaload, 1) := by decide +kernel
theorem dX12_barOf_140 : decode cX12_barOf 140 = .ok (.if_icmp .ge 5, 3) := by decide +kernel
theorem dX12_barOf_143 : decode cX12_barOf 143 = .ok (.iconst 5, 1) := by decide +kernel
theorem dX12_barOf_144 : decode cX12_barOf 144 = .ok (.ireturn, 1) := by decide +kernel
theorem dX12_barOf_145 : decode cX12_barOf 145 = .ok (.aload_n 0, 1) := by decide +kernel
theorem dX12_barOf_146 : decode cX12_barOf 146 = .ok (.getfield 39, 3) := by decide +kernel
theorem dX12_barOf_149 : decode cX12_barOf 149 = .ok (.iload_n 2, 1) := by decide +kernel
theorem dX12_barOf_150 : decode cX12_barOf 150 = .ok (.iaload, 1) := by decide +kernel
theorem dX12_barOf_151 : decode cX12_barOf 151 = .ok (.iconst 4, 1) := by decide +kernel
theorem dX12_barOf_152 : decode cX12_barOf 152 = .ok (.if_icmp .ge 21, 3) := by decide +kernel
theorem dX12_barOf_155 : decode cX12_barOf 155 = .ok (.aload_n 0, 1) := by decide +kernel
theorem dX12_barOf_156 : decode cX12_barOf 156 = .ok (.getfield 39, 3) := by decide +kernel
theorem dX12_barOf_159 : decode cX12_barOf 159 = .ok (.iload_n 2, 1) := by decide +kernel
theorem dX12_barOf_160 : decode cX12_barOf 160 = .ok (.iaload, 1) := by decide +kernel
theorem dX12_barOf_161 : decode cX12_barOf 161 = .ok (.aload_n 0, 1) := by decide +kernel
theorem dX12_barOf_162 : decode cX12_barOf 162 = .ok (.getfield 57, 3) := by decide +kernel
theorem dX12_barOf_165 : decode cX12_barOf 165 = .ok (.iload_n 1, 1) := by decide +kernel
theorem dX12_barOf_166 : decode cX12_barOf 166 = .ok (.iaload, 1) := by decide +kernel
theorem dX12_barOf_167 : decode cX12_barOf 167 = .ok (.if_icmp .eq 6, 3) := by decide +kernel
theorem dX12_barOf_170 : decode cX12_barOf 170 = .ok (.bipush 6, 2) := by decide +kernel
theorem dX12_barOf_172 : decode cX12_barOf 172 = .ok (.ireturn, 1) := by decide +kernel
theorem dX12_barOf_173 : decode cX12_barOf 173 = .ok (.aload_n 0, 1) := by decide +kernel
theorem dX12_barOf_174 : decode cX12_barOf 174 = .ok (.getfield 26, 3) := by decide +kernel
theorem dX12_barOf_177 : decode cX12_barOf 177 = .ok (.iload_n 3, 1) := by decide +kernel
theorem dX12_barOf_178 : decode cX12_barOf 178 = .ok (.baload, 1) := by decide +kernel
theorem dX12_barOf_179 : decode cX12_barOf 179 = .ok (.ifCond .eq 6, 3) := by decide +kernel
theorem dX12_barOf_182 : decode cX12_barOf 182 = .ok (.bipush 7, 2) := by decide +kernel
theorem dX12_barOf_184 : decode cX12_barOf 184 = .ok (.ireturn, 1) := by decide +kernel
theorem dX12_barOf_185 : decode cX12_barOf 185 = .ok (.aload_n 0, 1) := by decide +kernel
theorem dX12_barOf_186 : decode cX12_barOf 186 = .ok (.iload_n 1, 1) := by decide +kernel
theorem dX12_barOf_187 : decode cX12_barOf 187 = .ok (.iload_n 3, 1) := by decide +kernel
theorem dX12_barOf_188 : decode cX12_barOf 188 = .ok (.invokevirtual 500, 3) := by decide +kernel
theorem dX12_barOf_191 : decode cX12_barOf 191 = .ok (.ifCond .eq 6, 3) := by decide +kernel
theorem dX12_barOf_194 : decode cX12_barOf 194 = .ok (.bipush 8, 2) := by decide +kernel
theorem dX12_barOf_196 : decode cX12_barOf 196 = .ok (.ireturn, 1) := by decide +kernel
theorem dX12_barOf_197 : decode cX12_barOf 197 = .ok (.aload_n 0, 1) := by decide +kernel
theorem dX12_barOf_198 : decode cX12_barOf 198 = .ok (.iload_n 1, 1) := by decide +kernel
theorem dX12_barOf_199 : decode cX12_barOf 199 = .ok (.iload_n 2, 1) := by decide +kernel
theorem dX12_barOf_200 : decode cX12_barOf 200 = .ok (.invokevirtual 503, 3) := by decide +kernel
theorem dX12_barOf_203 : decode cX12_barOf 203 = .ok (.aload_n 0, 1) := by decide +kernel
theorem dX12_barOf_204 : decode cX12_barOf 204 = .ok (.iconst 4, 1) := by decide +kernel
theorem dX12_barOf_205 : decode cX12_barOf 205 = .ok (.invokevirtual 482, 3) := by decide +kernel
theorem dX12_barOf_208 : decode cX12_barOf 208 = .ok (.iconst 1, 1) := by decide +kernel
theorem dX12_barOf_209 : decode cX12_barOf 209 = .ok (.if_icmp .ne 7, 3) := by decide +kernel
theorem dX12_barOf_212 : decode cX12_barOf 212 = .ok (.iconst 0, 1) := by decide +kernel
theorem dX12_barOf_213 : decode cX12_barOf 213 = .ok (.goto 5, 3) := by decide +kernel
theorem dX12_barOf_216 : decode cX12_barOf 216 = .ok (.bipush 9, 2) := by decide +kernel
theorem dX12_barOf_218 : decode cX12_barOf 218 = .ok (.ireturn, 1) := by decide +kernel
theorem dX12_bar_0 : decode cX12_bar 0 = .ok (.aload_n 0, 1) := by decide +kernel
theorem dX12_bar_1 : decode cX12_bar 1 = .ok (.iload_n 1, 1) := by decide +kernel
theorem dX12_bar_2 : decode cX12_bar 2 = .ok (.invokevirtual 282, 3) := by decide +kernel
theorem dX12_bar_5 : decode cX12_bar 5 = .ok (.ifCond .eq 30, 3) := by decide +kernel
theorem dX12_bar_8 : decode cX12_bar 8 = .ok (.aload_n 0, 1) := by decide +kernel
theorem dX12_bar_9 : decode cX12_bar 9 = .ok (.iload_n 2, 1) := by decide +kernel
theorem dX12_bar_10 : decode cX12_bar 10 = .ok (.invokevirtual 506, 3) := by decide +kernel
theorem dX12_bar_13 : decode cX12_bar 13 = .ok (.ifCond .eq 22, 3) := by decide +kernel
theorem dX12_bar_16 : decode cX12_bar 16 = .ok (.aload_n 0, 1) := by decide +kernel
theorem dX12_bar_17 : decode cX12_bar 17 = .ok (.getfield 66, 3) := by decide +kernel
theorem dX12_bar_20 : decode cX12_bar 20 = .ok (.iload_n 1, 1) := by decide +kernel
theorem dX12_bar_21 : decode cX12_bar 21 = .ok (.iaload, 1) := by decide +kernel
theorem dX12_bar_22 : decode cX12_bar 22 = .ok (.iconst 2, 1) := by decide +kernel
theorem dX12_bar_23 : decode cX12_bar 23 = .ok (.if_icmp .eq 12, 3) := by decide +kernel
theorem dX12_bar_26 : decode cX12_bar 26 = .ok (.aload_n 0, 1) := by decide +kernel
theorem dX12_bar_27 : decode cX12_bar 27 = .ok (.iload_n 1, 1) := by decide +kernel
theorem dX12_bar_28 : decode cX12_bar 28 = .ok (.iload_n 2, 1) := by decide +kernel
theorem dX12_bar_29 : decode cX12_bar 29 = .ok (.invokevirtual 509, 3) := by decide +kernel
theorem dX12_bar_32 : decode cX12_bar 32 = .ok (.goto 4, 3) := by decide +kernel
theorem dX12_bar_35 : decode cX12_bar 35 = .ok (.iconst (-1), 1) := by decide +kernel
theorem dX12_bar_36 : decode cX12_bar 36 = .ok (.ireturn, 1) := by decide +kernel
