theorem zL_0 : decode mLw.2.1 0 = .ok (.new 7, 3) := by decide +kernel
theorem zL_3 : decode mLw.2.1 3 = .ok (.dup, 1) := by decide +kernel
theorem zL_4 : decode mLw.2.1 4 = .ok (.invokespecial 9, 3) := by decide +kernel
theorem zL_7 : decode mLw.2.1 7 = .ok (.astore_n 1, 1) := by decide +kernel
theorem zL_8 : decode mLw.2.1 8 = .ok (.new 10, 3) := by decide +kernel
theorem zL_11 : decode mLw.2.1 11 = .ok (.dup, 1) := by decide +kernel
theorem zL_12 : decode mLw.2.1 12 = .ok (.invokespecial 12, 3) := by decide +kernel
theorem zL_15 : decode mLw.2.1 15 = .ok (.astore_n 2, 1) := by decide +kernel
theorem zL_16 : decode mLw.2.1 16 = .ok (.iconst 0, 1) := by decide +kernel
theorem zL_17 : decode mLw.2.1 17 = .ok (.istore_n 3, 1) := by decide +kernel
theorem zL_18 : decode mLw.2.1 18 = .ok (.iload_n 3, 1) := by decide +kernel
theorem zL_19 : decode mLw.2.1 19 = .ok (.aload_n 0, 1) := by decide +kernel
theorem zL_20 : decode mLw.2.1 20 = .ok (.arraylength, 1) := by decide +kernel
theorem zL_21 : decode mLw.2.1 21 = .ok (.iconst 5, 1) := by decide +kernel
theorem zL_22 : decode mLw.2.1 22 = .ok (.isub, 1) := by decide +kernel
theorem zL_23 : decode mLw.2.1 23 = .ok (.if_icmp .gt 1755, 3) := by decide +kernel
theorem zL_26 : decode mLw.2.1 26 = .ok (.aload_n 0, 1) := by decide +kernel
theorem zL_27 : decode mLw.2.1 27 = .ok (.iload_n 3, 1) := by decide +kernel
theorem zL_28 : decode mLw.2.1 28 = .ok (.iaload, 1) := by decide +kernel
theorem zL_29 : decode mLw.2.1 29 = .ok (.bipush 63, 2) := by decide +kernel
theorem zL_31 : decode mLw.2.1 31 = .ok (.iand, 1) := by decide +kernel
theorem zL_32 : decode mLw.2.1 32 = .ok (.tableswitch 1740 0 51 #[224, 267, 300, 343, 376, 409, 452, 485, 518, 541, 554, 577, 640, 653, 666, 689, 712, 735, 758, 781, 804, 827, 860, 883, 916, 939, 972, 1005, 1028, 1051, 1104, 1117, 1140, 1153, 1176, 1189, 1222, 1245, 1278, 1321, 1334, 1377, 1420, 1463, 1506, 1549, 1592, 1625, 1668, 1691, 1714, 1727], 224) := by decide +kernel
theorem zL_256 : decode mLw.2.1 256 = .ok (.aload_n 1, 1) := by decide +kernel
theorem zL_272 : decode mLw.2.1 272 = .ok (.invokevirtual 13, 3) := by decide +kernel
theorem zL_275 : decode mLw.2.1 275 = .ok (.aload_n 2, 1) := by decide +kernel
theorem zL_291 : decode mLw.2.1 291 = .ok (.invokevirtual 17, 3) := by decide +kernel
theorem zL_294 : decode mLw.2.1 294 = .ok (.if_icmp .eq 1478, 3) := by decide +kernel
theorem zL_299 : decode mLw.2.1 299 = .ok (.aload_n 1, 1) := by decide +kernel
theorem zL_310 : decode mLw.2.1 310 = .ok (.invokevirtual 18, 3) := by decide +kernel
theorem zL_313 : decode mLw.2.1 313 = .ok (.aload_n 2, 1) := by decide +kernel
theorem zL_324 : decode mLw.2.1 324 = .ok (.invokevirtual 22, 3) := by decide +kernel
theorem zL_327 : decode mLw.2.1 327 = .ok (.if_icmp .eq 1445, 3) := by decide +kernel
theorem zL_332 : decode mLw.2.1 332 = .ok (.aload_n 1, 1) := by decide +kernel
theorem zL_348 : decode mLw.2.1 348 = .ok (.invokevirtual 23, 3) := by decide +kernel
theorem zL_351 : decode mLw.2.1 351 = .ok (.aload_n 2, 1) := by decide +kernel
theorem zL_367 : decode mLw.2.1 367 = .ok (.invokevirtual 26, 3) := by decide +kernel
theorem zL_370 : decode mLw.2.1 370 = .ok (.if_icmp .eq 1402, 3) := by decide +kernel
theorem zL_375 : decode mLw.2.1 375 = .ok (.aload_n 1, 1) := by decide +kernel
theorem zL_386 : decode mLw.2.1 386 = .ok (.invokevirtual 27, 3) := by decide +kernel
theorem zL_389 : decode mLw.2.1 389 = .ok (.aload_n 2, 1) := by decide +kernel
theorem zL_400 : decode mLw.2.1 400 = .ok (.invokevirtual 30, 3) := by decide +kernel
theorem zL_403 : decode mLw.2.1 403 = .ok (.if_icmp .eq 1369, 3) := by decide +kernel
theorem zL_408 : decode mLw.2.1 408 = .ok (.aload_n 1, 1) := by decide +kernel
theorem zL_419 : decode mLw.2.1 419 = .ok (.invokevirtual 31, 3) := by decide +kernel
theorem zL_422 : decode mLw.2.1 422 = .ok (.aload_n 2, 1) := by decide +kernel
theorem zL_433 : decode mLw.2.1 433 = .ok (.invokevirtual 34, 3) := by decide +kernel
theorem zL_436 : decode mLw.2.1 436 = .ok (.if_icmp .eq 1336, 3) := by decide +kernel
theorem zL_441 : decode mLw.2.1 441 = .ok (.aload_n 1, 1) := by decide +kernel
theorem zL_457 : decode mLw.2.1 457 = .ok (.invokevirtual 35, 3) := by decide +kernel
theorem zL_460 : decode mLw.2.1 460 = .ok (.aload_n 2, 1) := by decide +kernel
theorem zL_476 : decode mLw.2.1 476 = .ok (.invokevirtual 38, 3) := by decide +kernel
theorem zL_479 : decode mLw.2.1 479 = .ok (.if_icmp .eq 1293, 3) := by decide +kernel
theorem zL_484 : decode mLw.2.1 484 = .ok (.aload_n 1, 1) := by decide +kernel
theorem zL_495 : decode mLw.2.1 495 = .ok (.invokevirtual 39, 3) := by decide +kernel
theorem zL_498 : decode mLw.2.1 498 = .ok (.aload_n 2, 1) := by decide +kernel
theorem zL_509 : decode mLw.2.1 509 = .ok (.invokevirtual 42, 3) := by decide +kernel
theorem zL_512 : decode mLw.2.1 512 = .ok (.if_icmp .eq 1260, 3) := by decide +kernel
theorem zL_517 : decode mLw.2.1 517 = .ok (.aload_n 1, 1) := by decide +kernel
theorem zL_528 : decode mLw.2.1 528 = .ok (.invokevirtual 43, 3) := by decide +kernel
theorem zL_531 : decode mLw.2.1 531 = .ok (.aload_n 2, 1) := by decide +kernel
theorem zL_542 : decode mLw.2.1 542 = .ok (.invokevirtual 46, 3) := by decide +kernel
theorem zL_545 : decode mLw.2.1 545 = .ok (.if_icmp .eq 1227, 3) := by decide +kernel
theorem zL_550 : decode mLw.2.1 550 = .ok (.aload_n 1, 1) := by decide +kernel
theorem zL_556 : decode mLw.2.1 556 = .ok (.invokevirtual 47, 3) := by decide +kernel
theorem zL_559 : decode mLw.2.1 559 = .ok (.aload_n 2, 1) := by decide +kernel
theorem zL_565 : decode mLw.2.1 565 = .ok (.invokevirtual 51, 3) := by decide +kernel
theorem zL_568 : decode mLw.2.1 568 = .ok (.if_icmp .eq 1204, 3) := by decide +kernel
theorem zL_573 : decode mLw.2.1 573 = .ok (.aload_n 1, 1) := by decide +kernel
theorem zL_574 : decode mLw.2.1 574 = .ok (.invokevirtual 52, 3) := by decide +kernel
theorem zL_577 : decode mLw.2.1 577 = .ok (.aload_n 2, 1) := by decide +kernel
theorem zL_578 : decode mLw.2.1 578 = .ok (.invokevirtual 56, 3) := by decide +kernel
theorem zL_581 : decode mLw.2.1 581 = .ok (.if_icmp .eq 1191, 3) := by decide +kernel
theorem zL_586 : decode mLw.2.1 586 = .ok (.aload_n 1, 1) := by decide +kernel
theorem zL_592 : decode mLw.2.1 592 = .ok (.invokevirtual 57, 3) := by decide +kernel
theorem zL_595 : decode mLw.2.1 595 = .ok (.aload_n 2, 1) := by decide +kernel
theorem zL_601 : decode mLw.2.1 601 = .ok (.invokevirtual 60, 3) := by decide +kernel
theorem zL_604 : decode mLw.2.1 604 = .ok (.if_icmp .eq 1168, 3) := by decide +kernel
theorem zL_609 : decode mLw.2.1 609 = .ok (.aload_n 1, 1) := by decide +kernel
theorem zL_615 : decode mLw.2.1 615 = .ok (.i2l, 1) := by decide +kernel
theorem zL_616 : decode mLw.2.1 616 = .ok (.bipush 32, 2) := by decide +kernel
theorem zL_618 : decode mLw.2.1 618 = .ok (.lshl, 1) := by decide +kernel
theorem zL_624 : decode mLw.2.1 624 = .ok (.i2l, 1) := by decide +kernel
theorem zL_625 : decode mLw.2.1 625 = .ok (.ldc2_w 61, 3) := by decide +kernel
theorem zL_628 : decode mLw.2.1 628 = .ok (.land, 1) := by decide +kernel
theorem zL_629 : decode mLw.2.1 629 = .ok (.lor, 1) := by decide +kernel
theorem zL_635 : decode mLw.2.1 635 = .ok (.invokevirtual 63, 3) := by decide +kernel
theorem zL_638 : decode mLw.2.1 638 = .ok (.aload_n 2, 1) := by decide +kernel
theorem zL_644 : decode mLw.2.1 644 = .ok (.i2l, 1) := by decide +kernel
theorem zL_645 : decode mLw.2.1 645 = .ok (.bipush 32, 2) := by decide +kernel
theorem zL_647 : decode mLw.2.1 647 = .ok (.lshl, 1) := by decide +kernel
theorem zL_653 : decode mLw.2.1 653 = .ok (.i2l, 1) := by decide +kernel
theorem zL_654 : decode mLw.2.1 654 = .ok (.ldc2_w 61, 3) := by decide +kernel
theorem zL_657 : decode mLw.2.1 657 = .ok (.land, 1) := by decide +kernel
theorem zL_658 : decode mLw.2.1 658 = .ok (.lor, 1) := by decide +kernel
theorem zL_664 : decode mLw.2.1 664 = .ok (.invokevirtual 67, 3) := by decide +kernel
theorem zL_667 : decode mLw.2.1 667 = .ok (.if_icmp .eq 1105, 3) := by decide +kernel
theorem zL_672 : decode mLw.2.1 672 = .ok (.aload_n 1, 1) := by decide +kernel
theorem zL_673 : decode mLw.2.1 673 = .ok (.invokevirtual 68, 3) := by decide +kernel
theorem zL_676 : decode mLw.2.1 676 = .ok (.aload_n 2, 1) := by decide +kernel
theorem zL_677 : decode mLw.2.1 677 = .ok (.invokevirtual 71, 3) := by decide +kernel
theorem zL_680 : decode mLw.2.1 680 = .ok (.if_icmp .eq 1092, 3) := by decide +kernel
