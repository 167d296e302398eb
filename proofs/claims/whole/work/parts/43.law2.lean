/-! ===== the law (by program) ===== -/
theorem zk_52 : Cond.initialized RX9 ∈ zG := zG_in 52 (by decide +kernel) rfl
theorem zk_63 : Cond.initialized RX10 ∈ zG := zG_in 63 (by decide +kernel) rfl
theorem zk_324 : Cond.methodLink R_law 13 yX9_wind ∈ zG := zG_in 324 (by decide +kernel) rfl
theorem zk_325 : Cond.instanceMethod yX9_wind ∈ zG := zG_in 325 (by decide +kernel) rfl
theorem zk_326 : Cond.selects RX9 yX9_wind yX9_wind ∈ zG := zG_in 326 (by decide +kernel) rfl
theorem zk_327 : Cond.code yX9_wind cX9_wind 4 (some .int) ∈ zG := zG_in 327 (by decide +kernel) rfl
theorem zk_334 : Cond.methodLink R_law 18 yX9_read ∈ zG := zG_in 334 (by decide +kernel) rfl
theorem zk_335 : Cond.instanceMethod yX9_read ∈ zG := zG_in 335 (by decide +kernel) rfl
theorem zk_336 : Cond.selects RX9 yX9_read yX9_read ∈ zG := zG_in 336 (by decide +kernel) rfl
theorem zk_337 : Cond.code yX9_read cX9_read 5 (some .int) ∈ zG := zG_in 337 (by decide +kernel) rfl
theorem zk_348 : Cond.methodLink R_law 23 yX9_set ∈ zG := zG_in 348 (by decide +kernel) rfl
theorem zk_349 : Cond.instanceMethod yX9_set ∈ zG := zG_in 349 (by decide +kernel) rfl
theorem zk_350 : Cond.selects RX9 yX9_set yX9_set ∈ zG := zG_in 350 (by decide +kernel) rfl
theorem zk_351 : Cond.code yX9_set cX9_set 4 (some .int) ∈ zG := zG_in 351 (by decide +kernel) rfl
theorem zk_352 : Cond.methodLink R_law 27 yX9_foot ∈ zG := zG_in 352 (by decide +kernel) rfl
theorem zk_353 : Cond.instanceMethod yX9_foot ∈ zG := zG_in 353 (by decide +kernel) rfl
theorem zk_354 : Cond.selects RX9 yX9_foot yX9_foot ∈ zG := zG_in 354 (by decide +kernel) rfl
theorem zk_355 : Cond.code yX9_foot cX9_foot 2 (some .int) ∈ zG := zG_in 355 (by decide +kernel) rfl
theorem zk_360 : Cond.methodLink R_law 31 yX9_type ∈ zG := zG_in 360 (by decide +kernel) rfl
theorem zk_361 : Cond.instanceMethod yX9_type ∈ zG := zG_in 361 (by decide +kernel) rfl
theorem zk_362 : Cond.selects RX9 yX9_type yX9_type ∈ zG := zG_in 362 (by decide +kernel) rfl
theorem zk_363 : Cond.code yX9_type cX9_type 4 (some .int) ∈ zG := zG_in 363 (by decide +kernel) rfl
theorem zk_448 : Cond.methodLink R_law 35 yX9_wipe ∈ zG := zG_in 448 (by decide +kernel) rfl
theorem zk_449 : Cond.instanceMethod yX9_wipe ∈ zG := zG_in 449 (by decide +kernel) rfl
theorem zk_450 : Cond.selects RX9 yX9_wipe yX9_wipe ∈ zG := zG_in 450 (by decide +kernel) rfl
theorem zk_451 : Cond.code yX9_wipe cX9_wipe 4 (some .int) ∈ zG := zG_in 451 (by decide +kernel) rfl
theorem zk_452 : Cond.methodLink R_law 39 yX9_fault ∈ zG := zG_in 452 (by decide +kernel) rfl
theorem zk_453 : Cond.instanceMethod yX9_fault ∈ zG := zG_in 453 (by decide +kernel) rfl
theorem zk_454 : Cond.selects RX9 yX9_fault yX9_fault ∈ zG := zG_in 454 (by decide +kernel) rfl
theorem zk_455 : Cond.code yX9_fault cX9_fault 2 (some .int) ∈ zG := zG_in 455 (by decide +kernel) rfl
theorem zk_456 : Cond.methodLink R_law 43 yX9_house ∈ zG := zG_in 456 (by decide +kernel) rfl
theorem zk_457 : Cond.instanceMethod yX9_house ∈ zG := zG_in 457 (by decide +kernel) rfl
theorem zk_458 : Cond.selects RX9 yX9_house yX9_house ∈ zG := zG_in 458 (by decide +kernel) rfl
theorem zk_459 : Cond.code yX9_house cX9_house 3 (some .int) ∈ zG := zG_in 459 (by decide +kernel) rfl
theorem zk_464 : Cond.methodLink R_law 47 yX9_takes ∈ zG := zG_in 464 (by decide +kernel) rfl
theorem zk_465 : Cond.instanceMethod yX9_takes ∈ zG := zG_in 465 (by decide +kernel) rfl
theorem zk_466 : Cond.selects RX9 yX9_takes yX9_takes ∈ zG := zG_in 466 (by decide +kernel) rfl
theorem zk_467 : Cond.code yX9_takes cX9_takes 3 (some .int) ∈ zG := zG_in 467 (by decide +kernel) rfl
theorem zk_469 : Cond.methodLink R_law 51 yX9_judged ∈ zG := zG_in 469 (by decide +kernel) rfl
theorem zk_470 : Cond.instanceMethod yX9_judged ∈ zG := zG_in 470 (by decide +kernel) rfl
theorem zk_471 : Cond.selects RX9 yX9_judged yX9_judged ∈ zG := zG_in 471 (by decide +kernel) rfl
theorem zk_472 : Cond.code yX9_judged cX9_judged 6 (some .int) ∈ zG := zG_in 472 (by decide +kernel) rfl
theorem zk_488 : Cond.methodLink R_law 55 yX9_ends ∈ zG := zG_in 488 (by decide +kernel) rfl
theorem zk_489 : Cond.instanceMethod yX9_ends ∈ zG := zG_in 489 (by decide +kernel) rfl
theorem zk_490 : Cond.selects RX9 yX9_ends yX9_ends ∈ zG := zG_in 490 (by decide +kernel) rfl
theorem zk_491 : Cond.code yX9_ends cX9_ends 3 (some .int) ∈ zG := zG_in 491 (by decide +kernel) rfl
theorem zk_492 : Cond.methodLink R_law 59 yX9_queue ∈ zG := zG_in 492 (by decide +kernel) rfl
theorem zk_493 : Cond.instanceMethod yX9_queue ∈ zG := zG_in 493 (by decide +kernel) rfl
theorem zk_494 : Cond.selects RX9 yX9_queue yX9_queue ∈ zG := zG_in 494 (by decide +kernel) rfl
theorem zk_495 : Cond.code yX9_queue cX9_queue 3 (some .int) ∈ zG := zG_in 495 (by decide +kernel) rfl
theorem zk_505 : Cond.methodLink R_law 63 yX9_needs ∈ zG := zG_in 505 (by decide +kernel) rfl
theorem zk_506 : Cond.instanceMethod yX9_needs ∈ zG := zG_in 506 (by decide +kernel) rfl
theorem zk_507 : Cond.selects RX9 yX9_needs yX9_needs ∈ zG := zG_in 507 (by decide +kernel) rfl
theorem zk_508 : Cond.code yX9_needs cX9_needs 2 (some .int) ∈ zG := zG_in 508 (by decide +kernel) rfl
theorem zk_517 : Cond.methodLink R_law 67 yX9_fewest ∈ zG := zG_in 517 (by decide +kernel) rfl
theorem zk_518 : Cond.instanceMethod yX9_fewest ∈ zG := zG_in 518 (by decide +kernel) rfl
theorem zk_519 : Cond.selects RX9 yX9_fewest yX9_fewest ∈ zG := zG_in 519 (by decide +kernel) rfl
theorem zk_520 : Cond.code yX9_fewest cX9_fewest 2 (some .int) ∈ zG := zG_in 520 (by decide +kernel) rfl
theorem zk_538 : Cond.methodLink R_law 71 yX9_turn ∈ zG := zG_in 538 (by decide +kernel) rfl
theorem zk_539 : Cond.instanceMethod yX9_turn ∈ zG := zG_in 539 (by decide +kernel) rfl
theorem zk_540 : Cond.selects RX9 yX9_turn yX9_turn ∈ zG := zG_in 540 (by decide +kernel) rfl
theorem zk_541 : Cond.code yX9_turn cX9_turn 7 (some .int) ∈ zG := zG_in 541 (by decide +kernel) rfl
theorem zk_542 : Cond.methodLink R_law 75 yX9_owed ∈ zG := zG_in 542 (by decide +kernel) rfl
theorem zk_543 : Cond.instanceMethod yX9_owed ∈ zG := zG_in 543 (by decide +kernel) rfl
theorem zk_544 : Cond.selects RX9 yX9_owed yX9_owed ∈ zG := zG_in 544 (by decide +kernel) rfl
theorem zk_545 : Cond.code yX9_owed cX9_owed 3 (some .int) ∈ zG := zG_in 545 (by decide +kernel) rfl
theorem zk_550 : Cond.methodLink R_law 79 yX9_broken ∈ zG := zG_in 550 (by decide +kernel) rfl
theorem zk_551 : Cond.instanceMethod yX9_broken ∈ zG := zG_in 551 (by decide +kernel) rfl
theorem zk_552 : Cond.selects RX9 yX9_broken yX9_broken ∈ zG := zG_in 552 (by decide +kernel) rfl
theorem zk_553 : Cond.code yX9_broken cX9_broken 7 (some .int) ∈ zG := zG_in 553 (by decide +kernel) rfl
theorem zk_565 : Cond.methodLink R_law 83 yX9_well ∈ zG := zG_in 565 (by decide +kernel) rfl
theorem zk_566 : Cond.instanceMethod yX9_well ∈ zG := zG_in 566 (by decide +kernel) rfl
theorem zk_567 : Cond.selects RX9 yX9_well yX9_well ∈ zG := zG_in 567 (by decide +kernel) rfl
theorem zk_568 : Cond.code yX9_well cX9_well 3 (some .int) ∈ zG := zG_in 568 (by decide +kernel) rfl
theorem zk_576 : Cond.methodLink R_law 87 yX9_met ∈ zG := zG_in 576 (by decide +kernel) rfl
theorem zk_577 : Cond.instanceMethod yX9_met ∈ zG := zG_in 577 (by decide +kernel) rfl
theorem zk_578 : Cond.selects RX9 yX9_met yX9_met ∈ zG := zG_in 578 (by decide +kernel) rfl
theorem zk_579 : Cond.code yX9_met cX9_met 2 (some .int) ∈ zG := zG_in 579 (by decide +kernel) rfl
theorem zk_588 : Cond.methodLink R_law 91 yX9_dry ∈ zG := zG_in 588 (by decide +kernel) rfl
theorem zk_589 : Cond.instanceMethod yX9_dry ∈ zG := zG_in 589 (by decide +kernel) rfl
theorem zk_590 : Cond.selects RX9 yX9_dry yX9_dry ∈ zG := zG_in 590 (by decide +kernel) rfl
theorem zk_591 : Cond.code yX9_dry cX9_dry 6 (some .int) ∈ zG := zG_in 591 (by decide +kernel) rfl
theorem zk_593 : Cond.methodLink R_law 95 yX9_sold ∈ zG := zG_in 593 (by decide +kernel) rfl
theorem zk_594 : Cond.instanceMethod yX9_sold ∈ zG := zG_in 594 (by decide +kernel) rfl
theorem zk_595 : Cond.selects RX9 yX9_sold yX9_sold ∈ zG := zG_in 595 (by decide +kernel) rfl
theorem zk_596 : Cond.code yX9_sold cX9_sold 6 (some .int) ∈ zG := zG_in 596 (by decide +kernel) rfl
theorem zk_601 : Cond.methodLink R_law 100 yX9_debt ∈ zG := zG_in 601 (by decide +kernel) rfl
theorem zk_602 : Cond.instanceMethod yX9_debt ∈ zG := zG_in 602 (by decide +kernel) rfl
theorem zk_603 : Cond.selects RX9 yX9_debt yX9_debt ∈ zG := zG_in 603 (by decide +kernel) rfl
theorem zk_604 : Cond.code yX9_debt cX9_debt 4 (some .int) ∈ zG := zG_in 604 (by decide +kernel) rfl
theorem zk_605 : Cond.methodLink R_law 104 yX9_owes ∈ zG := zG_in 605 (by decide +kernel) rfl
theorem zk_606 : Cond.instanceMethod yX9_owes ∈ zG := zG_in 606 (by decide +kernel) rfl
theorem zk_607 : Cond.selects RX9 yX9_owes yX9_owes ∈ zG := zG_in 607 (by decide +kernel) rfl
theorem zk_608 : Cond.code yX9_owes cX9_owes 6 (some .int) ∈ zG := zG_in 608 (by decide +kernel) rfl
theorem zk_613 : Cond.methodLink R_law 108 yX9_lost ∈ zG := zG_in 613 (by decide +kernel) rfl
theorem zk_614 : Cond.instanceMethod yX9_lost ∈ zG := zG_in 614 (by decide +kernel) rfl
theorem zk_615 : Cond.selects RX9 yX9_lost yX9_lost ∈ zG := zG_in 615 (by decide +kernel) rfl
theorem zk_616 : Cond.code yX9_lost cX9_lost 2 (some .int) ∈ zG := zG_in 616 (by decide +kernel) rfl
theorem zk_621 : Cond.methodLink R_law 112 yX9_church ∈ zG := zG_in 621 (by decide +kernel) rfl
theorem zk_622 : Cond.instanceMethod yX9_church ∈ zG := zG_in 622 (by decide +kernel) rfl
theorem zk_623 : Cond.selects RX9 yX9_church yX9_church ∈ zG := zG_in 623 (by decide +kernel) rfl
theorem zk_624 : Cond.code yX9_church cX9_church 6 (some .int) ∈ zG := zG_in 624 (by decide +kernel) rfl
theorem zk_628 : Cond.methodLink R_law 116 yX9_likely ∈ zG := zG_in 628 (by decide +kernel) rfl
theorem zk_629 : Cond.instanceMethod yX9_likely ∈ zG := zG_in 629 (by decide +kernel) rfl
theorem zk_630 : Cond.selects RX9 yX9_likely yX9_likely ∈ zG := zG_in 630 (by decide +kernel) rfl
theorem zk_631 : Cond.code yX9_likely cX9_likely 12 (some .long) ∈ zG := zG_in 631 (by decide +kernel) rfl
theorem zk_651 : Cond.methodLink R_law 121 yX9_stone ∈ zG := zG_in 651 (by decide +kernel) rfl
theorem zk_652 : Cond.instanceMethod yX9_stone ∈ zG := zG_in 652 (by decide +kernel) rfl
theorem zk_653 : Cond.selects RX9 yX9_stone yX9_stone ∈ zG := zG_in 653 (by decide +kernel) rfl
theorem zk_654 : Cond.code yX9_stone cX9_stone 8 (some .int) ∈ zG := zG_in 654 (by decide +kernel) rfl
theorem zk_655 : Cond.methodLink R_law 126 yX9_sheet ∈ zG := zG_in 655 (by decide +kernel) rfl
theorem zk_656 : Cond.instanceMethod yX9_sheet ∈ zG := zG_in 656 (by decide +kernel) rfl
theorem zk_657 : Cond.selects RX9 yX9_sheet yX9_sheet ∈ zG := zG_in 657 (by decide +kernel) rfl
theorem zk_658 : Cond.code yX9_sheet cX9_sheet 4 (some .int) ∈ zG := zG_in 658 (by decide +kernel) rfl
theorem zk_669 : Cond.methodLink R_law 130 yX9_lose ∈ zG := zG_in 669 (by decide +kernel) rfl
theorem zk_670 : Cond.instanceMethod yX9_lose ∈ zG := zG_in 670 (by decide +kernel) rfl
theorem zk_671 : Cond.selects RX9 yX9_lose yX9_lose ∈ zG := zG_in 671 (by decide +kernel) rfl
theorem zk_672 : Cond.code yX9_lose cX9_lose 2 (some .int) ∈ zG := zG_in 672 (by decide +kernel) rfl
theorem zk_673 : Cond.methodLink R_law 134 yX9_put ∈ zG := zG_in 673 (by decide +kernel) rfl
theorem zk_674 : Cond.instanceMethod yX9_put ∈ zG := zG_in 674 (by decide +kernel) rfl
theorem zk_675 : Cond.selects RX9 yX9_put yX9_put ∈ zG := zG_in 675 (by decide +kernel) rfl
theorem zk_676 : Cond.code yX9_put cX9_put 6 (some .int) ∈ zG := zG_in 676 (by decide +kernel) rfl
theorem zk_685 : Cond.methodLink R_law 139 yX9_get ∈ zG := zG_in 685 (by decide +kernel) rfl
theorem zk_686 : Cond.instanceMethod yX9_get ∈ zG := zG_in 686 (by decide +kernel) rfl
theorem zk_687 : Cond.selects RX9 yX9_get yX9_get ∈ zG := zG_in 687 (by decide +kernel) rfl
theorem zk_688 : Cond.code yX9_get cX9_get 5 (some .int) ∈ zG := zG_in 688 (by decide +kernel) rfl
theorem zk_690 : Cond.methodLink R_law 143 yX9_copy ∈ zG := zG_in 690 (by decide +kernel) rfl
theorem zk_691 : Cond.instanceMethod yX9_copy ∈ zG := zG_in 691 (by decide +kernel) rfl
theorem zk_692 : Cond.selects RX9 yX9_copy yX9_copy ∈ zG := zG_in 692 (by decide +kernel) rfl
theorem zk_693 : Cond.code yX9_copy cX9_copy 8 (some .int) ∈ zG := zG_in 693 (by decide +kernel) rfl
theorem zk_701 : Cond.methodLink R_law 147 yX9_write ∈ zG := zG_in 701 (by decide +kernel) rfl
theorem zk_702 : Cond.instanceMethod yX9_write ∈ zG := zG_in 702 (by decide +kernel) rfl
theorem zk_703 : Cond.selects RX9 yX9_write yX9_write ∈ zG := zG_in 703 (by decide +kernel) rfl
theorem zk_704 : Cond.code yX9_write cX9_write 6 (some .int) ∈ zG := zG_in 704 (by decide +kernel) rfl
theorem zk_705 : Cond.methodLink R_law 151 yX9_count ∈ zG := zG_in 705 (by decide +kernel) rfl
theorem zk_706 : Cond.instanceMethod yX9_count ∈ zG := zG_in 706 (by decide +kernel) rfl
theorem zk_707 : Cond.selects RX9 yX9_count yX9_count ∈ zG := zG_in 707 (by decide +kernel) rfl
theorem zk_708 : Cond.code yX9_count cX9_count 2 (some .int) ∈ zG := zG_in 708 (by decide +kernel) rfl
theorem zk_709 : Cond.methodLink R_law 155 yX9_digest ∈ zG := zG_in 709 (by decide +kernel) rfl
theorem zk_710 : Cond.instanceMethod yX9_digest ∈ zG := zG_in 710 (by decide +kernel) rfl
theorem zk_711 : Cond.selects RX9 yX9_digest yX9_digest ∈ zG := zG_in 711 (by decide +kernel) rfl
theorem zk_712 : Cond.code yX9_digest cX9_digest 4 (some .long) ∈ zG := zG_in 712 (by decide +kernel) rfl
theorem zk_849 : Cond.methodLink R_law 17 yX10_wind ∈ zG := zG_in 849 (by decide +kernel) rfl
theorem zk_850 : Cond.instanceMethod yX10_wind ∈ zG := zG_in 850 (by decide +kernel) rfl
theorem zk_851 : Cond.selects RX10 yX10_wind yX10_wind ∈ zG := zG_in 851 (by decide +kernel) rfl
theorem zk_852 : Cond.code yX10_wind cX10_wind 4 (some .int) ∈ zG := zG_in 852 (by decide +kernel) rfl
theorem zk_859 : Cond.methodLink R_law 22 yX10_read ∈ zG := zG_in 859 (by decide +kernel) rfl
theorem zk_860 : Cond.instanceMethod yX10_read ∈ zG := zG_in 860 (by decide +kernel) rfl
theorem zk_861 : Cond.selects RX10 yX10_read yX10_read ∈ zG := zG_in 861 (by decide +kernel) rfl
theorem zk_862 : Cond.code yX10_read cX10_read 3 (some .int) ∈ zG := zG_in 862 (by decide +kernel) rfl
theorem zk_870 : Cond.methodLink R_law 26 yX10_set ∈ zG := zG_in 870 (by decide +kernel) rfl
theorem zk_871 : Cond.instanceMethod yX10_set ∈ zG := zG_in 871 (by decide +kernel) rfl
theorem zk_872 : Cond.selects RX10 yX10_set yX10_set ∈ zG := zG_in 872 (by decide +kernel) rfl
theorem zk_873 : Cond.code yX10_set cX10_set 4 (some .int) ∈ zG := zG_in 873 (by decide +kernel) rfl
theorem zk_874 : Cond.methodLink R_law 30 yX10_foot ∈ zG := zG_in 874 (by decide +kernel) rfl
theorem zk_875 : Cond.instanceMethod yX10_foot ∈ zG := zG_in 875 (by decide +kernel) rfl
theorem zk_876 : Cond.selects RX10 yX10_foot yX10_foot ∈ zG := zG_in 876 (by decide +kernel) rfl
theorem zk_877 : Cond.code yX10_foot cX10_foot 2 (some .int) ∈ zG := zG_in 877 (by decide +kernel) rfl
theorem zk_882 : Cond.methodLink R_law 34 yX10_type ∈ zG := zG_in 882 (by decide +kernel) rfl
theorem zk_883 : Cond.instanceMethod yX10_type ∈ zG := zG_in 883 (by decide +kernel) rfl
theorem zk_884 : Cond.selects RX10 yX10_type yX10_type ∈ zG := zG_in 884 (by decide +kernel) rfl
theorem zk_885 : Cond.code yX10_type cX10_type 3 (some .int) ∈ zG := zG_in 885 (by decide +kernel) rfl
theorem zk_886 : Cond.methodLink R_law 38 yX10_wipe ∈ zG := zG_in 886 (by decide +kernel) rfl
theorem zk_887 : Cond.instanceMethod yX10_wipe ∈ zG := zG_in 887 (by decide +kernel) rfl
theorem zk_888 : Cond.selects RX10 yX10_wipe yX10_wipe ∈ zG := zG_in 888 (by decide +kernel) rfl
theorem zk_889 : Cond.code yX10_wipe cX10_wipe 3 (some .int) ∈ zG := zG_in 889 (by decide +kernel) rfl
theorem zk_890 : Cond.methodLink R_law 42 yX10_fault ∈ zG := zG_in 890 (by decide +kernel) rfl
theorem zk_891 : Cond.instanceMethod yX10_fault ∈ zG := zG_in 891 (by decide +kernel) rfl
theorem zk_892 : Cond.selects RX10 yX10_fault yX10_fault ∈ zG := zG_in 892 (by decide +kernel) rfl
theorem zk_893 : Cond.code yX10_fault cX10_fault 2 (some .int) ∈ zG := zG_in 893 (by decide +kernel) rfl
theorem zk_914 : Cond.methodLink R_law 46 yX10_house ∈ zG := zG_in 914 (by decide +kernel) rfl
theorem zk_915 : Cond.instanceMethod yX10_house ∈ zG := zG_in 915 (by decide +kernel) rfl
theorem zk_916 : Cond.selects RX10 yX10_house yX10_house ∈ zG := zG_in 916 (by decide +kernel) rfl
theorem zk_917 : Cond.code yX10_house cX10_house 3 (some .int) ∈ zG := zG_in 917 (by decide +kernel) rfl
theorem zk_930 : Cond.methodLink R_law 50 yX10_takes ∈ zG := zG_in 930 (by decide +kernel) rfl
theorem zk_931 : Cond.instanceMethod yX10_takes ∈ zG := zG_in 931 (by decide +kernel) rfl
theorem zk_932 : Cond.selects RX10 yX10_takes yX10_takes ∈ zG := zG_in 932 (by decide +kernel) rfl
theorem zk_933 : Cond.code yX10_takes cX10_takes 3 (some .int) ∈ zG := zG_in 933 (by decide +kernel) rfl
theorem zk_938 : Cond.methodLink R_law 54 yX10_judged ∈ zG := zG_in 938 (by decide +kernel) rfl
theorem zk_939 : Cond.instanceMethod yX10_judged ∈ zG := zG_in 939 (by decide +kernel) rfl
theorem zk_940 : Cond.selects RX10 yX10_judged yX10_judged ∈ zG := zG_in 940 (by decide +kernel) rfl
theorem zk_941 : Cond.code yX10_judged cX10_judged 2 (some .int) ∈ zG := zG_in 941 (by decide +kernel) rfl
theorem zk_958 : Cond.methodLink R_law 58 yX10_ends ∈ zG := zG_in 958 (by decide +kernel) rfl
theorem zk_959 : Cond.instanceMethod yX10_ends ∈ zG := zG_in 959 (by decide +kernel) rfl
theorem zk_960 : Cond.selects RX10 yX10_ends yX10_ends ∈ zG := zG_in 960 (by decide +kernel) rfl
theorem zk_961 : Cond.code yX10_ends cX10_ends 2 (some .int) ∈ zG := zG_in 961 (by decide +kernel) rfl
theorem zk_966 : Cond.methodLink R_law 62 yX10_queue ∈ zG := zG_in 966 (by decide +kernel) rfl
theorem zk_967 : Cond.instanceMethod yX10_queue ∈ zG := zG_in 967 (by decide +kernel) rfl
theorem zk_968 : Cond.selects RX10 yX10_queue yX10_queue ∈ zG := zG_in 968 (by decide +kernel) rfl
theorem zk_969 : Cond.code yX10_queue cX10_queue 3 (some .int) ∈ zG := zG_in 969 (by decide +kernel) rfl
theorem zk_982 : Cond.methodLink R_law 66 yX10_needs ∈ zG := zG_in 982 (by decide +kernel) rfl
theorem zk_983 : Cond.instanceMethod yX10_needs ∈ zG := zG_in 983 (by decide +kernel) rfl
theorem zk_984 : Cond.selects RX10 yX10_needs yX10_needs ∈ zG := zG_in 984 (by decide +kernel) rfl
theorem zk_985 : Cond.code yX10_needs cX10_needs 2 (some .int) ∈ zG := zG_in 985 (by decide +kernel) rfl
theorem zk_994 : Cond.methodLink R_law 70 yX10_fewest ∈ zG := zG_in 994 (by decide +kernel) rfl
theorem zk_995 : Cond.instanceMethod yX10_fewest ∈ zG := zG_in 995 (by decide +kernel) rfl
theorem zk_996 : Cond.selects RX10 yX10_fewest yX10_fewest ∈ zG := zG_in 996 (by decide +kernel) rfl
theorem zk_997 : Cond.code yX10_fewest cX10_fewest 2 (some .int) ∈ zG := zG_in 997 (by decide +kernel) rfl
theorem zk_1010 : Cond.methodLink R_law 74 yX10_turn ∈ zG := zG_in 1010 (by decide +kernel) rfl
theorem zk_1011 : Cond.instanceMethod yX10_turn ∈ zG := zG_in 1011 (by decide +kernel) rfl
theorem zk_1012 : Cond.selects RX10 yX10_turn yX10_turn ∈ zG := zG_in 1012 (by decide +kernel) rfl
theorem zk_1013 : Cond.code yX10_turn cX10_turn 3 (some .int) ∈ zG := zG_in 1013 (by decide +kernel) rfl
theorem zk_1018 : Cond.methodLink R_law 78 yX10_owed ∈ zG := zG_in 1018 (by decide +kernel) rfl
theorem zk_1019 : Cond.instanceMethod yX10_owed ∈ zG := zG_in 1019 (by decide +kernel) rfl
theorem zk_1020 : Cond.selects RX10 yX10_owed yX10_owed ∈ zG := zG_in 1020 (by decide +kernel) rfl
theorem zk_1021 : Cond.code yX10_owed cX10_owed 3 (some .int) ∈ zG := zG_in 1021 (by decide +kernel) rfl
theorem zk_1022 : Cond.methodLink R_law 82 yX10_broken ∈ zG := zG_in 1022 (by decide +kernel) rfl
theorem zk_1023 : Cond.instanceMethod yX10_broken ∈ zG := zG_in 1023 (by decide +kernel) rfl
theorem zk_1024 : Cond.selects RX10 yX10_broken yX10_broken ∈ zG := zG_in 1024 (by decide +kernel) rfl
theorem zk_1025 : Cond.code yX10_broken cX10_broken 3 (some .int) ∈ zG := zG_in 1025 (by decide +kernel) rfl
theorem zk_1037 : Cond.methodLink R_law 86 yX10_well ∈ zG := zG_in 1037 (by decide +kernel) rfl
theorem zk_1038 : Cond.instanceMethod yX10_well ∈ zG := zG_in 1038 (by decide +kernel) rfl
theorem zk_1039 : Cond.selects RX10 yX10_well yX10_well ∈ zG := zG_in 1039 (by decide +kernel) rfl
theorem zk_1040 : Cond.code yX10_well cX10_well 3 (some .int) ∈ zG := zG_in 1040 (by decide +kernel) rfl
theorem zk_1044 : Cond.methodLink R_law 90 yX10_met ∈ zG := zG_in 1044 (by decide +kernel) rfl
theorem zk_1045 : Cond.instanceMethod yX10_met ∈ zG := zG_in 1045 (by decide +kernel) rfl
theorem zk_1046 : Cond.selects RX10 yX10_met yX10_met ∈ zG := zG_in 1046 (by decide +kernel) rfl
theorem zk_1047 : Cond.code yX10_met cX10_met 2 (some .int) ∈ zG := zG_in 1047 (by decide +kernel) rfl
theorem zk_1052 : Cond.methodLink R_law 94 yX10_dry ∈ zG := zG_in 1052 (by decide +kernel) rfl
theorem zk_1053 : Cond.instanceMethod yX10_dry ∈ zG := zG_in 1053 (by decide +kernel) rfl
theorem zk_1054 : Cond.selects RX10 yX10_dry yX10_dry ∈ zG := zG_in 1054 (by decide +kernel) rfl
theorem zk_1055 : Cond.code yX10_dry cX10_dry 2 (some .int) ∈ zG := zG_in 1055 (by decide +kernel) rfl
theorem zk_1060 : Cond.methodLink R_law 99 yX10_sold ∈ zG := zG_in 1060 (by decide +kernel) rfl
theorem zk_1061 : Cond.instanceMethod yX10_sold ∈ zG := zG_in 1061 (by decide +kernel) rfl
theorem zk_1062 : Cond.selects RX10 yX10_sold yX10_sold ∈ zG := zG_in 1062 (by decide +kernel) rfl
theorem zk_1063 : Cond.code yX10_sold cX10_sold 4 (some .int) ∈ zG := zG_in 1063 (by decide +kernel) rfl
theorem zk_1072 : Cond.methodLink R_law 103 yX10_debt ∈ zG := zG_in 1072 (by decide +kernel) rfl
theorem zk_1073 : Cond.instanceMethod yX10_debt ∈ zG := zG_in 1073 (by decide +kernel) rfl
theorem zk_1074 : Cond.selects RX10 yX10_debt yX10_debt ∈ zG := zG_in 1074 (by decide +kernel) rfl
theorem zk_1075 : Cond.code yX10_debt cX10_debt 4 (some .int) ∈ zG := zG_in 1075 (by decide +kernel) rfl
theorem zk_1076 : Cond.methodLink R_law 107 yX10_owes ∈ zG := zG_in 1076 (by decide +kernel) rfl
theorem zk_1077 : Cond.instanceMethod yX10_owes ∈ zG := zG_in 1077 (by decide +kernel) rfl
theorem zk_1078 : Cond.selects RX10 yX10_owes yX10_owes ∈ zG := zG_in 1078 (by decide +kernel) rfl
theorem zk_1079 : Cond.code yX10_owes cX10_owes 3 (some .int) ∈ zG := zG_in 1079 (by decide +kernel) rfl
theorem zk_1084 : Cond.methodLink R_law 111 yX10_lost ∈ zG := zG_in 1084 (by decide +kernel) rfl
theorem zk_1085 : Cond.instanceMethod yX10_lost ∈ zG := zG_in 1085 (by decide +kernel) rfl
theorem zk_1086 : Cond.selects RX10 yX10_lost yX10_lost ∈ zG := zG_in 1086 (by decide +kernel) rfl
theorem zk_1087 : Cond.code yX10_lost cX10_lost 2 (some .int) ∈ zG := zG_in 1087 (by decide +kernel) rfl
theorem zk_1092 : Cond.methodLink R_law 115 yX10_church ∈ zG := zG_in 1092 (by decide +kernel) rfl
theorem zk_1093 : Cond.instanceMethod yX10_church ∈ zG := zG_in 1093 (by decide +kernel) rfl
theorem zk_1094 : Cond.selects RX10 yX10_church yX10_church ∈ zG := zG_in 1094 (by decide +kernel) rfl
theorem zk_1095 : Cond.code yX10_church cX10_church 5 (some .int) ∈ zG := zG_in 1095 (by decide +kernel) rfl
theorem zk_1096 : Cond.methodLink R_law 120 yX10_likely ∈ zG := zG_in 1096 (by decide +kernel) rfl
theorem zk_1097 : Cond.instanceMethod yX10_likely ∈ zG := zG_in 1097 (by decide +kernel) rfl
theorem zk_1098 : Cond.selects RX10 yX10_likely yX10_likely ∈ zG := zG_in 1098 (by decide +kernel) rfl
theorem zk_1099 : Cond.code yX10_likely cX10_likely 12 (some .long) ∈ zG := zG_in 1099 (by decide +kernel) rfl
theorem zk_1107 : Cond.methodLink R_law 125 yX10_stone ∈ zG := zG_in 1107 (by decide +kernel) rfl
theorem zk_1108 : Cond.instanceMethod yX10_stone ∈ zG := zG_in 1108 (by decide +kernel) rfl
theorem zk_1109 : Cond.selects RX10 yX10_stone yX10_stone ∈ zG := zG_in 1109 (by decide +kernel) rfl
theorem zk_1110 : Cond.code yX10_stone cX10_stone 7 (some .int) ∈ zG := zG_in 1110 (by decide +kernel) rfl
theorem zk_1111 : Cond.methodLink R_law 129 yX10_sheet ∈ zG := zG_in 1111 (by decide +kernel) rfl
theorem zk_1112 : Cond.instanceMethod yX10_sheet ∈ zG := zG_in 1112 (by decide +kernel) rfl
theorem zk_1113 : Cond.selects RX10 yX10_sheet yX10_sheet ∈ zG := zG_in 1113 (by decide +kernel) rfl
theorem zk_1114 : Cond.code yX10_sheet cX10_sheet 5 (some .int) ∈ zG := zG_in 1114 (by decide +kernel) rfl
theorem zk_1115 : Cond.methodLink R_law 133 yX10_lose ∈ zG := zG_in 1115 (by decide +kernel) rfl
theorem zk_1116 : Cond.instanceMethod yX10_lose ∈ zG := zG_in 1116 (by decide +kernel) rfl
theorem zk_1117 : Cond.selects RX10 yX10_lose yX10_lose ∈ zG := zG_in 1117 (by decide +kernel) rfl
theorem zk_1118 : Cond.code yX10_lose cX10_lose 2 (some .int) ∈ zG := zG_in 1118 (by decide +kernel) rfl
theorem zk_1119 : Cond.methodLink R_law 138 yX10_put ∈ zG := zG_in 1119 (by decide +kernel) rfl
theorem zk_1120 : Cond.instanceMethod yX10_put ∈ zG := zG_in 1120 (by decide +kernel) rfl
theorem zk_1121 : Cond.selects RX10 yX10_put yX10_put ∈ zG := zG_in 1121 (by decide +kernel) rfl
theorem zk_1122 : Cond.code yX10_put cX10_put 6 (some .int) ∈ zG := zG_in 1122 (by decide +kernel) rfl
theorem zk_1131 : Cond.methodLink R_law 142 yX10_get ∈ zG := zG_in 1131 (by decide +kernel) rfl
theorem zk_1132 : Cond.instanceMethod yX10_get ∈ zG := zG_in 1132 (by decide +kernel) rfl
theorem zk_1133 : Cond.selects RX10 yX10_get yX10_get ∈ zG := zG_in 1133 (by decide +kernel) rfl
theorem zk_1134 : Cond.code yX10_get cX10_get 5 (some .int) ∈ zG := zG_in 1134 (by decide +kernel) rfl
theorem zk_1136 : Cond.methodLink R_law 146 yX10_copy ∈ zG := zG_in 1136 (by decide +kernel) rfl
theorem zk_1137 : Cond.instanceMethod yX10_copy ∈ zG := zG_in 1137 (by decide +kernel) rfl
theorem zk_1138 : Cond.selects RX10 yX10_copy yX10_copy ∈ zG := zG_in 1138 (by decide +kernel) rfl
theorem zk_1139 : Cond.code yX10_copy cX10_copy 7 (some .int) ∈ zG := zG_in 1139 (by decide +kernel) rfl
theorem zk_1140 : Cond.methodLink R_law 150 yX10_write ∈ zG := zG_in 1140 (by decide +kernel) rfl
theorem zk_1141 : Cond.instanceMethod yX10_write ∈ zG := zG_in 1141 (by decide +kernel) rfl
theorem zk_1142 : Cond.selects RX10 yX10_write yX10_write ∈ zG := zG_in 1142 (by decide +kernel) rfl
theorem zk_1143 : Cond.code yX10_write cX10_write 4 (some .int) ∈ zG := zG_in 1143 (by decide +kernel) rfl
theorem zk_1144 : Cond.methodLink R_law 154 yX10_count ∈ zG := zG_in 1144 (by decide +kernel) rfl
theorem zk_1145 : Cond.instanceMethod yX10_count ∈ zG := zG_in 1145 (by decide +kernel) rfl
theorem zk_1146 : Cond.selects RX10 yX10_count yX10_count ∈ zG := zG_in 1146 (by decide +kernel) rfl
theorem zk_1147 : Cond.code yX10_count cX10_count 2 (some .int) ∈ zG := zG_in 1147 (by decide +kernel) rfl
theorem zk_1152 : Cond.methodLink R_law 159 yX10_digest ∈ zG := zG_in 1152 (by decide +kernel) rfl
theorem zk_1153 : Cond.instanceMethod yX10_digest ∈ zG := zG_in 1153 (by decide +kernel) rfl
theorem zk_1154 : Cond.selects RX10 yX10_digest yX10_digest ∈ zG := zG_in 1154 (by decide +kernel) rfl
theorem zk_1155 : Cond.code yX10_digest cX10_digest 5 (some .long) ∈ zG := zG_in 1155 (by decide +kernel) rfl
theorem zlc_wind_C : lCw mX9_wind 13 2 := ⟨zk_327, zk_52, ⟨by decide, by decide, by decide +kernel⟩, by decide, by decide, zk_324, zk_325, zk_326⟩
theorem zlc_wind_M : lCw mX10_wind 17 2 := ⟨zk_852, zk_63, ⟨by decide, by decide, by decide +kernel⟩, by decide, by decide, zk_849, zk_850, zk_851⟩
theorem zlc_read_C : lCw mX9_read 18 1 := ⟨zk_337, zk_52, ⟨by decide, by decide, by decide +kernel⟩, by decide, by decide, zk_334, zk_335, zk_336⟩
theorem zlc_read_M : lCw mX10_read 22 1 := ⟨zk_862, zk_63, ⟨by decide, by decide, by decide +kernel⟩, by decide, by decide, zk_859, zk_860, zk_861⟩
theorem zlc_set_C : lCw mX9_set 23 2 := ⟨zk_351, zk_52, ⟨by decide, by decide, by decide +kernel⟩, by decide, by decide, zk_348, zk_349, zk_350⟩
theorem zlc_set_M : lCw mX10_set 26 2 := ⟨zk_873, zk_63, ⟨by decide, by decide, by decide +kernel⟩, by decide, by decide, zk_870, zk_871, zk_872⟩
theorem zlc_foot_C : lCw mX9_foot 27 1 := ⟨zk_355, zk_52, ⟨by decide, by decide, by decide +kernel⟩, by decide, by decide, zk_352, zk_353, zk_354⟩
theorem zlc_foot_M : lCw mX10_foot 30 1 := ⟨zk_877, zk_63, ⟨by decide, by decide, by decide +kernel⟩, by decide, by decide, zk_874, zk_875, zk_876⟩
theorem zlc_type_C : lCw mX9_type 31 2 := ⟨zk_363, zk_52, ⟨by decide, by decide, by decide +kernel⟩, by decide, by decide, zk_360, zk_361, zk_362⟩
theorem zlc_type_M : lCw mX10_type 34 2 := ⟨zk_885, zk_63, ⟨by decide, by decide, by decide +kernel⟩, by decide, by decide, zk_882, zk_883, zk_884⟩
theorem zlc_wipe_C : lCw mX9_wipe 35 1 := ⟨zk_451, zk_52, ⟨by decide, by decide, by decide +kernel⟩, by decide, by decide, zk_448, zk_449, zk_450⟩
theorem zlc_wipe_M : lCw mX10_wipe 38 1 := ⟨zk_889, zk_63, ⟨by decide, by decide, by decide +kernel⟩, by decide, by decide, zk_886, zk_887, zk_888⟩
theorem zlc_fault_C : lCw mX9_fault 39 1 := ⟨zk_455, zk_52, ⟨by decide, by decide, by decide +kernel⟩, by decide, by decide, zk_452, zk_453, zk_454⟩
theorem zlc_fault_M : lCw mX10_fault 42 1 := ⟨zk_893, zk_63, ⟨by decide, by decide, by decide +kernel⟩, by decide, by decide, zk_890, zk_891, zk_892⟩
theorem zlc_house_C : lCw mX9_house 43 2 := ⟨zk_459, zk_52, ⟨by decide, by decide, by decide +kernel⟩, by decide, by decide, zk_456, zk_457, zk_458⟩
theorem zlc_house_M : lCw mX10_house 46 2 := ⟨zk_917, zk_63, ⟨by decide, by decide, by decide +kernel⟩, by decide, by decide, zk_914, zk_915, zk_916⟩
theorem zlc_takes_C : lCw mX9_takes 47 2 := ⟨zk_467, zk_52, ⟨by decide, by decide, by decide +kernel⟩, by decide, by decide, zk_464, zk_465, zk_466⟩
theorem zlc_takes_M : lCw mX10_takes 50 2 := ⟨zk_933, zk_63, ⟨by decide, by decide, by decide +kernel⟩, by decide, by decide, zk_930, zk_931, zk_932⟩
theorem zlc_judged_C : lCw mX9_judged 51 1 := ⟨zk_472, zk_52, ⟨by decide, by decide, by decide +kernel⟩, by decide, by decide, zk_469, zk_470, zk_471⟩
theorem zlc_judged_M : lCw mX10_judged 54 1 := ⟨zk_941, zk_63, ⟨by decide, by decide, by decide +kernel⟩, by decide, by decide, zk_938, zk_939, zk_940⟩
theorem zlc_ends_C : lCw mX9_ends 55 1 := ⟨zk_491, zk_52, ⟨by decide, by decide, by decide +kernel⟩, by decide, by decide, zk_488, zk_489, zk_490⟩
theorem zlc_ends_M : lCw mX10_ends 58 1 := ⟨zk_961, zk_63, ⟨by decide, by decide, by decide +kernel⟩, by decide, by decide, zk_958, zk_959, zk_960⟩
theorem zlc_queue_C : lCw mX9_queue 59 2 := ⟨zk_495, zk_52, ⟨by decide, by decide, by decide +kernel⟩, by decide, by decide, zk_492, zk_493, zk_494⟩
theorem zlc_queue_M : lCw mX10_queue 62 2 := ⟨zk_969, zk_63, ⟨by decide, by decide, by decide +kernel⟩, by decide, by decide, zk_966, zk_967, zk_968⟩
theorem zlc_needs_C : lCw mX9_needs 63 1 := ⟨zk_508, zk_52, ⟨by decide, by decide, by decide +kernel⟩, by decide, by decide, zk_505, zk_506, zk_507⟩
theorem zlc_needs_M : lCw mX10_needs 66 1 := ⟨zk_985, zk_63, ⟨by decide, by decide, by decide +kernel⟩, by decide, by decide, zk_982, zk_983, zk_984⟩
theorem zlc_fewest_C : lCw mX9_fewest 67 1 := ⟨zk_520, zk_52, ⟨by decide, by decide, by decide +kernel⟩, by decide, by decide, zk_517, zk_518, zk_519⟩
theorem zlc_fewest_M : lCw mX10_fewest 70 1 := ⟨zk_997, zk_63, ⟨by decide, by decide, by decide +kernel⟩, by decide, by decide, zk_994, zk_995, zk_996⟩
theorem zlc_turn_C : lCw mX9_turn 71 2 := ⟨zk_541, zk_52, ⟨by decide, by decide, by decide +kernel⟩, by decide, by decide, zk_538, zk_539, zk_540⟩
theorem zlc_turn_M : lCw mX10_turn 74 2 := ⟨zk_1013, zk_63, ⟨by decide, by decide, by decide +kernel⟩, by decide, by decide, zk_1010, zk_1011, zk_1012⟩
theorem zlc_owed_C : lCw mX9_owed 75 2 := ⟨zk_545, zk_52, ⟨by decide, by decide, by decide +kernel⟩, by decide, by decide, zk_542, zk_543, zk_544⟩
theorem zlc_owed_M : lCw mX10_owed 78 2 := ⟨zk_1021, zk_63, ⟨by decide, by decide, by decide +kernel⟩, by decide, by decide, zk_1018, zk_1019, zk_1020⟩
theorem zlc_broken_C : lCw mX9_broken 79 2 := ⟨zk_553, zk_52, ⟨by decide, by decide, by decide +kernel⟩, by decide, by decide, zk_550, zk_551, zk_552⟩
theorem zlc_broken_M : lCw mX10_broken 82 2 := ⟨zk_1025, zk_63, ⟨by decide, by decide, by decide +kernel⟩, by decide, by decide, zk_1022, zk_1023, zk_1024⟩
theorem zlc_well_C : lCw mX9_well 83 2 := ⟨zk_568, zk_52, ⟨by decide, by decide, by decide +kernel⟩, by decide, by decide, zk_565, zk_566, zk_567⟩
theorem zlc_well_M : lCw mX10_well 86 2 := ⟨zk_1040, zk_63, ⟨by decide, by decide, by decide +kernel⟩, by decide, by decide, zk_1037, zk_1038, zk_1039⟩
theorem zlc_met_C : lCw mX9_met 87 1 := ⟨zk_579, zk_52, ⟨by decide, by decide, by decide +kernel⟩, by decide, by decide, zk_576, zk_577, zk_578⟩
theorem zlc_met_M : lCw mX10_met 90 1 := ⟨zk_1047, zk_63, ⟨by decide, by decide, by decide +kernel⟩, by decide, by decide, zk_1044, zk_1045, zk_1046⟩
theorem zlc_dry_C : lCw mX9_dry 91 1 := ⟨zk_591, zk_52, ⟨by decide, by decide, by decide +kernel⟩, by decide, by decide, zk_588, zk_589, zk_590⟩
theorem zlc_dry_M : lCw mX10_dry 94 1 := ⟨zk_1055, zk_63, ⟨by decide, by decide, by decide +kernel⟩, by decide, by decide, zk_1052, zk_1053, zk_1054⟩
theorem zlc_sold_C : lCw mX9_sold 95 3 := ⟨zk_596, zk_52, ⟨by decide, by decide, by decide +kernel⟩, by decide, by decide, zk_593, zk_594, zk_595⟩
theorem zlc_sold_M : lCw mX10_sold 99 3 := ⟨zk_1063, zk_63, ⟨by decide, by decide, by decide +kernel⟩, by decide, by decide, zk_1060, zk_1061, zk_1062⟩
theorem zlc_debt_C : lCw mX9_debt 100 3 := ⟨zk_604, zk_52, ⟨by decide, by decide, by decide +kernel⟩, by decide, by decide, zk_601, zk_602, zk_603⟩
theorem zlc_debt_M : lCw mX10_debt 103 3 := ⟨zk_1075, zk_63, ⟨by decide, by decide, by decide +kernel⟩, by decide, by decide, zk_1072, zk_1073, zk_1074⟩
theorem zlc_owes_C : lCw mX9_owes 104 2 := ⟨zk_608, zk_52, ⟨by decide, by decide, by decide +kernel⟩, by decide, by decide, zk_605, zk_606, zk_607⟩
theorem zlc_owes_M : lCw mX10_owes 107 2 := ⟨zk_1079, zk_63, ⟨by decide, by decide, by decide +kernel⟩, by decide, by decide, zk_1076, zk_1077, zk_1078⟩
theorem zlc_lost_C : lCw mX9_lost 108 1 := ⟨zk_616, zk_52, ⟨by decide, by decide, by decide +kernel⟩, by decide, by decide, zk_613, zk_614, zk_615⟩
theorem zlc_lost_M : lCw mX10_lost 111 1 := ⟨zk_1087, zk_63, ⟨by decide, by decide, by decide +kernel⟩, by decide, by decide, zk_1084, zk_1085, zk_1086⟩
theorem zlc_church_C : lCw mX9_church 112 3 := ⟨zk_624, zk_52, ⟨by decide, by decide, by decide +kernel⟩, by decide, by decide, zk_621, zk_622, zk_623⟩
theorem zlc_church_M : lCw mX10_church 115 3 := ⟨zk_1095, zk_63, ⟨by decide, by decide, by decide +kernel⟩, by decide, by decide, zk_1092, zk_1093, zk_1094⟩
theorem zlc_likely_C : lCw mX9_likely 116 4 := ⟨zk_631, zk_52, ⟨by decide, by decide, by decide +kernel⟩, by decide, by decide, zk_628, zk_629, zk_630⟩
theorem zlc_likely_M : lCw mX10_likely 120 4 := ⟨zk_1099, zk_63, ⟨by decide, by decide, by decide +kernel⟩, by decide, by decide, zk_1096, zk_1097, zk_1098⟩
theorem zlc_stone_C : lCw mX9_stone 121 5 := ⟨zk_654, zk_52, ⟨by decide, by decide, by decide +kernel⟩, by decide, by decide, zk_651, zk_652, zk_653⟩
theorem zlc_stone_M : lCw mX10_stone 125 5 := ⟨zk_1110, zk_63, ⟨by decide, by decide, by decide +kernel⟩, by decide, by decide, zk_1107, zk_1108, zk_1109⟩
theorem zlc_sheet_C : lCw mX9_sheet 126 3 := ⟨zk_658, zk_52, ⟨by decide, by decide, by decide +kernel⟩, by decide, by decide, zk_655, zk_656, zk_657⟩
theorem zlc_sheet_M : lCw mX10_sheet 129 3 := ⟨zk_1114, zk_63, ⟨by decide, by decide, by decide +kernel⟩, by decide, by decide, zk_1111, zk_1112, zk_1113⟩
theorem zlc_lose_C : lCw mX9_lose 130 1 := ⟨zk_672, zk_52, ⟨by decide, by decide, by decide +kernel⟩, by decide, by decide, zk_669, zk_670, zk_671⟩
theorem zlc_lose_M : lCw mX10_lose 133 1 := ⟨zk_1118, zk_63, ⟨by decide, by decide, by decide +kernel⟩, by decide, by decide, zk_1115, zk_1116, zk_1117⟩
theorem zlc_put_C : lCw mX9_put 134 4 := ⟨zk_676, zk_52, ⟨by decide, by decide, by decide +kernel⟩, by decide, by decide, zk_673, zk_674, zk_675⟩
theorem zlc_put_M : lCw mX10_put 138 4 := ⟨zk_1122, zk_63, ⟨by decide, by decide, by decide +kernel⟩, by decide, by decide, zk_1119, zk_1120, zk_1121⟩
theorem zlc_get_C : lCw mX9_get 139 3 := ⟨zk_688, zk_52, ⟨by decide, by decide, by decide +kernel⟩, by decide, by decide, zk_685, zk_686, zk_687⟩
theorem zlc_get_M : lCw mX10_get 142 3 := ⟨zk_1134, zk_63, ⟨by decide, by decide, by decide +kernel⟩, by decide, by decide, zk_1131, zk_1132, zk_1133⟩
theorem zlc_copy_C : lCw mX9_copy 143 5 := ⟨zk_693, zk_52, ⟨by decide, by decide, by decide +kernel⟩, by decide, by decide, zk_690, zk_691, zk_692⟩
theorem zlc_copy_M : lCw mX10_copy 146 5 := ⟨zk_1139, zk_63, ⟨by decide, by decide, by decide +kernel⟩, by decide, by decide, zk_1136, zk_1137, zk_1138⟩
theorem zlc_write_C : lCw mX9_write 147 2 := ⟨zk_704, zk_52, ⟨by decide, by decide, by decide +kernel⟩, by decide, by decide, zk_701, zk_702, zk_703⟩
theorem zlc_write_M : lCw mX10_write 150 2 := ⟨zk_1143, zk_63, ⟨by decide, by decide, by decide +kernel⟩, by decide, by decide, zk_1140, zk_1141, zk_1142⟩
theorem zlc_count_C : lCw mX9_count 151 1 := ⟨zk_708, zk_52, ⟨by decide, by decide, by decide +kernel⟩, by decide, by decide, zk_705, zk_706, zk_707⟩
theorem zlc_count_M : lCw mX10_count 154 1 := ⟨zk_1147, zk_63, ⟨by decide, by decide, by decide +kernel⟩, by decide, by decide, zk_1144, zk_1145, zk_1146⟩
theorem zlc_digest_C : lCw mX9_digest 155 0 := ⟨zk_712, zk_52, ⟨by decide, by decide, by decide +kernel⟩, by decide, by decide, zk_709, zk_710, zk_711⟩
theorem zlc_digest_M : lCw mX10_digest 159 0 := ⟨zk_1155, zk_63, ⟨by decide, by decide, by decide +kernel⟩, by decide, by decide, zk_1152, zk_1153, zk_1154⟩
theorem lc_wind {p : Program} {l : Launch} {e : Env} {s : State} {m : MethodId} {below : List Frame} {meth : Method} {c : Code} {D : va_G} {cA : Nat → ClassId} {ad1 ad2 : Nat → Nat} {b Lx : Nat} {xs : Nat → Int32} (C : lCx p s m meth c D cA ad1 ad2 b Lx xs) {R2 : zS → zS → Prop} (i : Int) (h0 : 0 ≤ i) (h1 : i + 5 < (Lx : Int)) (hL : Lx ≤ 3072) (σ μ : zS) (hE : zE R2 (vX9_wind ((xs (i + 1).toNat).toInt) ((xs (i + 2).toNat).toInt) σ) (vX10_wind ((xs (i + 1).toNat).toInt) ((xs (i + 2).toNat).toInt) μ)) (kk : ∀ σ2 μ2, R2 σ2 μ2 → lW p l e s m below meth c D cA ad1 ad2 b 1345 [some (zR 0), some (zR 1), some (zR 2), some (zI i)] [] σ2 μ2) : lW p l e s m below meth c D cA ad1 ad2 b 188 [some (zR 0), some (zR 1), some (zR 2), some (zI i)] [] σ μ := by
  obtain ⟨x9, PC, PM, hC, hM, hR⟩ := hE
  refine lW_aload_n C (pc' := 189) dL_law_188 rfl rfl rfl ?_
  refine lW_aload_n C (pc' := 190) dL_law_189 rfl rfl rfl ?_
  refine lW_iload_n C (pc' := 191) dL_law_190 rfl rfl rfl ?_
  refine lW_iconst C (pc' := 192) dL_law_191 rfl ⟨by decide, by decide⟩ ?_
  refine lW_iadd C (pc' := 193) dL_law_192 rfl ⟨by omega, by omega⟩ ?_
  refine lW_sld C (pc' := 194) dL_law_193 rfl (by omega) (by omega) ?_
  refine lW_aload_n C (pc' := 195) dL_law_194 rfl rfl rfl ?_
  refine lW_iload_n C (pc' := 196) dL_law_195 rfl rfl rfl ?_
  refine lW_iconst C (pc' := 197) dL_law_196 rfl ⟨by decide, by decide⟩ ?_
  refine lW_iadd C (pc' := 198) dL_law_197 rfl ⟨by omega, by omega⟩ ?_
  refine lW_sld C (pc' := 199) dL_law_198 rfl (by omega) (by omega) ?_
  refine lW_callC C (pc' := 202) (ys := [(xs (i + 1).toNat).toInt, (xs (i + 2).toNat).toInt]) (st := []) zlc_wind_C rfl dL_law_199 rfl rfl rfl (Nat.le_of_ble_eq_true rfl) (sX9_wind ((xs (i + 1).toNat).toInt) ((xs (i + 2).toNat).toInt) hC) (fun r _ h => ⟨h.choose, Or.inl h.choose_spec.1⟩) ?_
  intro r8 σ2 h8
  obtain ⟨x8, h81, h82, hPC⟩ := h8
  rw [h82] at h81
  subst h81
  change lW p l e s m below meth c D cA ad1 ad2 b 202 [some (zR 0), some (zR 1), some (zR 2), some (zI i)] [zI x9] σ2 μ
  refine lW_aload_n C (pc' := 203) dL_law_202 rfl rfl rfl ?_
  refine lW_aload_n C (pc' := 204) dL_law_203 rfl rfl rfl ?_
  refine lW_iload_n C (pc' := 205) dL_law_204 rfl rfl rfl ?_
  refine lW_iconst C (pc' := 206) dL_law_205 rfl ⟨by decide, by decide⟩ ?_
  refine lW_iadd C (pc' := 207) dL_law_206 rfl ⟨by omega, by omega⟩ ?_
  refine lW_sld C (pc' := 208) dL_law_207 rfl (by omega) (by omega) ?_
  refine lW_aload_n C (pc' := 209) dL_law_208 rfl rfl rfl ?_
  refine lW_iload_n C (pc' := 210) dL_law_209 rfl rfl rfl ?_
  refine lW_iconst C (pc' := 211) dL_law_210 rfl ⟨by decide, by decide⟩ ?_
  refine lW_iadd C (pc' := 212) dL_law_211 rfl ⟨by omega, by omega⟩ ?_
  refine lW_sld C (pc' := 213) dL_law_212 rfl (by omega) (by omega) ?_
  refine lW_callM C (pc' := 216) (ys := [(xs (i + 1).toNat).toInt, (xs (i + 2).toNat).toInt]) (st := [zI x9]) zlc_wind_M rfl dL_law_213 rfl rfl rfl (Nat.le_of_ble_eq_true rfl) (sX10_wind ((xs (i + 1).toNat).toInt) ((xs (i + 2).toNat).toInt) hM) (fun r _ h => ⟨h.choose, Or.inl h.choose_spec.1⟩) ?_
  intro r8 μ2 h8
  obtain ⟨x8, h81, h82, hPM⟩ := h8
  rw [h82] at h81
  subst h81
  change lW p l e s m below meth c D cA ad1 ad2 b 216 [some (zR 0), some (zR 1), some (zR 2), some (zI i)] [zI x9, zI x9] σ2 μ2
  exact lW_same C (tgt := 1345) dL_law_216 (by decide) (kk σ2 μ2 (hR σ2 μ2 hPC hPM))
theorem lc_read {p : Program} {l : Launch} {e : Env} {s : State} {m : MethodId} {below : List Frame} {meth : Method} {c : Code} {D : va_G} {cA : Nat → ClassId} {ad1 ad2 : Nat → Nat} {b Lx : Nat} {xs : Nat → Int32} (C : lCx p s m meth c D cA ad1 ad2 b Lx xs) {R2 : zS → zS → Prop} (i : Int) (h0 : 0 ≤ i) (h1 : i + 5 < (Lx : Int)) (hL : Lx ≤ 3072) (σ μ : zS) (hE : zE R2 (vX9_read ((xs (i + 1).toNat).toInt) σ) (vX10_read ((xs (i + 1).toNat).toInt) μ)) (kk : ∀ σ2 μ2, R2 σ2 μ2 → lW p l e s m below meth c D cA ad1 ad2 b 1345 [some (zR 0), some (zR 1), some (zR 2), some (zI i)] [] σ2 μ2) : lW p l e s m below meth c D cA ad1 ad2 b 221 [some (zR 0), some (zR 1), some (zR 2), some (zI i)] [] σ μ := by
  obtain ⟨x9, PC, PM, hC, hM, hR⟩ := hE
  refine lW_aload_n C (pc' := 222) dL_law_221 rfl rfl rfl ?_
  refine lW_aload_n C (pc' := 223) dL_law_222 rfl rfl rfl ?_
  refine lW_iload_n C (pc' := 224) dL_law_223 rfl rfl rfl ?_
  refine lW_iconst C (pc' := 225) dL_law_224 rfl ⟨by decide, by decide⟩ ?_
  refine lW_iadd C (pc' := 226) dL_law_225 rfl ⟨by omega, by omega⟩ ?_
  refine lW_sld C (pc' := 227) dL_law_226 rfl (by omega) (by omega) ?_
  refine lW_callC C (pc' := 230) (ys := [(xs (i + 1).toNat).toInt]) (st := []) zlc_read_C rfl dL_law_227 rfl rfl rfl (Nat.le_of_ble_eq_true rfl) (sX9_read ((xs (i + 1).toNat).toInt) hC) (fun r _ h => ⟨h.choose, Or.inl h.choose_spec.1⟩) ?_
  intro r8 σ2 h8
  obtain ⟨x8, h81, h82, hPC⟩ := h8
  rw [h82] at h81
  subst h81
  change lW p l e s m below meth c D cA ad1 ad2 b 230 [some (zR 0), some (zR 1), some (zR 2), some (zI i)] [zI x9] σ2 μ
  refine lW_aload_n C (pc' := 231) dL_law_230 rfl rfl rfl ?_
  refine lW_aload_n C (pc' := 232) dL_law_231 rfl rfl rfl ?_
  refine lW_iload_n C (pc' := 233) dL_law_232 rfl rfl rfl ?_
  refine lW_iconst C (pc' := 234) dL_law_233 rfl ⟨by decide, by decide⟩ ?_
  refine lW_iadd C (pc' := 235) dL_law_234 rfl ⟨by omega, by omega⟩ ?_
  refine lW_sld C (pc' := 236) dL_law_235 rfl (by omega) (by omega) ?_
  refine lW_callM C (pc' := 239) (ys := [(xs (i + 1).toNat).toInt]) (st := [zI x9]) zlc_read_M rfl dL_law_236 rfl rfl rfl (Nat.le_of_ble_eq_true rfl) (sX10_read ((xs (i + 1).toNat).toInt) hM) (fun r _ h => ⟨h.choose, Or.inl h.choose_spec.1⟩) ?_
  intro r8 μ2 h8
  obtain ⟨x8, h81, h82, hPM⟩ := h8
  rw [h82] at h81
  subst h81
  change lW p l e s m below meth c D cA ad1 ad2 b 239 [some (zR 0), some (zR 1), some (zR 2), some (zI i)] [zI x9, zI x9] σ2 μ2
  exact lW_same C (tgt := 1345) dL_law_239 (by decide) (kk σ2 μ2 (hR σ2 μ2 hPC hPM))
theorem lc_set {p : Program} {l : Launch} {e : Env} {s : State} {m : MethodId} {below : List Frame} {meth : Method} {c : Code} {D : va_G} {cA : Nat → ClassId} {ad1 ad2 : Nat → Nat} {b Lx : Nat} {xs : Nat → Int32} (C : lCx p s m meth c D cA ad1 ad2 b Lx xs) {R2 : zS → zS → Prop} (i : Int) (h0 : 0 ≤ i) (h1 : i + 5 < (Lx : Int)) (hL : Lx ≤ 3072) (σ μ : zS) (hE : zE R2 (vX9_set ((xs (i + 1).toNat).toInt) ((xs (i + 2).toNat).toInt) σ) (vX10_set ((xs (i + 1).toNat).toInt) ((xs (i + 2).toNat).toInt) μ)) (kk : ∀ σ2 μ2, R2 σ2 μ2 → lW p l e s m below meth c D cA ad1 ad2 b 1345 [some (zR 0), some (zR 1), some (zR 2), some (zI i)] [] σ2 μ2) : lW p l e s m below meth c D cA ad1 ad2 b 244 [some (zR 0), some (zR 1), some (zR 2), some (zI i)] [] σ μ := by
  obtain ⟨x9, PC, PM, hC, hM, hR⟩ := hE
  refine lW_aload_n C (pc' := 245) dL_law_244 rfl rfl rfl ?_
  refine lW_aload_n C (pc' := 246) dL_law_245 rfl rfl rfl ?_
  refine lW_iload_n C (pc' := 247) dL_law_246 rfl rfl rfl ?_
  refine lW_iconst C (pc' := 248) dL_law_247 rfl ⟨by decide, by decide⟩ ?_
  refine lW_iadd C (pc' := 249) dL_law_248 rfl ⟨by omega, by omega⟩ ?_
  refine lW_sld C (pc' := 250) dL_law_249 rfl (by omega) (by omega) ?_
  refine lW_aload_n C (pc' := 251) dL_law_250 rfl rfl rfl ?_
  refine lW_iload_n C (pc' := 252) dL_law_251 rfl rfl rfl ?_
  refine lW_iconst C (pc' := 253) dL_law_252 rfl ⟨by decide, by decide⟩ ?_
  refine lW_iadd C (pc' := 254) dL_law_253 rfl ⟨by omega, by omega⟩ ?_
  refine lW_sld C (pc' := 255) dL_law_254 rfl (by omega) (by omega) ?_
  refine lW_callC C (pc' := 258) (ys := [(xs (i + 1).toNat).toInt, (xs (i + 2).toNat).toInt]) (st := []) zlc_set_C rfl dL_law_255 rfl rfl rfl (Nat.le_of_ble_eq_true rfl) (sX9_set ((xs (i + 1).toNat).toInt) ((xs (i + 2).toNat).toInt) hC) (fun r _ h => ⟨h.choose, Or.inl h.choose_spec.1⟩) ?_
  intro r8 σ2 h8
  obtain ⟨x8, h81, h82, hPC⟩ := h8
  rw [h82] at h81
  subst h81
  change lW p l e s m below meth c D cA ad1 ad2 b 258 [some (zR 0), some (zR 1), some (zR 2), some (zI i)] [zI x9] σ2 μ
  refine lW_aload_n C (pc' := 259) dL_law_258 rfl rfl rfl ?_
  refine lW_aload_n C (pc' := 260) dL_law_259 rfl rfl rfl ?_
  refine lW_iload_n C (pc' := 261) dL_law_260 rfl rfl rfl ?_
  refine lW_iconst C (pc' := 262) dL_law_261 rfl ⟨by decide, by decide⟩ ?_
  refine lW_iadd C (pc' := 263) dL_law_262 rfl ⟨by omega, by omega⟩ ?_
  refine lW_sld C (pc' := 264) dL_law_263 rfl (by omega) (by omega) ?_
  refine lW_aload_n C (pc' := 265) dL_law_264 rfl rfl rfl ?_
  refine lW_iload_n C (pc' := 266) dL_law_265 rfl rfl rfl ?_
  refine lW_iconst C (pc' := 267) dL_law_266 rfl ⟨by decide, by decide⟩ ?_
  refine lW_iadd C (pc' := 268) dL_law_267 rfl ⟨by omega, by omega⟩ ?_
  refine lW_sld C (pc' := 269) dL_law_268 rfl (by omega) (by omega) ?_
  refine lW_callM C (pc' := 272) (ys := [(xs (i + 1).toNat).toInt, (xs (i + 2).toNat).toInt]) (st := [zI x9]) zlc_set_M rfl dL_law_269 rfl rfl rfl (Nat.le_of_ble_eq_true rfl) (sX10_set ((xs (i + 1).toNat).toInt) ((xs (i + 2).toNat).toInt) hM) (fun r _ h => ⟨h.choose, Or.inl h.choose_spec.1⟩) ?_
  intro r8 μ2 h8
  obtain ⟨x8, h81, h82, hPM⟩ := h8
  rw [h82] at h81
  subst h81
  change lW p l e s m below meth c D cA ad1 ad2 b 272 [some (zR 0), some (zR 1), some (zR 2), some (zI i)] [zI x9, zI x9] σ2 μ2
  exact lW_same C (tgt := 1345) dL_law_272 (by decide) (kk σ2 μ2 (hR σ2 μ2 hPC hPM))
theorem lc_foot {p : Program} {l : Launch} {e : Env} {s : State} {m : MethodId} {below : List Frame} {meth : Method} {c : Code} {D : va_G} {cA : Nat → ClassId} {ad1 ad2 : Nat → Nat} {b Lx : Nat} {xs : Nat → Int32} (C : lCx p s m meth c D cA ad1 ad2 b Lx xs) {R2 : zS → zS → Prop} (i : Int) (h0 : 0 ≤ i) (h1 : i + 5 < (Lx : Int)) (hL : Lx ≤ 3072) (σ μ : zS) (hE : zE R2 (vX9_foot ((xs (i + 1).toNat).toInt) σ) (vX10_foot ((xs (i + 1).toNat).toInt) μ)) (kk : ∀ σ2 μ2, R2 σ2 μ2 → lW p l e s m below meth c D cA ad1 ad2 b 1345 [some (zR 0), some (zR 1), some (zR 2), some (zI i)] [] σ2 μ2) : lW p l e s m below meth c D cA ad1 ad2 b 277 [some (zR 0), some (zR 1), some (zR 2), some (zI i)] [] σ μ := by
  obtain ⟨x9, PC, PM, hC, hM, hR⟩ := hE
  refine lW_aload_n C (pc' := 278) dL_law_277 rfl rfl rfl ?_
  refine lW_aload_n C (pc' := 279) dL_law_278 rfl rfl rfl ?_
  refine lW_iload_n C (pc' := 280) dL_law_279 rfl rfl rfl ?_
  refine lW_iconst C (pc' := 281) dL_law_280 rfl ⟨by decide, by decide⟩ ?_
  refine lW_iadd C (pc' := 282) dL_law_281 rfl ⟨by omega, by omega⟩ ?_
  refine lW_sld C (pc' := 283) dL_law_282 rfl (by omega) (by omega) ?_
  refine lW_callC C (pc' := 286) (ys := [(xs (i + 1).toNat).toInt]) (st := []) zlc_foot_C rfl dL_law_283 rfl rfl rfl (Nat.le_of_ble_eq_true rfl) (sX9_foot ((xs (i + 1).toNat).toInt) hC) (fun r _ h => ⟨h.choose, Or.inl h.choose_spec.1⟩) ?_
  intro r8 σ2 h8
  obtain ⟨x8, h81, h82, hPC⟩ := h8
  rw [h82] at h81
  subst h81
  change lW p l e s m below meth c D cA ad1 ad2 b 286 [some (zR 0), some (zR 1), some (zR 2), some (zI i)] [zI x9] σ2 μ
  refine lW_aload_n C (pc' := 287) dL_law_286 rfl rfl rfl ?_
  refine lW_aload_n C (pc' := 288) dL_law_287 rfl rfl rfl ?_
  refine lW_iload_n C (pc' := 289) dL_law_288 rfl rfl rfl ?_
  refine lW_iconst C (pc' := 290) dL_law_289 rfl ⟨by decide, by decide⟩ ?_
  refine lW_iadd C (pc' := 291) dL_law_290 rfl ⟨by omega, by omega⟩ ?_
  refine lW_sld C (pc' := 292) dL_law_291 rfl (by omega) (by omega) ?_
  refine lW_callM C (pc' := 295) (ys := [(xs (i + 1).toNat).toInt]) (st := [zI x9]) zlc_foot_M rfl dL_law_292 rfl rfl rfl (Nat.le_of_ble_eq_true rfl) (sX10_foot ((xs (i + 1).toNat).toInt) hM) (fun r _ h => ⟨h.choose, Or.inl h.choose_spec.1⟩) ?_
  intro r8 μ2 h8
  obtain ⟨x8, h81, h82, hPM⟩ := h8
  rw [h82] at h81
  subst h81
  change lW p l e s m below meth c D cA ad1 ad2 b 295 [some (zR 0), some (zR 1), some (zR 2), some (zI i)] [zI x9, zI x9] σ2 μ2
  exact lW_same C (tgt := 1345) dL_law_295 (by decide) (kk σ2 μ2 (hR σ2 μ2 hPC hPM))
theorem lc_type {p : Program} {l : Launch} {e : Env} {s : State} {m : MethodId} {below : List Frame} {meth : Method} {c : Code} {D : va_G} {cA : Nat → ClassId} {ad1 ad2 : Nat → Nat} {b Lx : Nat} {xs : Nat → Int32} (C : lCx p s m meth c D cA ad1 ad2 b Lx xs) {R2 : zS → zS → Prop} (i : Int) (h0 : 0 ≤ i) (h1 : i + 5 < (Lx : Int)) (hL : Lx ≤ 3072) (σ μ : zS) (hE : zE R2 (vX9_type ((xs (i + 1).toNat).toInt) ((xs (i + 2).toNat).toInt) σ) (vX10_type ((xs (i + 1).toNat).toInt) ((xs (i + 2).toNat).toInt) μ)) (kk : ∀ σ2 μ2, R2 σ2 μ2 → lW p l e s m below meth c D cA ad1 ad2 b 1345 [some (zR 0), some (zR 1), some (zR 2), some (zI i)] [] σ2 μ2) : lW p l e s m below meth c D cA ad1 ad2 b 300 [some (zR 0), some (zR 1), some (zR 2), some (zI i)] [] σ μ := by
  obtain ⟨x9, PC, PM, hC, hM, hR⟩ := hE
  refine lW_aload_n C (pc' := 301) dL_law_300 rfl rfl rfl ?_
  refine lW_aload_n C (pc' := 302) dL_law_301 rfl rfl rfl ?_
  refine lW_iload_n C (pc' := 303) dL_law_302 rfl rfl rfl ?_
  refine lW_iconst C (pc' := 304) dL_law_303 rfl ⟨by decide, by decide⟩ ?_
  refine lW_iadd C (pc' := 305) dL_law_304 rfl ⟨by omega, by omega⟩ ?_
  refine lW_sld C (pc' := 306) dL_law_305 rfl (by omega) (by omega) ?_
  refine lW_aload_n C (pc' := 307) dL_law_306 rfl rfl rfl ?_
  refine lW_iload_n C (pc' := 308) dL_law_307 rfl rfl rfl ?_
  refine lW_iconst C (pc' := 309) dL_law_308 rfl ⟨by decide, by decide⟩ ?_
  refine lW_iadd C (pc' := 310) dL_law_309 rfl ⟨by omega, by omega⟩ ?_
  refine lW_sld C (pc' := 311) dL_law_310 rfl (by omega) (by omega) ?_
  refine lW_callC C (pc' := 314) (ys := [(xs (i + 1).toNat).toInt, (xs (i + 2).toNat).toInt]) (st := []) zlc_type_C rfl dL_law_311 rfl rfl rfl (Nat.le_of_ble_eq_true rfl) (sX9_type ((xs (i + 1).toNat).toInt) ((xs (i + 2).toNat).toInt) hC) (fun r _ h => ⟨h.choose, Or.inl h.choose_spec.1⟩) ?_
  intro r8 σ2 h8
  obtain ⟨x8, h81, h82, hPC⟩ := h8
  rw [h82] at h81
  subst h81
  change lW p l e s m below meth c D cA ad1 ad2 b 314 [some (zR 0), some (zR 1), some (zR 2), some (zI i)] [zI x9] σ2 μ
  refine lW_aload_n C (pc' := 315) dL_law_314 rfl rfl rfl ?_
  refine lW_aload_n C (pc' := 316) dL_law_315 rfl rfl rfl ?_
  refine lW_iload_n C (pc' := 317) dL_law_316 rfl rfl rfl ?_
  refine lW_iconst C (pc' := 318) dL_law_317 rfl ⟨by decide, by decide⟩ ?_
  refine lW_iadd C (pc' := 319) dL_law_318 rfl ⟨by omega, by omega⟩ ?_
  refine lW_sld C (pc' := 320) dL_law_319 rfl (by omega) (by omega) ?_
  refine lW_aload_n C (pc' := 321) dL_law_320 rfl rfl rfl ?_
  refine lW_iload_n C (pc' := 322) dL_law_321 rfl rfl rfl ?_
  refine lW_iconst C (pc' := 323) dL_law_322 rfl ⟨by decide, by decide⟩ ?_
  refine lW_iadd C (pc' := 324) dL_law_323 rfl ⟨by omega, by omega⟩ ?_
  refine lW_sld C (pc' := 325) dL_law_324 rfl (by omega) (by omega) ?_
  refine lW_callM C (pc' := 328) (ys := [(xs (i + 1).toNat).toInt, (xs (i + 2).toNat).toInt]) (st := [zI x9]) zlc_type_M rfl dL_law_325 rfl rfl rfl (Nat.le_of_ble_eq_true rfl) (sX10_type ((xs (i + 1).toNat).toInt) ((xs (i + 2).toNat).toInt) hM) (fun r _ h => ⟨h.choose, Or.inl h.choose_spec.1⟩) ?_
  intro r8 μ2 h8
  obtain ⟨x8, h81, h82, hPM⟩ := h8
  rw [h82] at h81
  subst h81
  change lW p l e s m below meth c D cA ad1 ad2 b 328 [some (zR 0), some (zR 1), some (zR 2), some (zI i)] [zI x9, zI x9] σ2 μ2
  exact lW_same C (tgt := 1345) dL_law_328 (by decide) (kk σ2 μ2 (hR σ2 μ2 hPC hPM))
theorem lc_wipe {p : Program} {l : Launch} {e : Env} {s : State} {m : MethodId} {below : List Frame} {meth : Method} {c : Code} {D : va_G} {cA : Nat → ClassId} {ad1 ad2 : Nat → Nat} {b Lx : Nat} {xs : Nat → Int32} (C : lCx p s m meth c D cA ad1 ad2 b Lx xs) {R2 : zS → zS → Prop} (i : Int) (h0 : 0 ≤ i) (h1 : i + 5 < (Lx : Int)) (hL : Lx ≤ 3072) (σ μ : zS) (hE : zE R2 (vX9_wipe ((xs (i + 1).toNat).toInt) σ) (vX10_wipe ((xs (i + 1).toNat).toInt) μ)) (kk : ∀ σ2 μ2, R2 σ2 μ2 → lW p l e s m below meth c D cA ad1 ad2 b 1345 [some (zR 0), some (zR 1), some (zR 2), some (zI i)] [] σ2 μ2) : lW p l e s m below meth c D cA ad1 ad2 b 333 [some (zR 0), some (zR 1), some (zR 2), some (zI i)] [] σ μ := by
  obtain ⟨x9, PC, PM, hC, hM, hR⟩ := hE
  refine lW_aload_n C (pc' := 334) dL_law_333 rfl rfl rfl ?_
  refine lW_aload_n C (pc' := 335) dL_law_334 rfl rfl rfl ?_
  refine lW_iload_n C (pc' := 336) dL_law_335 rfl rfl rfl ?_
  refine lW_iconst C (pc' := 337) dL_law_336 rfl ⟨by decide, by decide⟩ ?_
  refine lW_iadd C (pc' := 338) dL_law_337 rfl ⟨by omega, by omega⟩ ?_
  refine lW_sld C (pc' := 339) dL_law_338 rfl (by omega) (by omega) ?_
  refine lW_callC C (pc' := 342) (ys := [(xs (i + 1).toNat).toInt]) (st := []) zlc_wipe_C rfl dL_law_339 rfl rfl rfl (Nat.le_of_ble_eq_true rfl) (sX9_wipe ((xs (i + 1).toNat).toInt) hC) (fun r _ h => ⟨h.choose, Or.inl h.choose_spec.1⟩) ?_
  intro r8 σ2 h8
  obtain ⟨x8, h81, h82, hPC⟩ := h8
  rw [h82] at h81
  subst h81
  change lW p l e s m below meth c D cA ad1 ad2 b 342 [some (zR 0), some (zR 1), some (zR 2), some (zI i)] [zI x9] σ2 μ
  refine lW_aload_n C (pc' := 343) dL_law_342 rfl rfl rfl ?_
  refine lW_aload_n C (pc' := 344) dL_law_343 rfl rfl rfl ?_
  refine lW_iload_n C (pc' := 345) dL_law_344 rfl rfl rfl ?_
  refine lW_iconst C (pc' := 346) dL_law_345 rfl ⟨by decide, by decide⟩ ?_
  refine lW_iadd C (pc' := 347) dL_law_346 rfl ⟨by omega, by omega⟩ ?_
  refine lW_sld C (pc' := 348) dL_law_347 rfl (by omega) (by omega) ?_
  refine lW_callM C (pc' := 351) (ys := [(xs (i + 1).toNat).toInt]) (st := [zI x9]) zlc_wipe_M rfl dL_law_348 rfl rfl rfl (Nat.le_of_ble_eq_true rfl) (sX10_wipe ((xs (i + 1).toNat).toInt) hM) (fun r _ h => ⟨h.choose, Or.inl h.choose_spec.1⟩) ?_
  intro r8 μ2 h8
  obtain ⟨x8, h81, h82, hPM⟩ := h8
  rw [h82] at h81
  subst h81
  change lW p l e s m below meth c D cA ad1 ad2 b 351 [some (zR 0), some (zR 1), some (zR 2), some (zI i)] [zI x9, zI x9] σ2 μ2
  exact lW_same C (tgt := 1345) dL_law_351 (by decide) (kk σ2 μ2 (hR σ2 μ2 hPC hPM))
theorem lc_fault {p : Program} {l : Launch} {e : Env} {s : State} {m : MethodId} {below : List Frame} {meth : Method} {c : Code} {D : va_G} {cA : Nat → ClassId} {ad1 ad2 : Nat → Nat} {b Lx : Nat} {xs : Nat → Int32} (C : lCx p s m meth c D cA ad1 ad2 b Lx xs) {R2 : zS → zS → Prop} (i : Int) (h0 : 0 ≤ i) (h1 : i + 5 < (Lx : Int)) (hL : Lx ≤ 3072) (σ μ : zS) (hE : zE R2 (vX9_fault ((xs (i + 1).toNat).toInt) σ) (vX10_fault ((xs (i + 1).toNat).toInt) μ)) (kk : ∀ σ2 μ2, R2 σ2 μ2 → lW p l e s m below meth c D cA ad1 ad2 b 1345 [some (zR 0), some (zR 1), some (zR 2), some (zI i)] [] σ2 μ2) : lW p l e s m below meth c D cA ad1 ad2 b 356 [some (zR 0), some (zR 1), some (zR 2), some (zI i)] [] σ μ := by
  obtain ⟨x9, PC, PM, hC, hM, hR⟩ := hE
  refine lW_aload_n C (pc' := 357) dL_law_356 rfl rfl rfl ?_
  refine lW_aload_n C (pc' := 358) dL_law_357 rfl rfl rfl ?_
  refine lW_iload_n C (pc' := 359) dL_law_358 rfl rfl rfl ?_
  refine lW_iconst C (pc' := 360) dL_law_359 rfl ⟨by decide, by decide⟩ ?_
  refine lW_iadd C (pc' := 361) dL_law_360 rfl ⟨by omega, by omega⟩ ?_
  refine lW_sld C (pc' := 362) dL_law_361 rfl (by omega) (by omega) ?_
  refine lW_callC C (pc' := 365) (ys := [(xs (i + 1).toNat).toInt]) (st := []) zlc_fault_C rfl dL_law_362 rfl rfl rfl (Nat.le_of_ble_eq_true rfl) (sX9_fault ((xs (i + 1).toNat).toInt) hC) (fun r _ h => ⟨h.choose, Or.inl h.choose_spec.1⟩) ?_
  intro r8 σ2 h8
  obtain ⟨x8, h81, h82, hPC⟩ := h8
  rw [h82] at h81
  subst h81
  change lW p l e s m below meth c D cA ad1 ad2 b 365 [some (zR 0), some (zR 1), some (zR 2), some (zI i)] [zI x9] σ2 μ
  refine lW_aload_n C (pc' := 366) dL_law_365 rfl rfl rfl ?_
  refine lW_aload_n C (pc' := 367) dL_law_366 rfl rfl rfl ?_
  refine lW_iload_n C (pc' := 368) dL_law_367 rfl rfl rfl ?_
  refine lW_iconst C (pc' := 369) dL_law_368 rfl ⟨by decide, by decide⟩ ?_
  refine lW_iadd C (pc' := 370) dL_law_369 rfl ⟨by omega, by omega⟩ ?_
  refine lW_sld C (pc' := 371) dL_law_370 rfl (by omega) (by omega) ?_
  refine lW_callM C (pc' := 374) (ys := [(xs (i + 1).toNat).toInt]) (st := [zI x9]) zlc_fault_M rfl dL_law_371 rfl rfl rfl (Nat.le_of_ble_eq_true rfl) (sX10_fault ((xs (i + 1).toNat).toInt) hM) (fun r _ h => ⟨h.choose, Or.inl h.choose_spec.1⟩) ?_
  intro r8 μ2 h8
  obtain ⟨x8, h81, h82, hPM⟩ := h8
  rw [h82] at h81
  subst h81
  change lW p l e s m below meth c D cA ad1 ad2 b 374 [some (zR 0), some (zR 1), some (zR 2), some (zI i)] [zI x9, zI x9] σ2 μ2
  exact lW_same C (tgt := 1345) dL_law_374 (by decide) (kk σ2 μ2 (hR σ2 μ2 hPC hPM))
theorem lc_house {p : Program} {l : Launch} {e : Env} {s : State} {m : MethodId} {below : List Frame} {meth : Method} {c : Code} {D : va_G} {cA : Nat → ClassId} {ad1 ad2 : Nat → Nat} {b Lx : Nat} {xs : Nat → Int32} (C : lCx p s m meth c D cA ad1 ad2 b Lx xs) {R2 : zS → zS → Prop} (i : Int) (h0 : 0 ≤ i) (h1 : i + 5 < (Lx : Int)) (hL : Lx ≤ 3072) (σ μ : zS) (hE : zE R2 (vX9_house ((xs (i + 1).toNat).toInt) ((xs (i + 2).toNat).toInt) σ) (vX10_house ((xs (i + 1).toNat).toInt) ((xs (i + 2).toNat).toInt) μ)) (kk : ∀ σ2 μ2, R2 σ2 μ2 → lW p l e s m below meth c D cA ad1 ad2 b 1345 [some (zR 0), some (zR 1), some (zR 2), some (zI i)] [] σ2 μ2) : lW p l e s m below meth c D cA ad1 ad2 b 379 [some (zR 0), some (zR 1), some (zR 2), some (zI i)] [] σ μ := by
  obtain ⟨x9, PC, PM, hC, hM, hR⟩ := hE
  refine lW_aload_n C (pc' := 380) dL_law_379 rfl rfl rfl ?_
  refine lW_aload_n C (pc' := 381) dL_law_380 rfl rfl rfl ?_
  refine lW_iload_n C (pc' := 382) dL_law_381 rfl rfl rfl ?_
  refine lW_iconst C (pc' := 383) dL_law_382 rfl ⟨by decide, by decide⟩ ?_
  refine lW_iadd C (pc' := 384) dL_law_383 rfl ⟨by omega, by omega⟩ ?_
  refine lW_sld C (pc' := 385) dL_law_384 rfl (by omega) (by omega) ?_
  refine lW_aload_n C (pc' := 386) dL_law_385 rfl rfl rfl ?_
  refine lW_iload_n C (pc' := 387) dL_law_386 rfl rfl rfl ?_
  refine lW_iconst C (pc' := 388) dL_law_387 rfl ⟨by decide, by decide⟩ ?_
  refine lW_iadd C (pc' := 389) dL_law_388 rfl ⟨by omega, by omega⟩ ?_
  refine lW_sld C (pc' := 390) dL_law_389 rfl (by omega) (by omega) ?_
  refine lW_callC C (pc' := 393) (ys := [(xs (i + 1).toNat).toInt, (xs (i + 2).toNat).toInt]) (st := []) zlc_house_C rfl dL_law_390 rfl rfl rfl (Nat.le_of_ble_eq_true rfl) (sX9_house ((xs (i + 1).toNat).toInt) ((xs (i + 2).toNat).toInt) hC) (fun r _ h => ⟨h.choose, Or.inl h.choose_spec.1⟩) ?_
  intro r8 σ2 h8
  obtain ⟨x8, h81, h82, hPC⟩ := h8
  rw [h82] at h81
  subst h81
  change lW p l e s m below meth c D cA ad1 ad2 b 393 [some (zR 0), some (zR 1), some (zR 2), some (zI i)] [zI x9] σ2 μ
  refine lW_aload_n C (pc' := 394) dL_law_393 rfl rfl rfl ?_
  refine lW_aload_n C (pc' := 395) dL_law_394 rfl rfl rfl ?_
  refine lW_iload_n C (pc' := 396) dL_law_395 rfl rfl rfl ?_
  refine lW_iconst C (pc' := 397) dL_law_396 rfl ⟨by decide, by decide⟩ ?_
  refine lW_iadd C (pc' := 398) dL_law_397 rfl ⟨by omega, by omega⟩ ?_
  refine lW_sld C (pc' := 399) dL_law_398 rfl (by omega) (by omega) ?_
  refine lW_aload_n C (pc' := 400) dL_law_399 rfl rfl rfl ?_
  refine lW_iload_n C (pc' := 401) dL_law_400 rfl rfl rfl ?_
  refine lW_iconst C (pc' := 402) dL_law_401 rfl ⟨by decide, by decide⟩ ?_
  refine lW_iadd C (pc' := 403) dL_law_402 rfl ⟨by omega, by omega⟩ ?_
  refine lW_sld C (pc' := 404) dL_law_403 rfl (by omega) (by omega) ?_
  refine lW_callM C (pc' := 407) (ys := [(xs (i + 1).toNat).toInt, (xs (i + 2).toNat).toInt]) (st := [zI x9]) zlc_house_M rfl dL_law_404 rfl rfl rfl (Nat.le_of_ble_eq_true rfl) (sX10_house ((xs (i + 1).toNat).toInt) ((xs (i + 2).toNat).toInt) hM) (fun r _ h => ⟨h.choose, Or.inl h.choose_spec.1⟩) ?_
  intro r8 μ2 h8
  obtain ⟨x8, h81, h82, hPM⟩ := h8
  rw [h82] at h81
  subst h81
  change lW p l e s m below meth c D cA ad1 ad2 b 407 [some (zR 0), some (zR 1), some (zR 2), some (zI i)] [zI x9, zI x9] σ2 μ2
  exact lW_same C (tgt := 1345) dL_law_407 (by decide) (kk σ2 μ2 (hR σ2 μ2 hPC hPM))
theorem lc_takes {p : Program} {l : Launch} {e : Env} {s : State} {m : MethodId} {below : List Frame} {meth : Method} {c : Code} {D : va_G} {cA : Nat → ClassId} {ad1 ad2 : Nat → Nat} {b Lx : Nat} {xs : Nat → Int32} (C : lCx p s m meth c D cA ad1 ad2 b Lx xs) {R2 : zS → zS → Prop} (i : Int) (h0 : 0 ≤ i) (h1 : i + 5 < (Lx : Int)) (hL : Lx ≤ 3072) (σ μ : zS) (hE : zE R2 (vX9_takes ((xs (i + 1).toNat).toInt) ((xs (i + 2).toNat).toInt) σ) (vX10_takes ((xs (i + 1).toNat).toInt) ((xs (i + 2).toNat).toInt) μ)) (kk : ∀ σ2 μ2, R2 σ2 μ2 → lW p l e s m below meth c D cA ad1 ad2 b 1345 [some (zR 0), some (zR 1), some (zR 2), some (zI i)] [] σ2 μ2) : lW p l e s m below meth c D cA ad1 ad2 b 412 [some (zR 0), some (zR 1), some (zR 2), some (zI i)] [] σ μ := by
  obtain ⟨x9, PC, PM, hC, hM, hR⟩ := hE
  refine lW_aload_n C (pc' := 413) dL_law_412 rfl rfl rfl ?_
  refine lW_aload_n C (pc' := 414) dL_law_413 rfl rfl rfl ?_
  refine lW_iload_n C (pc' := 415) dL_law_414 rfl rfl rfl ?_
  refine lW_iconst C (pc' := 416) dL_law_415 rfl ⟨by decide, by decide⟩ ?_
  refine lW_iadd C (pc' := 417) dL_law_416 rfl ⟨by omega, by omega⟩ ?_
  refine lW_sld C (pc' := 418) dL_law_417 rfl (by omega) (by omega) ?_
  refine lW_aload_n C (pc' := 419) dL_law_418 rfl rfl rfl ?_
  refine lW_iload_n C (pc' := 420) dL_law_419 rfl rfl rfl ?_
  refine lW_iconst C (pc' := 421) dL_law_420 rfl ⟨by decide, by decide⟩ ?_
  refine lW_iadd C (pc' := 422) dL_law_421 rfl ⟨by omega, by omega⟩ ?_
  refine lW_sld C (pc' := 423) dL_law_422 rfl (by omega) (by omega) ?_
  refine lW_callC C (pc' := 426) (ys := [(xs (i + 1).toNat).toInt, (xs (i + 2).toNat).toInt]) (st := []) zlc_takes_C rfl dL_law_423 rfl rfl rfl (Nat.le_of_ble_eq_true rfl) (sX9_takes ((xs (i + 1).toNat).toInt) ((xs (i + 2).toNat).toInt) hC) (fun r _ h => ⟨h.choose, Or.inl h.choose_spec.1⟩) ?_
  intro r8 σ2 h8
  obtain ⟨x8, h81, h82, hPC⟩ := h8
  rw [h82] at h81
  subst h81
  change lW p l e s m below meth c D cA ad1 ad2 b 426 [some (zR 0), some (zR 1), some (zR 2), some (zI i)] [zI x9] σ2 μ
  refine lW_aload_n C (pc' := 427) dL_law_426 rfl rfl rfl ?_
  refine lW_aload_n C (pc' := 428) dL_law_427 rfl rfl rfl ?_
  refine lW_iload_n C (pc' := 429) dL_law_428 rfl rfl rfl ?_
  refine lW_iconst C (pc' := 430) dL_law_429 rfl ⟨by decide, by decide⟩ ?_
  refine lW_iadd C (pc' := 431) dL_law_430 rfl ⟨by omega, by omega⟩ ?_
  refine lW_sld C (pc' := 432) dL_law_431 rfl (by omega) (by omega) ?_
  refine lW_aload_n C (pc' := 433) dL_law_432 rfl rfl rfl ?_
  refine lW_iload_n C (pc' := 434) dL_law_433 rfl rfl rfl ?_
  refine lW_iconst C (pc' := 435) dL_law_434 rfl ⟨by decide, by decide⟩ ?_
  refine lW_iadd C (pc' := 436) dL_law_435 rfl ⟨by omega, by omega⟩ ?_
  refine lW_sld C (pc' := 437) dL_law_436 rfl (by omega) (by omega) ?_
  refine lW_callM C (pc' := 440) (ys := [(xs (i + 1).toNat).toInt, (xs (i + 2).toNat).toInt]) (st := [zI x9]) zlc_takes_M rfl dL_law_437 rfl rfl rfl (Nat.le_of_ble_eq_true rfl) (sX10_takes ((xs (i + 1).toNat).toInt) ((xs (i + 2).toNat).toInt) hM) (fun r _ h => ⟨h.choose, Or.inl h.choose_spec.1⟩) ?_
  intro r8 μ2 h8
  obtain ⟨x8, h81, h82, hPM⟩ := h8
  rw [h82] at h81
  subst h81
  change lW p l e s m below meth c D cA ad1 ad2 b 440 [some (zR 0), some (zR 1), some (zR 2), some (zI i)] [zI x9, zI x9] σ2 μ2
  exact lW_same C (tgt := 1345) dL_law_440 (by decide) (kk σ2 μ2 (hR σ2 μ2 hPC hPM))
theorem lc_judged {p : Program} {l : Launch} {e : Env} {s : State} {m : MethodId} {below : List Frame} {meth : Method} {c : Code} {D : va_G} {cA : Nat → ClassId} {ad1 ad2 : Nat → Nat} {b Lx : Nat} {xs : Nat → Int32} (C : lCx p s m meth c D cA ad1 ad2 b Lx xs) {R2 : zS → zS → Prop} (i : Int) (h0 : 0 ≤ i) (h1 : i + 5 < (Lx : Int)) (hL : Lx ≤ 3072) (σ μ : zS) (hE : zE R2 (vX9_judged ((xs (i + 1).toNat).toInt) σ) (vX10_judged ((xs (i + 1).toNat).toInt) μ)) (kk : ∀ σ2 μ2, R2 σ2 μ2 → lW p l e s m below meth c D cA ad1 ad2 b 1345 [some (zR 0), some (zR 1), some (zR 2), some (zI i)] [] σ2 μ2) : lW p l e s m below meth c D cA ad1 ad2 b 445 [some (zR 0), some (zR 1), some (zR 2), some (zI i)] [] σ μ := by
  obtain ⟨x9, PC, PM, hC, hM, hR⟩ := hE
  refine lW_aload_n C (pc' := 446) dL_law_445 rfl rfl rfl ?_
  refine lW_aload_n C (pc' := 447) dL_law_446 rfl rfl rfl ?_
  refine lW_iload_n C (pc' := 448) dL_law_447 rfl rfl rfl ?_
  refine lW_iconst C (pc' := 449) dL_law_448 rfl ⟨by decide, by decide⟩ ?_
  refine lW_iadd C (pc' := 450) dL_law_449 rfl ⟨by omega, by omega⟩ ?_
  refine lW_sld C (pc' := 451) dL_law_450 rfl (by omega) (by omega) ?_
  refine lW_callC C (pc' := 454) (ys := [(xs (i + 1).toNat).toInt]) (st := []) zlc_judged_C rfl dL_law_451 rfl rfl rfl (Nat.le_of_ble_eq_true rfl) (sX9_judged ((xs (i + 1).toNat).toInt) hC) (fun r _ h => ⟨h.choose, Or.inl h.choose_spec.1⟩) ?_
  intro r8 σ2 h8
  obtain ⟨x8, h81, h82, hPC⟩ := h8
  rw [h82] at h81
  subst h81
  change lW p l e s m below meth c D cA ad1 ad2 b 454 [some (zR 0), some (zR 1), some (zR 2), some (zI i)] [zI x9] σ2 μ
  refine lW_aload_n C (pc' := 455) dL_law_454 rfl rfl rfl ?_
  refine lW_aload_n C (pc' := 456) dL_law_455 rfl rfl rfl ?_
  refine lW_iload_n C (pc' := 457) dL_law_456 rfl rfl rfl ?_
  refine lW_iconst C (pc' := 458) dL_law_457 rfl ⟨by decide, by decide⟩ ?_
  refine lW_iadd C (pc' := 459) dL_law_458 rfl ⟨by omega, by omega⟩ ?_
  refine lW_sld C (pc' := 460) dL_law_459 rfl (by omega) (by omega) ?_
  refine lW_callM C (pc' := 463) (ys := [(xs (i + 1).toNat).toInt]) (st := [zI x9]) zlc_judged_M rfl dL_law_460 rfl rfl rfl (Nat.le_of_ble_eq_true rfl) (sX10_judged ((xs (i + 1).toNat).toInt) hM) (fun r _ h => ⟨h.choose, Or.inl h.choose_spec.1⟩) ?_
  intro r8 μ2 h8
  obtain ⟨x8, h81, h82, hPM⟩ := h8
  rw [h82] at h81
  subst h81
  change lW p l e s m below meth c D cA ad1 ad2 b 463 [some (zR 0), some (zR 1), some (zR 2), some (zI i)] [zI x9, zI x9] σ2 μ2
  exact lW_same C (tgt := 1345) dL_law_463 (by decide) (kk σ2 μ2 (hR σ2 μ2 hPC hPM))
theorem lc_ends {p : Program} {l : Launch} {e : Env} {s : State} {m : MethodId} {below : List Frame} {meth : Method} {c : Code} {D : va_G} {cA : Nat → ClassId} {ad1 ad2 : Nat → Nat} {b Lx : Nat} {xs : Nat → Int32} (C : lCx p s m meth c D cA ad1 ad2 b Lx xs) {R2 : zS → zS → Prop} (i : Int) (h0 : 0 ≤ i) (h1 : i + 5 < (Lx : Int)) (hL : Lx ≤ 3072) (σ μ : zS) (hE : zE R2 (vX9_ends ((xs (i + 1).toNat).toInt) σ) (vX10_ends ((xs (i + 1).toNat).toInt) μ)) (kk : ∀ σ2 μ2, R2 σ2 μ2 → lW p l e s m below meth c D cA ad1 ad2 b 1345 [some (zR 0), some (zR 1), some (zR 2), some (zI i)] [] σ2 μ2) : lW p l e s m below meth c D cA ad1 ad2 b 468 [some (zR 0), some (zR 1), some (zR 2), some (zI i)] [] σ μ := by
  obtain ⟨x9, PC, PM, hC, hM, hR⟩ := hE
  refine lW_aload_n C (pc' := 469) dL_law_468 rfl rfl rfl ?_
  refine lW_aload_n C (pc' := 470) dL_law_469 rfl rfl rfl ?_
  refine lW_iload_n C (pc' := 471) dL_law_470 rfl rfl rfl ?_
  refine lW_iconst C (pc' := 472) dL_law_471 rfl ⟨by decide, by decide⟩ ?_
  refine lW_iadd C (pc' := 473) dL_law_472 rfl ⟨by omega, by omega⟩ ?_
  refine lW_sld C (pc' := 474) dL_law_473 rfl (by omega) (by omega) ?_
  refine lW_callC C (pc' := 477) (ys := [(xs (i + 1).toNat).toInt]) (st := []) zlc_ends_C rfl dL_law_474 rfl rfl rfl (Nat.le_of_ble_eq_true rfl) (sX9_ends ((xs (i + 1).toNat).toInt) hC) (fun r _ h => ⟨h.choose, Or.inl h.choose_spec.1⟩) ?_
  intro r8 σ2 h8
  obtain ⟨x8, h81, h82, hPC⟩ := h8
  rw [h82] at h81
  subst h81
  change lW p l e s m below meth c D cA ad1 ad2 b 477 [some (zR 0), some (zR 1), some (zR 2), some (zI i)] [zI x9] σ2 μ
  refine lW_aload_n C (pc' := 478) dL_law_477 rfl rfl rfl ?_
  refine lW_aload_n C (pc' := 479) dL_law_478 rfl rfl rfl ?_
  refine lW_iload_n C (pc' := 480) dL_law_479 rfl rfl rfl ?_
  refine lW_iconst C (pc' := 481) dL_law_480 rfl ⟨by decide, by decide⟩ ?_
  refine lW_iadd C (pc' := 482) dL_law_481 rfl ⟨by omega, by omega⟩ ?_
  refine lW_sld C (pc' := 483) dL_law_482 rfl (by omega) (by omega) ?_
  refine lW_callM C (pc' := 486) (ys := [(xs (i + 1).toNat).toInt]) (st := [zI x9]) zlc_ends_M rfl dL_law_483 rfl rfl rfl (Nat.le_of_ble_eq_true rfl) (sX10_ends ((xs (i + 1).toNat).toInt) hM) (fun r _ h => ⟨h.choose, Or.inl h.choose_spec.1⟩) ?_
  intro r8 μ2 h8
  obtain ⟨x8, h81, h82, hPM⟩ := h8
  rw [h82] at h81
  subst h81
  change lW p l e s m below meth c D cA ad1 ad2 b 486 [some (zR 0), some (zR 1), some (zR 2), some (zI i)] [zI x9, zI x9] σ2 μ2
  exact lW_same C (tgt := 1345) dL_law_486 (by decide) (kk σ2 μ2 (hR σ2 μ2 hPC hPM))
theorem lc_queue {p : Program} {l : Launch} {e : Env} {s : State} {m : MethodId} {below : List Frame} {meth : Method} {c : Code} {D : va_G} {cA : Nat → ClassId} {ad1 ad2 : Nat → Nat} {b Lx : Nat} {xs : Nat → Int32} (C : lCx p s m meth c D cA ad1 ad2 b Lx xs) {R2 : zS → zS → Prop} (i : Int) (h0 : 0 ≤ i) (h1 : i + 5 < (Lx : Int)) (hL : Lx ≤ 3072) (σ μ : zS) (hE : zE R2 (vX9_queue ((xs (i + 1).toNat).toInt) ((xs (i + 2).toNat).toInt) σ) (vX10_queue ((xs (i + 1).toNat).toInt) ((xs (i + 2).toNat).toInt) μ)) (kk : ∀ σ2 μ2, R2 σ2 μ2 → lW p l e s m below meth c D cA ad1 ad2 b 1345 [some (zR 0), some (zR 1), some (zR 2), some (zI i)] [] σ2 μ2) : lW p l e s m below meth c D cA ad1 ad2 b 491 [some (zR 0), some (zR 1), some (zR 2), some (zI i)] [] σ μ := by
  obtain ⟨x9, PC, PM, hC, hM, hR⟩ := hE
  refine lW_aload_n C (pc' := 492) dL_law_491 rfl rfl rfl ?_
  refine lW_aload_n C (pc' := 493) dL_law_492 rfl rfl rfl ?_
  refine lW_iload_n C (pc' := 494) dL_law_493 rfl rfl rfl ?_
  refine lW_iconst C (pc' := 495) dL_law_494 rfl ⟨by decide, by decide⟩ ?_
  refine lW_iadd C (pc' := 496) dL_law_495 rfl ⟨by omega, by omega⟩ ?_
  refine lW_sld C (pc' := 497) dL_law_496 rfl (by omega) (by omega) ?_
  refine lW_aload_n C (pc' := 498) dL_law_497 rfl rfl rfl ?_
  refine lW_iload_n C (pc' := 499) dL_law_498 rfl rfl rfl ?_
  refine lW_iconst C (pc' := 500) dL_law_499 rfl ⟨by decide, by decide⟩ ?_
  refine lW_iadd C (pc' := 501) dL_law_500 rfl ⟨by omega, by omega⟩ ?_
  refine lW_sld C (pc' := 502) dL_law_501 rfl (by omega) (by omega) ?_
  refine lW_callC C (pc' := 505) (ys := [(xs (i + 1).toNat).toInt, (xs (i + 2).toNat).toInt]) (st := []) zlc_queue_C rfl dL_law_502 rfl rfl rfl (Nat.le_of_ble_eq_true rfl) (sX9_queue ((xs (i + 1).toNat).toInt) ((xs (i + 2).toNat).toInt) hC) (fun r _ h => ⟨h.choose, Or.inl h.choose_spec.1⟩) ?_
  intro r8 σ2 h8
  obtain ⟨x8, h81, h82, hPC⟩ := h8
  rw [h82] at h81
  subst h81
  change lW p l e s m below meth c D cA ad1 ad2 b 505 [some (zR 0), some (zR 1), some (zR 2), some (zI i)] [zI x9] σ2 μ
  refine lW_aload_n C (pc' := 506) dL_law_505 rfl rfl rfl ?_
  refine lW_aload_n C (pc' := 507) dL_law_506 rfl rfl rfl ?_
  refine lW_iload_n C (pc' := 508) dL_law_507 rfl rfl rfl ?_
  refine lW_iconst C (pc' := 509) dL_law_508 rfl ⟨by decide, by decide⟩ ?_
  refine lW_iadd C (pc' := 510) dL_law_509 rfl ⟨by omega, by omega⟩ ?_
  refine lW_sld C (pc' := 511) dL_law_510 rfl (by omega) (by omega) ?_
  refine lW_aload_n C (pc' := 512) dL_law_511 rfl rfl rfl ?_
  refine lW_iload_n C (pc' := 513) dL_law_512 rfl rfl rfl ?_
  refine lW_iconst C (pc' := 514) dL_law_513 rfl ⟨by decide, by decide⟩ ?_
  refine lW_iadd C (pc' := 515) dL_law_514 rfl ⟨by omega, by omega⟩ ?_
  refine lW_sld C (pc' := 516) dL_law_515 rfl (by omega) (by omega) ?_
  refine lW_callM C (pc' := 519) (ys := [(xs (i + 1).toNat).toInt, (xs (i + 2).toNat).toInt]) (st := [zI x9]) zlc_queue_M rfl dL_law_516 rfl rfl rfl (Nat.le_of_ble_eq_true rfl) (sX10_queue ((xs (i + 1).toNat).toInt) ((xs (i + 2).toNat).toInt) hM) (fun r _ h => ⟨h.choose, Or.inl h.choose_spec.1⟩) ?_
  intro r8 μ2 h8
  obtain ⟨x8, h81, h82, hPM⟩ := h8
  rw [h82] at h81
  subst h81
  change lW p l e s m below meth c D cA ad1 ad2 b 519 [some (zR 0), some (zR 1), some (zR 2), some (zI i)] [zI x9, zI x9] σ2 μ2
  exact lW_same C (tgt := 1345) dL_law_519 (by decide) (kk σ2 μ2 (hR σ2 μ2 hPC hPM))
theorem lc_needs {p : Program} {l : Launch} {e : Env} {s : State} {m : MethodId} {below : List Frame} {meth : Method} {c : Code} {D : va_G} {cA : Nat → ClassId} {ad1 ad2 : Nat → Nat} {b Lx : Nat} {xs : Nat → Int32} (C : lCx p s m meth c D cA ad1 ad2 b Lx xs) {R2 : zS → zS → Prop} (i : Int) (h0 : 0 ≤ i) (h1 : i + 5 < (Lx : Int)) (hL : Lx ≤ 3072) (σ μ : zS) (hE : zE R2 (vX9_needs ((xs (i + 1).toNat).toInt) σ) (vX10_needs ((xs (i + 1).toNat).toInt) μ)) (kk : ∀ σ2 μ2, R2 σ2 μ2 → lW p l e s m below meth c D cA ad1 ad2 b 1345 [some (zR 0), some (zR 1), some (zR 2), some (zI i)] [] σ2 μ2) : lW p l e s m below meth c D cA ad1 ad2 b 524 [some (zR 0), some (zR 1), some (zR 2), some (zI i)] [] σ μ := by
  obtain ⟨x9, PC, PM, hC, hM, hR⟩ := hE
  refine lW_aload_n C (pc' := 525) dL_law_524 rfl rfl rfl ?_
  refine lW_aload_n C (pc' := 526) dL_law_525 rfl rfl rfl ?_
  refine lW_iload_n C (pc' := 527) dL_law_526 rfl rfl rfl ?_
  refine lW_iconst C (pc' := 528) dL_law_527 rfl ⟨by decide, by decide⟩ ?_
  refine lW_iadd C (pc' := 529) dL_law_528 rfl ⟨by omega, by omega⟩ ?_
  refine lW_sld C (pc' := 530) dL_law_529 rfl (by omega) (by omega) ?_
  refine lW_callC C (pc' := 533) (ys := [(xs (i + 1).toNat).toInt]) (st := []) zlc_needs_C rfl dL_law_530 rfl rfl rfl (Nat.le_of_ble_eq_true rfl) (sX9_needs ((xs (i + 1).toNat).toInt) hC) (fun r _ h => ⟨h.choose, Or.inl h.choose_spec.1⟩) ?_
  intro r8 σ2 h8
  obtain ⟨x8, h81, h82, hPC⟩ := h8
  rw [h82] at h81
  subst h81
  change lW p l e s m below meth c D cA ad1 ad2 b 533 [some (zR 0), some (zR 1), some (zR 2), some (zI i)] [zI x9] σ2 μ
  refine lW_aload_n C (pc' := 534) dL_law_533 rfl rfl rfl ?_
  refine lW_aload_n C (pc' := 535) dL_law_534 rfl rfl rfl ?_
  refine lW_iload_n C (pc' := 536) dL_law_535 rfl rfl rfl ?_
  refine lW_iconst C (pc' := 537) dL_law_536 rfl ⟨by decide, by decide⟩ ?_
  refine lW_iadd C (pc' := 538) dL_law_537 rfl ⟨by omega, by omega⟩ ?_
  refine lW_sld C (pc' := 539) dL_law_538 rfl (by omega) (by omega) ?_
  refine lW_callM C (pc' := 542) (ys := [(xs (i + 1).toNat).toInt]) (st := [zI x9]) zlc_needs_M rfl dL_law_539 rfl rfl rfl (Nat.le_of_ble_eq_true rfl) (sX10_needs ((xs (i + 1).toNat).toInt) hM) (fun r _ h => ⟨h.choose, Or.inl h.choose_spec.1⟩) ?_
  intro r8 μ2 h8
  obtain ⟨x8, h81, h82, hPM⟩ := h8
  rw [h82] at h81
  subst h81
  change lW p l e s m below meth c D cA ad1 ad2 b 542 [some (zR 0), some (zR 1), some (zR 2), some (zI i)] [zI x9, zI x9] σ2 μ2
  exact lW_same C (tgt := 1345) dL_law_542 (by decide) (kk σ2 μ2 (hR σ2 μ2 hPC hPM))
theorem lc_fewest {p : Program} {l : Launch} {e : Env} {s : State} {m : MethodId} {below : List Frame} {meth : Method} {c : Code} {D : va_G} {cA : Nat → ClassId} {ad1 ad2 : Nat → Nat} {b Lx : Nat} {xs : Nat → Int32} (C : lCx p s m meth c D cA ad1 ad2 b Lx xs) {R2 : zS → zS → Prop} (i : Int) (h0 : 0 ≤ i) (h1 : i + 5 < (Lx : Int)) (hL : Lx ≤ 3072) (σ μ : zS) (hE : zE R2 (vX9_fewest ((xs (i + 1).toNat).toInt) σ) (vX10_fewest ((xs (i + 1).toNat).toInt) μ)) (kk : ∀ σ2 μ2, R2 σ2 μ2 → lW p l e s m below meth c D cA ad1 ad2 b 1345 [some (zR 0), some (zR 1), some (zR 2), some (zI i)] [] σ2 μ2) : lW p l e s m below meth c D cA ad1 ad2 b 547 [some (zR 0), some (zR 1), some (zR 2), some (zI i)] [] σ μ := by
  obtain ⟨x9, PC, PM, hC, hM, hR⟩ := hE
  refine lW_aload_n C (pc' := 548) dL_law_547 rfl rfl rfl ?_
  refine lW_aload_n C (pc' := 549) dL_law_548 rfl rfl rfl ?_
  refine lW_iload_n C (pc' := 550) dL_law_549 rfl rfl rfl ?_
  refine lW_iconst C (pc' := 551) dL_law_550 rfl ⟨by decide, by decide⟩ ?_
  refine lW_iadd C (pc' := 552) dL_law_551 rfl ⟨by omega, by omega⟩ ?_
  refine lW_sld C (pc' := 553) dL_law_552 rfl (by omega) (by omega) ?_
  refine lW_callC C (pc' := 556) (ys := [(xs (i + 1).toNat).toInt]) (st := []) zlc_fewest_C rfl dL_law_553 rfl rfl rfl (Nat.le_of_ble_eq_true rfl) (sX9_fewest ((xs (i + 1).toNat).toInt) hC) (fun r _ h => ⟨h.choose, Or.inl h.choose_spec.1⟩) ?_
  intro r8 σ2 h8
  obtain ⟨x8, h81, h82, hPC⟩ := h8
  rw [h82] at h81
  subst h81
  change lW p l e s m below meth c D cA ad1 ad2 b 556 [some (zR 0), some (zR 1), some (zR 2), some (zI i)] [zI x9] σ2 μ
  refine lW_aload_n C (pc' := 557) dL_law_556 rfl rfl rfl ?_
  refine lW_aload_n C (pc' := 558) dL_law_557 rfl rfl rfl ?_
  refine lW_iload_n C (pc' := 559) dL_law_558 rfl rfl rfl ?_
  refine lW_iconst C (pc' := 560) dL_law_559 rfl ⟨by decide, by decide⟩ ?_
  refine lW_iadd C (pc' := 561) dL_law_560 rfl ⟨by omega, by omega⟩ ?_
  refine lW_sld C (pc' := 562) dL_law_561 rfl (by omega) (by omega) ?_
  refine lW_callM C (pc' := 565) (ys := [(xs (i + 1).toNat).toInt]) (st := [zI x9]) zlc_fewest_M rfl dL_law_562 rfl rfl rfl (Nat.le_of_ble_eq_true rfl) (sX10_fewest ((xs (i + 1).toNat).toInt) hM) (fun r _ h => ⟨h.choose, Or.inl h.choose_spec.1⟩) ?_
  intro r8 μ2 h8
  obtain ⟨x8, h81, h82, hPM⟩ := h8
  rw [h82] at h81
  subst h81
  change lW p l e s m below meth c D cA ad1 ad2 b 565 [some (zR 0), some (zR 1), some (zR 2), some (zI i)] [zI x9, zI x9] σ2 μ2
  exact lW_same C (tgt := 1345) dL_law_565 (by decide) (kk σ2 μ2 (hR σ2 μ2 hPC hPM))
theorem lc_turn {p : Program} {l : Launch} {e : Env} {s : State} {m : MethodId} {below : List Frame} {meth : Method} {c : Code} {D : va_G} {cA : Nat → ClassId} {ad1 ad2 : Nat → Nat} {b Lx : Nat} {xs : Nat → Int32} (C : lCx p s m meth c D cA ad1 ad2 b Lx xs) {R2 : zS → zS → Prop} (i : Int) (h0 : 0 ≤ i) (h1 : i + 5 < (Lx : Int)) (hL : Lx ≤ 3072) (σ μ : zS) (hE : zE R2 (vX9_turn ((xs (i + 1).toNat).toInt) ((xs (i + 2).toNat).toInt) σ) (vX10_turn ((xs (i + 1).toNat).toInt) ((xs (i + 2).toNat).toInt) μ)) (kk : ∀ σ2 μ2, R2 σ2 μ2 → lW p l e s m below meth c D cA ad1 ad2 b 1345 [some (zR 0), some (zR 1), some (zR 2), some (zI i)] [] σ2 μ2) : lW p l e s m below meth c D cA ad1 ad2 b 570 [some (zR 0), some (zR 1), some (zR 2), some (zI i)] [] σ μ := by
  obtain ⟨x9, PC, PM, hC, hM, hR⟩ := hE
  refine lW_aload_n C (pc' := 571) dL_law_570 rfl rfl rfl ?_
  refine lW_aload_n C (pc' := 572) dL_law_571 rfl rfl rfl ?_
  refine lW_iload_n C (pc' := 573) dL_law_572 rfl rfl rfl ?_
  refine lW_iconst C (pc' := 574) dL_law_573 rfl ⟨by decide, by decide⟩ ?_
  refine lW_iadd C (pc' := 575) dL_law_574 rfl ⟨by omega, by omega⟩ ?_
  refine lW_sld C (pc' := 576) dL_law_575 rfl (by omega) (by omega) ?_
  refine lW_aload_n C (pc' := 577) dL_law_576 rfl rfl rfl ?_
  refine lW_iload_n C (pc' := 578) dL_law_577 rfl rfl rfl ?_
  refine lW_iconst C (pc' := 579) dL_law_578 rfl ⟨by decide, by decide⟩ ?_
  refine lW_iadd C (pc' := 580) dL_law_579 rfl ⟨by omega, by omega⟩ ?_
  refine lW_sld C (pc' := 581) dL_law_580 rfl (by omega) (by omega) ?_
  refine lW_callC C (pc' := 584) (ys := [(xs (i + 1).toNat).toInt, (xs (i + 2).toNat).toInt]) (st := []) zlc_turn_C rfl dL_law_581 rfl rfl rfl (Nat.le_of_ble_eq_true rfl) (sX9_turn ((xs (i + 1).toNat).toInt) ((xs (i + 2).toNat).toInt) hC) (fun r _ h => ⟨h.choose, Or.inl h.choose_spec.1⟩) ?_
  intro r8 σ2 h8
  obtain ⟨x8, h81, h82, hPC⟩ := h8
  rw [h82] at h81
  subst h81
  change lW p l e s m below meth c D cA ad1 ad2 b 584 [some (zR 0), some (zR 1), some (zR 2), some (zI i)] [zI x9] σ2 μ
  refine lW_aload_n C (pc' := 585) dL_law_584 rfl rfl rfl ?_
  refine lW_aload_n C (pc' := 586) dL_law_585 rfl rfl rfl ?_
  refine lW_iload_n C (pc' := 587) dL_law_586 rfl rfl rfl ?_
  refine lW_iconst C (pc' := 588) dL_law_587 rfl ⟨by decide, by decide⟩ ?_
  refine lW_iadd C (pc' := 589) dL_law_588 rfl ⟨by omega, by omega⟩ ?_
  refine lW_sld C (pc' := 590) dL_law_589 rfl (by omega) (by omega) ?_
  refine lW_aload_n C (pc' := 591) dL_law_590 rfl rfl rfl ?_
  refine lW_iload_n C (pc' := 592) dL_law_591 rfl rfl rfl ?_
  refine lW_iconst C (pc' := 593) dL_law_592 rfl ⟨by decide, by decide⟩ ?_
  refine lW_iadd C (pc' := 594) dL_law_593 rfl ⟨by omega, by omega⟩ ?_
  refine lW_sld C (pc' := 595) dL_law_594 rfl (by omega) (by omega) ?_
  refine lW_callM C (pc' := 598) (ys := [(xs (i + 1).toNat).toInt, (xs (i + 2).toNat).toInt]) (st := [zI x9]) zlc_turn_M rfl dL_law_595 rfl rfl rfl (Nat.le_of_ble_eq_true rfl) (sX10_turn ((xs (i + 1).toNat).toInt) ((xs (i + 2).toNat).toInt) hM) (fun r _ h => ⟨h.choose, Or.inl h.choose_spec.1⟩) ?_
  intro r8 μ2 h8
  obtain ⟨x8, h81, h82, hPM⟩ := h8
  rw [h82] at h81
  subst h81
  change lW p l e s m below meth c D cA ad1 ad2 b 598 [some (zR 0), some (zR 1), some (zR 2), some (zI i)] [zI x9, zI x9] σ2 μ2
  exact lW_same C (tgt := 1345) dL_law_598 (by decide) (kk σ2 μ2 (hR σ2 μ2 hPC hPM))
theorem lc_owed {p : Program} {l : Launch} {e : Env} {s : State} {m : MethodId} {below : List Frame} {meth : Method} {c : Code} {D : va_G} {cA : Nat → ClassId} {ad1 ad2 : Nat → Nat} {b Lx : Nat} {xs : Nat → Int32} (C : lCx p s m meth c D cA ad1 ad2 b Lx xs) {R2 : zS → zS → Prop} (i : Int) (h0 : 0 ≤ i) (h1 : i + 5 < (Lx : Int)) (hL : Lx ≤ 3072) (σ μ : zS) (hE : zE R2 (vX9_owed ((xs (i + 1).toNat).toInt) ((xs (i + 2).toNat).toInt) σ) (vX10_owed ((xs (i + 1).toNat).toInt) ((xs (i + 2).toNat).toInt) μ)) (kk : ∀ σ2 μ2, R2 σ2 μ2 → lW p l e s m below meth c D cA ad1 ad2 b 1345 [some (zR 0), some (zR 1), some (zR 2), some (zI i)] [] σ2 μ2) : lW p l e s m below meth c D cA ad1 ad2 b 603 [some (zR 0), some (zR 1), some (zR 2), some (zI i)] [] σ μ := by
  obtain ⟨x9, PC, PM, hC, hM, hR⟩ := hE
  refine lW_aload_n C (pc' := 604) dL_law_603 rfl rfl rfl ?_
  refine lW_aload_n C (pc' := 605) dL_law_604 rfl rfl rfl ?_
  refine lW_iload_n C (pc' := 606) dL_law_605 rfl rfl rfl ?_
  refine lW_iconst C (pc' := 607) dL_law_606 rfl ⟨by decide, by decide⟩ ?_
  refine lW_iadd C (pc' := 608) dL_law_607 rfl ⟨by omega, by omega⟩ ?_
  refine lW_sld C (pc' := 609) dL_law_608 rfl (by omega) (by omega) ?_
  refine lW_aload_n C (pc' := 610) dL_law_609 rfl rfl rfl ?_
  refine lW_iload_n C (pc' := 611) dL_law_610 rfl rfl rfl ?_
  refine lW_iconst C (pc' := 612) dL_law_611 rfl ⟨by decide, by decide⟩ ?_
  refine lW_iadd C (pc' := 613) dL_law_612 rfl ⟨by omega, by omega⟩ ?_
  refine lW_sld C (pc' := 614) dL_law_613 rfl (by omega) (by omega) ?_
  refine lW_callC C (pc' := 617) (ys := [(xs (i + 1).toNat).toInt, (xs (i + 2).toNat).toInt]) (st := []) zlc_owed_C rfl dL_law_614 rfl rfl rfl (Nat.le_of_ble_eq_true rfl) (sX9_owed ((xs (i + 1).toNat).toInt) ((xs (i + 2).toNat).toInt) hC) (fun r _ h => ⟨h.choose, Or.inl h.choose_spec.1⟩) ?_
  intro r8 σ2 h8
  obtain ⟨x8, h81, h82, hPC⟩ := h8
  rw [h82] at h81
  subst h81
  change lW p l e s m below meth c D cA ad1 ad2 b 617 [some (zR 0), some (zR 1), some (zR 2), some (zI i)] [zI x9] σ2 μ
  refine lW_aload_n C (pc' := 618) dL_law_617 rfl rfl rfl ?_
  refine lW_aload_n C (pc' := 619) dL_law_618 rfl rfl rfl ?_
  refine lW_iload_n C (pc' := 620) dL_law_619 rfl rfl rfl ?_
  refine lW_iconst C (pc' := 621) dL_law_620 rfl ⟨by decide, by decide⟩ ?_
  refine lW_iadd C (pc' := 622) dL_law_621 rfl ⟨by omega, by omega⟩ ?_
  refine lW_sld C (pc' := 623) dL_law_622 rfl (by omega) (by omega) ?_
  refine lW_aload_n C (pc' := 624) dL_law_623 rfl rfl rfl ?_
  refine lW_iload_n C (pc' := 625) dL_law_624 rfl rfl rfl ?_
  refine lW_iconst C (pc' := 626) dL_law_625 rfl ⟨by decide, by decide⟩ ?_
  refine lW_iadd C (pc' := 627) dL_law_626 rfl ⟨by omega, by omega⟩ ?_
  refine lW_sld C (pc' := 628) dL_law_627 rfl (by omega) (by omega) ?_
  refine lW_callM C (pc' := 631) (ys := [(xs (i + 1).toNat).toInt, (xs (i + 2).toNat).toInt]) (st := [zI x9]) zlc_owed_M rfl dL_law_628 rfl rfl rfl (Nat.le_of_ble_eq_true rfl) (sX10_owed ((xs (i + 1).toNat).toInt) ((xs (i + 2).toNat).toInt) hM) (fun r _ h => ⟨h.choose, Or.inl h.choose_spec.1⟩) ?_
  intro r8 μ2 h8
  obtain ⟨x8, h81, h82, hPM⟩ := h8
  rw [h82] at h81
  subst h81
  change lW p l e s m below meth c D cA ad1 ad2 b 631 [some (zR 0), some (zR 1), some (zR 2), some (zI i)] [zI x9, zI x9] σ2 μ2
  exact lW_same C (tgt := 1345) dL_law_631 (by decide) (kk σ2 μ2 (hR σ2 μ2 hPC hPM))
theorem lc_broken {p : Program} {l : Launch} {e : Env} {s : State} {m : MethodId} {below : List Frame} {meth : Method} {c : Code} {D : va_G} {cA : Nat → ClassId} {ad1 ad2 : Nat → Nat} {b Lx : Nat} {xs : Nat → Int32} (C : lCx p s m meth c D cA ad1 ad2 b Lx xs) {R2 : zS → zS → Prop} (i : Int) (h0 : 0 ≤ i) (h1 : i + 5 < (Lx : Int)) (hL : Lx ≤ 3072) (σ μ : zS) (hE : zE R2 (vX9_broken ((xs (i + 1).toNat).toInt) ((xs (i + 2).toNat).toInt) σ) (vX10_broken ((xs (i + 1).toNat).toInt) ((xs (i + 2).toNat).toInt) μ)) (kk : ∀ σ2 μ2, R2 σ2 μ2 → lW p l e s m below meth c D cA ad1 ad2 b 1345 [some (zR 0), some (zR 1), some (zR 2), some (zI i)] [] σ2 μ2) : lW p l e s m below meth c D cA ad1 ad2 b 636 [some (zR 0), some (zR 1), some (zR 2), some (zI i)] [] σ μ := by
  obtain ⟨x9, PC, PM, hC, hM, hR⟩ := hE
  refine lW_aload_n C (pc' := 637) dL_law_636 rfl rfl rfl ?_
  refine lW_aload_n C (pc' := 638) dL_law_637 rfl rfl rfl ?_
  refine lW_iload_n C (pc' := 639) dL_law_638 rfl rfl rfl ?_
  refine lW_iconst C (pc' := 640) dL_law_639 rfl ⟨by decide, by decide⟩ ?_
  refine lW_iadd C (pc' := 641) dL_law_640 rfl ⟨by omega, by omega⟩ ?_
  refine lW_sld C (pc' := 642) dL_law_641 rfl (by omega) (by omega) ?_
  refine lW_aload_n C (pc' := 643) dL_law_642 rfl rfl rfl ?_
  refine lW_iload_n C (pc' := 644) dL_law_643 rfl rfl rfl ?_
  refine lW_iconst C (pc' := 645) dL_law_644 rfl ⟨by decide, by decide⟩ ?_
  refine lW_iadd C (pc' := 646) dL_law_645 rfl ⟨by omega, by omega⟩ ?_
  refine lW_sld C (pc' := 647) dL_law_646 rfl (by omega) (by omega) ?_
  refine lW_callC C (pc' := 650) (ys := [(xs (i + 1).toNat).toInt, (xs (i + 2).toNat).toInt]) (st := []) zlc_broken_C rfl dL_law_647 rfl rfl rfl (Nat.le_of_ble_eq_true rfl) (sX9_broken ((xs (i + 1).toNat).toInt) ((xs (i + 2).toNat).toInt) hC) (fun r _ h => ⟨h.choose, Or.inl h.choose_spec.1⟩) ?_
  intro r8 σ2 h8
  obtain ⟨x8, h81, h82, hPC⟩ := h8
  rw [h82] at h81
  subst h81
  change lW p l e s m below meth c D cA ad1 ad2 b 650 [some (zR 0), some (zR 1), some (zR 2), some (zI i)] [zI x9] σ2 μ
  refine lW_aload_n C (pc' := 651) dL_law_650 rfl rfl rfl ?_
  refine lW_aload_n C (pc' := 652) dL_law_651 rfl rfl rfl ?_
  refine lW_iload_n C (pc' := 653) dL_law_652 rfl rfl rfl ?_
  refine lW_iconst C (pc' := 654) dL_law_653 rfl ⟨by decide, by decide⟩ ?_
  refine lW_iadd C (pc' := 655) dL_law_654 rfl ⟨by omega, by omega⟩ ?_
  refine lW_sld C (pc' := 656) dL_law_655 rfl (by omega) (by omega) ?_
  refine lW_aload_n C (pc' := 657) dL_law_656 rfl rfl rfl ?_
  refine lW_iload_n C (pc' := 658) dL_law_657 rfl rfl rfl ?_
  refine lW_iconst C (pc' := 659) dL_law_658 rfl ⟨by decide, by decide⟩ ?_
  refine lW_iadd C (pc' := 660) dL_law_659 rfl ⟨by omega, by omega⟩ ?_
  refine lW_sld C (pc' := 661) dL_law_660 rfl (by omega) (by omega) ?_
  refine lW_callM C (pc' := 664) (ys := [(xs (i + 1).toNat).toInt, (xs (i + 2).toNat).toInt]) (st := [zI x9]) zlc_broken_M rfl dL_law_661 rfl rfl rfl (Nat.le_of_ble_eq_true rfl) (sX10_broken ((xs (i + 1).toNat).toInt) ((xs (i + 2).toNat).toInt) hM) (fun r _ h => ⟨h.choose, Or.inl h.choose_spec.1⟩) ?_
  intro r8 μ2 h8
  obtain ⟨x8, h81, h82, hPM⟩ := h8
  rw [h82] at h81
  subst h81
  change lW p l e s m below meth c D cA ad1 ad2 b 664 [some (zR 0), some (zR 1), some (zR 2), some (zI i)] [zI x9, zI x9] σ2 μ2
  exact lW_same C (tgt := 1345) dL_law_664 (by decide) (kk σ2 μ2 (hR σ2 μ2 hPC hPM))
theorem lc_well {p : Program} {l : Launch} {e : Env} {s : State} {m : MethodId} {below : List Frame} {meth : Method} {c : Code} {D : va_G} {cA : Nat → ClassId} {ad1 ad2 : Nat → Nat} {b Lx : Nat} {xs : Nat → Int32} (C : lCx p s m meth c D cA ad1 ad2 b Lx xs) {R2 : zS → zS → Prop} (i : Int) (h0 : 0 ≤ i) (h1 : i + 5 < (Lx : Int)) (hL : Lx ≤ 3072) (σ μ : zS) (hE : zE R2 (vX9_well ((xs (i + 1).toNat).toInt) ((xs (i + 2).toNat).toInt) σ) (vX10_well ((xs (i + 1).toNat).toInt) ((xs (i + 2).toNat).toInt) μ)) (kk : ∀ σ2 μ2, R2 σ2 μ2 → lW p l e s m below meth c D cA ad1 ad2 b 1345 [some (zR 0), some (zR 1), some (zR 2), some (zI i)] [] σ2 μ2) : lW p l e s m below meth c D cA ad1 ad2 b 669 [some (zR 0), some (zR 1), some (zR 2), some (zI i)] [] σ μ := by
  obtain ⟨x9, PC, PM, hC, hM, hR⟩ := hE
  refine lW_aload_n C (pc' := 670) dL_law_669 rfl rfl rfl ?_
  refine lW_aload_n C (pc' := 671) dL_law_670 rfl rfl rfl ?_
  refine lW_iload_n C (pc' := 672) dL_law_671 rfl rfl rfl ?_
  refine lW_iconst C (pc' := 673) dL_law_672 rfl ⟨by decide, by decide⟩ ?_
  refine lW_iadd C (pc' := 674) dL_law_673 rfl ⟨by omega, by omega⟩ ?_
  refine lW_sld C (pc' := 675) dL_law_674 rfl (by omega) (by omega) ?_
  refine lW_aload_n C (pc' := 676) dL_law_675 rfl rfl rfl ?_
  refine lW_iload_n C (pc' := 677) dL_law_676 rfl rfl rfl ?_
  refine lW_iconst C (pc' := 678) dL_law_677 rfl ⟨by decide, by decide⟩ ?_
  refine lW_iadd C (pc' := 679) dL_law_678 rfl ⟨by omega, by omega⟩ ?_
  refine lW_sld C (pc' := 680) dL_law_679 rfl (by omega) (by omega) ?_
  refine lW_callC C (pc' := 683) (ys := [(xs (i + 1).toNat).toInt, (xs (i + 2).toNat).toInt]) (st := []) zlc_well_C rfl dL_law_680 rfl rfl rfl (Nat.le_of_ble_eq_true rfl) (sX9_well ((xs (i + 1).toNat).toInt) ((xs (i + 2).toNat).toInt) hC) (fun r _ h => ⟨h.choose, Or.inl h.choose_spec.1⟩) ?_
  intro r8 σ2 h8
  obtain ⟨x8, h81, h82, hPC⟩ := h8
  rw [h82] at h81
  subst h81
  change lW p l e s m below meth c D cA ad1 ad2 b 683 [some (zR 0), some (zR 1), some (zR 2), some (zI i)] [zI x9] σ2 μ
  refine lW_aload_n C (pc' := 684) dL_law_683 rfl rfl rfl ?_
  refine lW_aload_n C (pc' := 685) dL_law_684 rfl rfl rfl ?_
  refine lW_iload_n C (pc' := 686) dL_law_685 rfl rfl rfl ?_
  refine lW_iconst C (pc' := 687) dL_law_686 rfl ⟨by decide, by decide⟩ ?_
  refine lW_iadd C (pc' := 688) dL_law_687 rfl ⟨by omega, by omega⟩ ?_
  refine lW_sld C (pc' := 689) dL_law_688 rfl (by omega) (by omega) ?_
  refine lW_aload_n C (pc' := 690) dL_law_689 rfl rfl rfl ?_
  refine lW_iload_n C (pc' := 691) dL_law_690 rfl rfl rfl ?_
  refine lW_iconst C (pc' := 692) dL_law_691 rfl ⟨by decide, by decide⟩ ?_
  refine lW_iadd C (pc' := 693) dL_law_692 rfl ⟨by omega, by omega⟩ ?_
  refine lW_sld C (pc' := 694) dL_law_693 rfl (by omega) (by omega) ?_
  refine lW_callM C (pc' := 697) (ys := [(xs (i + 1).toNat).toInt, (xs (i + 2).toNat).toInt]) (st := [zI x9]) zlc_well_M rfl dL_law_694 rfl rfl rfl (Nat.le_of_ble_eq_true rfl) (sX10_well ((xs (i + 1).toNat).toInt) ((xs (i + 2).toNat).toInt) hM) (fun r _ h => ⟨h.choose, Or.inl h.choose_spec.1⟩) ?_
  intro r8 μ2 h8
  obtain ⟨x8, h81, h82, hPM⟩ := h8
  rw [h82] at h81
  subst h81
  change lW p l e s m below meth c D cA ad1 ad2 b 697 [some (zR 0), some (zR 1), some (zR 2), some (zI i)] [zI x9, zI x9] σ2 μ2
  exact lW_same C (tgt := 1345) dL_law_697 (by decide) (kk σ2 μ2 (hR σ2 μ2 hPC hPM))
theorem lc_met {p : Program} {l : Launch} {e : Env} {s : State} {m : MethodId} {below : List Frame} {meth : Method} {c : Code} {D : va_G} {cA : Nat → ClassId} {ad1 ad2 : Nat → Nat} {b Lx : Nat} {xs : Nat → Int32} (C : lCx p s m meth c D cA ad1 ad2 b Lx xs) {R2 : zS → zS → Prop} (i : Int) (h0 : 0 ≤ i) (h1 : i + 5 < (Lx : Int)) (hL : Lx ≤ 3072) (σ μ : zS) (hE : zE R2 (vX9_met ((xs (i + 1).toNat).toInt) σ) (vX10_met ((xs (i + 1).toNat).toInt) μ)) (kk : ∀ σ2 μ2, R2 σ2 μ2 → lW p l e s m below meth c D cA ad1 ad2 b 1345 [some (zR 0), some (zR 1), some (zR 2), some (zI i)] [] σ2 μ2) : lW p l e s m below meth c D cA ad1 ad2 b 702 [some (zR 0), some (zR 1), some (zR 2), some (zI i)] [] σ μ := by
  obtain ⟨x9, PC, PM, hC, hM, hR⟩ := hE
  refine lW_aload_n C (pc' := 703) dL_law_702 rfl rfl rfl ?_
  refine lW_aload_n C (pc' := 704) dL_law_703 rfl rfl rfl ?_
  refine lW_iload_n C (pc' := 705) dL_law_704 rfl rfl rfl ?_
  refine lW_iconst C (pc' := 706) dL_law_705 rfl ⟨by decide, by decide⟩ ?_
  refine lW_iadd C (pc' := 707) dL_law_706 rfl ⟨by omega, by omega⟩ ?_
  refine lW_sld C (pc' := 708) dL_law_707 rfl (by omega) (by omega) ?_
  refine lW_callC C (pc' := 711) (ys := [(xs (i + 1).toNat).toInt]) (st := []) zlc_met_C rfl dL_law_708 rfl rfl rfl (Nat.le_of_ble_eq_true rfl) (sX9_met ((xs (i + 1).toNat).toInt) hC) (fun r _ h => ⟨h.choose, Or.inl h.choose_spec.1⟩) ?_
  intro r8 σ2 h8
  obtain ⟨x8, h81, h82, hPC⟩ := h8
  rw [h82] at h81
  subst h81
  change lW p l e s m below meth c D cA ad1 ad2 b 711 [some (zR 0), some (zR 1), some (zR 2), some (zI i)] [zI x9] σ2 μ
  refine lW_aload_n C (pc' := 712) dL_law_711 rfl rfl rfl ?_
  refine lW_aload_n C (pc' := 713) dL_law_712 rfl rfl rfl ?_
  refine lW_iload_n C (pc' := 714) dL_law_713 rfl rfl rfl ?_
  refine lW_iconst C (pc' := 715) dL_law_714 rfl ⟨by decide, by decide⟩ ?_
  refine lW_iadd C (pc' := 716) dL_law_715 rfl ⟨by omega, by omega⟩ ?_
  refine lW_sld C (pc' := 717) dL_law_716 rfl (by omega) (by omega) ?_
  refine lW_callM C (pc' := 720) (ys := [(xs (i + 1).toNat).toInt]) (st := [zI x9]) zlc_met_M rfl dL_law_717 rfl rfl rfl (Nat.le_of_ble_eq_true rfl) (sX10_met ((xs (i + 1).toNat).toInt) hM) (fun r _ h => ⟨h.choose, Or.inl h.choose_spec.1⟩) ?_
  intro r8 μ2 h8
  obtain ⟨x8, h81, h82, hPM⟩ := h8
  rw [h82] at h81
  subst h81
  change lW p l e s m below meth c D cA ad1 ad2 b 720 [some (zR 0), some (zR 1), some (zR 2), some (zI i)] [zI x9, zI x9] σ2 μ2
  exact lW_same C (tgt := 1345) dL_law_720 (by decide) (kk σ2 μ2 (hR σ2 μ2 hPC hPM))
theorem lc_dry {p : Program} {l : Launch} {e : Env} {s : State} {m : MethodId} {below : List Frame} {meth : Method} {c : Code} {D : va_G} {cA : Nat → ClassId} {ad1 ad2 : Nat → Nat} {b Lx : Nat} {xs : Nat → Int32} (C : lCx p s m meth c D cA ad1 ad2 b Lx xs) {R2 : zS → zS → Prop} (i : Int) (h0 : 0 ≤ i) (h1 : i + 5 < (Lx : Int)) (hL : Lx ≤ 3072) (σ μ : zS) (hE : zE R2 (vX9_dry ((xs (i + 1).toNat).toInt) σ) (vX10_dry ((xs (i + 1).toNat).toInt) μ)) (kk : ∀ σ2 μ2, R2 σ2 μ2 → lW p l e s m below meth c D cA ad1 ad2 b 1345 [some (zR 0), some (zR 1), some (zR 2), some (zI i)] [] σ2 μ2) : lW p l e s m below meth c D cA ad1 ad2 b 725 [some (zR 0), some (zR 1), some (zR 2), some (zI i)] [] σ μ := by
  obtain ⟨x9, PC, PM, hC, hM, hR⟩ := hE
  refine lW_aload_n C (pc' := 726) dL_law_725 rfl rfl rfl ?_
  refine lW_aload_n C (pc' := 727) dL_law_726 rfl rfl rfl ?_
  refine lW_iload_n C (pc' := 728) dL_law_727 rfl rfl rfl ?_
  refine lW_iconst C (pc' := 729) dL_law_728 rfl ⟨by decide, by decide⟩ ?_
  refine lW_iadd C (pc' := 730) dL_law_729 rfl ⟨by omega, by omega⟩ ?_
  refine lW_sld C (pc' := 731) dL_law_730 rfl (by omega) (by omega) ?_
  refine lW_callC C (pc' := 734) (ys := [(xs (i + 1).toNat).toInt]) (st := []) zlc_dry_C rfl dL_law_731 rfl rfl rfl (Nat.le_of_ble_eq_true rfl) (sX9_dry ((xs (i + 1).toNat).toInt) hC) (fun r _ h => ⟨h.choose, Or.inl h.choose_spec.1⟩) ?_
  intro r8 σ2 h8
  obtain ⟨x8, h81, h82, hPC⟩ := h8
  rw [h82] at h81
  subst h81
  change lW p l e s m below meth c D cA ad1 ad2 b 734 [some (zR 0), some (zR 1), some (zR 2), some (zI i)] [zI x9] σ2 μ
  refine lW_aload_n C (pc' := 735) dL_law_734 rfl rfl rfl ?_
  refine lW_aload_n C (pc' := 736) dL_law_735 rfl rfl rfl ?_
  refine lW_iload_n C (pc' := 737) dL_law_736 rfl rfl rfl ?_
  refine lW_iconst C (pc' := 738) dL_law_737 rfl ⟨by decide, by decide⟩ ?_
  refine lW_iadd C (pc' := 739) dL_law_738 rfl ⟨by omega, by omega⟩ ?_
  refine lW_sld C (pc' := 740) dL_law_739 rfl (by omega) (by omega) ?_
  refine lW_callM C (pc' := 743) (ys := [(xs (i + 1).toNat).toInt]) (st := [zI x9]) zlc_dry_M rfl dL_law_740 rfl rfl rfl (Nat.le_of_ble_eq_true rfl) (sX10_dry ((xs (i + 1).toNat).toInt) hM) (fun r _ h => ⟨h.choose, Or.inl h.choose_spec.1⟩) ?_
  intro r8 μ2 h8
  obtain ⟨x8, h81, h82, hPM⟩ := h8
  rw [h82] at h81
  subst h81
  change lW p l e s m below meth c D cA ad1 ad2 b 743 [some (zR 0), some (zR 1), some (zR 2), some (zI i)] [zI x9, zI x9] σ2 μ2
  exact lW_same C (tgt := 1345) dL_law_743 (by decide) (kk σ2 μ2 (hR σ2 μ2 hPC hPM))
theorem lc_sold {p : Program} {l : Launch} {e : Env} {s : State} {m : MethodId} {below : List Frame} {meth : Method} {c : Code} {D : va_G} {cA : Nat → ClassId} {ad1 ad2 : Nat → Nat} {b Lx : Nat} {xs : Nat → Int32} (C : lCx p s m meth c D cA ad1 ad2 b Lx xs) {R2 : zS → zS → Prop} (i : Int) (h0 : 0 ≤ i) (h1 : i + 5 < (Lx : Int)) (hL : Lx ≤ 3072) (σ μ : zS) (hE : zE R2 (vX9_sold ((xs (i + 1).toNat).toInt) ((xs (i + 2).toNat).toInt) ((xs (i + 3).toNat).toInt) σ) (vX10_sold ((xs (i + 1).toNat).toInt) ((xs (i + 2).toNat).toInt) ((xs (i + 3).toNat).toInt) μ)) (kk : ∀ σ2 μ2, R2 σ2 μ2 → lW p l e s m below meth c D cA ad1 ad2 b 1345 [some (zR 0), some (zR 1), some (zR 2), some (zI i)] [] σ2 μ2) : lW p l e s m below meth c D cA ad1 ad2 b 748 [some (zR 0), some (zR 1), some (zR 2), some (zI i)] [] σ μ := by
  obtain ⟨x9, PC, PM, hC, hM, hR⟩ := hE
  refine lW_aload_n C (pc' := 749) dL_law_748 rfl rfl rfl ?_
  refine lW_aload_n C (pc' := 750) dL_law_749 rfl rfl rfl ?_
  refine lW_iload_n C (pc' := 751) dL_law_750 rfl rfl rfl ?_
  refine lW_iconst C (pc' := 752) dL_law_751 rfl ⟨by decide, by decide⟩ ?_
  refine lW_iadd C (pc' := 753) dL_law_752 rfl ⟨by omega, by omega⟩ ?_
  refine lW_sld C (pc' := 754) dL_law_753 rfl (by omega) (by omega) ?_
  refine lW_aload_n C (pc' := 755) dL_law_754 rfl rfl rfl ?_
  refine lW_iload_n C (pc' := 756) dL_law_755 rfl rfl rfl ?_
  refine lW_iconst C (pc' := 757) dL_law_756 rfl ⟨by decide, by decide⟩ ?_
  refine lW_iadd C (pc' := 758) dL_law_757 rfl ⟨by omega, by omega⟩ ?_
  refine lW_sld C (pc' := 759) dL_law_758 rfl (by omega) (by omega) ?_
  refine lW_aload_n C (pc' := 760) dL_law_759 rfl rfl rfl ?_
  refine lW_iload_n C (pc' := 761) dL_law_760 rfl rfl rfl ?_
  refine lW_iconst C (pc' := 762) dL_law_761 rfl ⟨by decide, by decide⟩ ?_
  refine lW_iadd C (pc' := 763) dL_law_762 rfl ⟨by omega, by omega⟩ ?_
  refine lW_sld C (pc' := 764) dL_law_763 rfl (by omega) (by omega) ?_
  refine lW_callC C (pc' := 767) (ys := [(xs (i + 1).toNat).toInt, (xs (i + 2).toNat).toInt, (xs (i + 3).toNat).toInt]) (st := []) zlc_sold_C rfl dL_law_764 rfl rfl rfl (Nat.le_of_ble_eq_true rfl) (sX9_sold ((xs (i + 1).toNat).toInt) ((xs (i + 2).toNat).toInt) ((xs (i + 3).toNat).toInt) hC) (fun r _ h => ⟨h.choose, Or.inl h.choose_spec.1⟩) ?_
  intro r8 σ2 h8
  obtain ⟨x8, h81, h82, hPC⟩ := h8
  rw [h82] at h81
  subst h81
  change lW p l e s m below meth c D cA ad1 ad2 b 767 [some (zR 0), some (zR 1), some (zR 2), some (zI i)] [zI x9] σ2 μ
  refine lW_aload_n C (pc' := 768) dL_law_767 rfl rfl rfl ?_
  refine lW_aload_n C (pc' := 769) dL_law_768 rfl rfl rfl ?_
  refine lW_iload_n C (pc' := 770) dL_law_769 rfl rfl rfl ?_
  refine lW_iconst C (pc' := 771) dL_law_770 rfl ⟨by decide, by decide⟩ ?_
  refine lW_iadd C (pc' := 772) dL_law_771 rfl ⟨by omega, by omega⟩ ?_
  refine lW_sld C (pc' := 773) dL_law_772 rfl (by omega) (by omega) ?_
  refine lW_aload_n C (pc' := 774) dL_law_773 rfl rfl rfl ?_
  refine lW_iload_n C (pc' := 775) dL_law_774 rfl rfl rfl ?_
  refine lW_iconst C (pc' := 776) dL_law_775 rfl ⟨by decide, by decide⟩ ?_
  refine lW_iadd C (pc' := 777) dL_law_776 rfl ⟨by omega, by omega⟩ ?_
  refine lW_sld C (pc' := 778) dL_law_777 rfl (by omega) (by omega) ?_
  refine lW_aload_n C (pc' := 779) dL_law_778 rfl rfl rfl ?_
  refine lW_iload_n C (pc' := 780) dL_law_779 rfl rfl rfl ?_
  refine lW_iconst C (pc' := 781) dL_law_780 rfl ⟨by decide, by decide⟩ ?_
  refine lW_iadd C (pc' := 782) dL_law_781 rfl ⟨by omega, by omega⟩ ?_
  refine lW_sld C (pc' := 783) dL_law_782 rfl (by omega) (by omega) ?_
  refine lW_callM C (pc' := 786) (ys := [(xs (i + 1).toNat).toInt, (xs (i + 2).toNat).toInt, (xs (i + 3).toNat).toInt]) (st := [zI x9]) zlc_sold_M rfl dL_law_783 rfl rfl rfl (Nat.le_of_ble_eq_true rfl) (sX10_sold ((xs (i + 1).toNat).toInt) ((xs (i + 2).toNat).toInt) ((xs (i + 3).toNat).toInt) hM) (fun r _ h => ⟨h.choose, Or.inl h.choose_spec.1⟩) ?_
  intro r8 μ2 h8
  obtain ⟨x8, h81, h82, hPM⟩ := h8
  rw [h82] at h81
  subst h81
  change lW p l e s m below meth c D cA ad1 ad2 b 786 [some (zR 0), some (zR 1), some (zR 2), some (zI i)] [zI x9, zI x9] σ2 μ2
  exact lW_same C (tgt := 1345) dL_law_786 (by decide) (kk σ2 μ2 (hR σ2 μ2 hPC hPM))
theorem lc_debt {p : Program} {l : Launch} {e : Env} {s : State} {m : MethodId} {below : List Frame} {meth : Method} {c : Code} {D : va_G} {cA : Nat → ClassId} {ad1 ad2 : Nat → Nat} {b Lx : Nat} {xs : Nat → Int32} (C : lCx p s m meth c D cA ad1 ad2 b Lx xs) {R2 : zS → zS → Prop} (i : Int) (h0 : 0 ≤ i) (h1 : i + 5 < (Lx : Int)) (hL : Lx ≤ 3072) (σ μ : zS) (hE : zE R2 (vX9_debt ((xs (i + 1).toNat).toInt) ((xs (i + 2).toNat).toInt) ((xs (i + 3).toNat).toInt) σ) (vX10_debt ((xs (i + 1).toNat).toInt) ((xs (i + 2).toNat).toInt) ((xs (i + 3).toNat).toInt) μ)) (kk : ∀ σ2 μ2, R2 σ2 μ2 → lW p l e s m below meth c D cA ad1 ad2 b 1345 [some (zR 0), some (zR 1), some (zR 2), some (zI i)] [] σ2 μ2) : lW p l e s m below meth c D cA ad1 ad2 b 791 [some (zR 0), some (zR 1), some (zR 2), some (zI i)] [] σ μ := by
  obtain ⟨x9, PC, PM, hC, hM, hR⟩ := hE
  refine lW_aload_n C (pc' := 792) dL_law_791 rfl rfl rfl ?_
  refine lW_aload_n C (pc' := 793) dL_law_792 rfl rfl rfl ?_
  refine lW_iload_n C (pc' := 794) dL_law_793 rfl rfl rfl ?_
  refine lW_iconst C (pc' := 795) dL_law_794 rfl ⟨by decide, by decide⟩ ?_
  refine lW_iadd C (pc' := 796) dL_law_795 rfl ⟨by omega, by omega⟩ ?_
  refine lW_sld C (pc' := 797) dL_law_796 rfl (by omega) (by omega) ?_
  refine lW_aload_n C (pc' := 798) dL_law_797 rfl rfl rfl ?_
  refine lW_iload_n C (pc' := 799) dL_law_798 rfl rfl rfl ?_
  refine lW_iconst C (pc' := 800) dL_law_799 rfl ⟨by decide, by decide⟩ ?_
  refine lW_iadd C (pc' := 801) dL_law_800 rfl ⟨by omega, by omega⟩ ?_
  refine lW_sld C (pc' := 802) dL_law_801 rfl (by omega) (by omega) ?_
  refine lW_aload_n C (pc' := 803) dL_law_802 rfl rfl rfl ?_
  refine lW_iload_n C (pc' := 804) dL_law_803 rfl rfl rfl ?_
  refine lW_iconst C (pc' := 805) dL_law_804 rfl ⟨by decide, by decide⟩ ?_
  refine lW_iadd C (pc' := 806) dL_law_805 rfl ⟨by omega, by omega⟩ ?_
  refine lW_sld C (pc' := 807) dL_law_806 rfl (by omega) (by omega) ?_
  refine lW_callC C (pc' := 810) (ys := [(xs (i + 1).toNat).toInt, (xs (i + 2).toNat).toInt, (xs (i + 3).toNat).toInt]) (st := []) zlc_debt_C rfl dL_law_807 rfl rfl rfl (Nat.le_of_ble_eq_true rfl) (sX9_debt ((xs (i + 1).toNat).toInt) ((xs (i + 2).toNat).toInt) ((xs (i + 3).toNat).toInt) hC) (fun r _ h => ⟨h.choose, Or.inl h.choose_spec.1⟩) ?_
  intro r8 σ2 h8
  obtain ⟨x8, h81, h82, hPC⟩ := h8
  rw [h82] at h81
  subst h81
  change lW p l e s m below meth c D cA ad1 ad2 b 810 [some (zR 0), some (zR 1), some (zR 2), some (zI i)] [zI x9] σ2 μ
  refine lW_aload_n C (pc' := 811) dL_law_810 rfl rfl rfl ?_
  refine lW_aload_n C (pc' := 812) dL_law_811 rfl rfl rfl ?_
  refine lW_iload_n C (pc' := 813) dL_law_812 rfl rfl rfl ?_
  refine lW_iconst C (pc' := 814) dL_law_813 rfl ⟨by decide, by decide⟩ ?_
  refine lW_iadd C (pc' := 815) dL_law_814 rfl ⟨by omega, by omega⟩ ?_
  refine lW_sld C (pc' := 816) dL_law_815 rfl (by omega) (by omega) ?_
  refine lW_aload_n C (pc' := 817) dL_law_816 rfl rfl rfl ?_
  refine lW_iload_n C (pc' := 818) dL_law_817 rfl rfl rfl ?_
  refine lW_iconst C (pc' := 819) dL_law_818 rfl ⟨by decide, by decide⟩ ?_
  refine lW_iadd C (pc' := 820) dL_law_819 rfl ⟨by omega, by omega⟩ ?_
  refine lW_sld C (pc' := 821) dL_law_820 rfl (by omega) (by omega) ?_
  refine lW_aload_n C (pc' := 822) dL_law_821 rfl rfl rfl ?_
  refine lW_iload_n C (pc' := 823) dL_law_822 rfl rfl rfl ?_
  refine lW_iconst C (pc' := 824) dL_law_823 rfl ⟨by decide, by decide⟩ ?_
  refine lW_iadd C (pc' := 825) dL_law_824 rfl ⟨by omega, by omega⟩ ?_
  refine lW_sld C (pc' := 826) dL_law_825 rfl (by omega) (by omega) ?_
  refine lW_callM C (pc' := 829) (ys := [(xs (i + 1).toNat).toInt, (xs (i + 2).toNat).toInt, (xs (i + 3).toNat).toInt]) (st := [zI x9]) zlc_debt_M rfl dL_law_826 rfl rfl rfl (Nat.le_of_ble_eq_true rfl) (sX10_debt ((xs (i + 1).toNat).toInt) ((xs (i + 2).toNat).toInt) ((xs (i + 3).toNat).toInt) hM) (fun r _ h => ⟨h.choose, Or.inl h.choose_spec.1⟩) ?_
  intro r8 μ2 h8
  obtain ⟨x8, h81, h82, hPM⟩ := h8
  rw [h82] at h81
  subst h81
  change lW p l e s m below meth c D cA ad1 ad2 b 829 [some (zR 0), some (zR 1), some (zR 2), some (zI i)] [zI x9, zI x9] σ2 μ2
  exact lW_same C (tgt := 1345) dL_law_829 (by decide) (kk σ2 μ2 (hR σ2 μ2 hPC hPM))
theorem lc_owes {p : Program} {l : Launch} {e : Env} {s : State} {m : MethodId} {below : List Frame} {meth : Method} {c : Code} {D : va_G} {cA : Nat → ClassId} {ad1 ad2 : Nat → Nat} {b Lx : Nat} {xs : Nat → Int32} (C : lCx p s m meth c D cA ad1 ad2 b Lx xs) {R2 : zS → zS → Prop} (i : Int) (h0 : 0 ≤ i) (h1 : i + 5 < (Lx : Int)) (hL : Lx ≤ 3072) (σ μ : zS) (hE : zE R2 (vX9_owes ((xs (i + 1).toNat).toInt) ((xs (i + 2).toNat).toInt) σ) (vX10_owes ((xs (i + 1).toNat).toInt) ((xs (i + 2).toNat).toInt) μ)) (kk : ∀ σ2 μ2, R2 σ2 μ2 → lW p l e s m below meth c D cA ad1 ad2 b 1345 [some (zR 0), some (zR 1), some (zR 2), some (zI i)] [] σ2 μ2) : lW p l e s m below meth c D cA ad1 ad2 b 834 [some (zR 0), some (zR 1), some (zR 2), some (zI i)] [] σ μ := by
  obtain ⟨x9, PC, PM, hC, hM, hR⟩ := hE
  refine lW_aload_n C (pc' := 835) dL_law_834 rfl rfl rfl ?_
  refine lW_aload_n C (pc' := 836) dL_law_835 rfl rfl rfl ?_
  refine lW_iload_n C (pc' := 837) dL_law_836 rfl rfl rfl ?_
  refine lW_iconst C (pc' := 838) dL_law_837 rfl ⟨by decide, by decide⟩ ?_
  refine lW_iadd C (pc' := 839) dL_law_838 rfl ⟨by omega, by omega⟩ ?_
  refine lW_sld C (pc' := 840) dL_law_839 rfl (by omega) (by omega) ?_
  refine lW_aload_n C (pc' := 841) dL_law_840 rfl rfl rfl ?_
  refine lW_iload_n C (pc' := 842) dL_law_841 rfl rfl rfl ?_
  refine lW_iconst C (pc' := 843) dL_law_842 rfl ⟨by decide, by decide⟩ ?_
  refine lW_iadd C (pc' := 844) dL_law_843 rfl ⟨by omega, by omega⟩ ?_
  refine lW_sld C (pc' := 845) dL_law_844 rfl (by omega) (by omega) ?_
  refine lW_callC C (pc' := 848) (ys := [(xs (i + 1).toNat).toInt, (xs (i + 2).toNat).toInt]) (st := []) zlc_owes_C rfl dL_law_845 rfl rfl rfl (Nat.le_of_ble_eq_true rfl) (sX9_owes ((xs (i + 1).toNat).toInt) ((xs (i + 2).toNat).toInt) hC) (fun r _ h => ⟨h.choose, Or.inl h.choose_spec.1⟩) ?_
  intro r8 σ2 h8
  obtain ⟨x8, h81, h82, hPC⟩ := h8
  rw [h82] at h81
  subst h81
  change lW p l e s m below meth c D cA ad1 ad2 b 848 [some (zR 0), some (zR 1), some (zR 2), some (zI i)] [zI x9] σ2 μ
  refine lW_aload_n C (pc' := 849) dL_law_848 rfl rfl rfl ?_
  refine lW_aload_n C (pc' := 850) dL_law_849 rfl rfl rfl ?_
  refine lW_iload_n C (pc' := 851) dL_law_850 rfl rfl rfl ?_
  refine lW_iconst C (pc' := 852) dL_law_851 rfl ⟨by decide, by decide⟩ ?_
  refine lW_iadd C (pc' := 853) dL_law_852 rfl ⟨by omega, by omega⟩ ?_
  refine lW_sld C (pc' := 854) dL_law_853 rfl (by omega) (by omega) ?_
  refine lW_aload_n C (pc' := 855) dL_law_854 rfl rfl rfl ?_
  refine lW_iload_n C (pc' := 856) dL_law_855 rfl rfl rfl ?_
  refine lW_iconst C (pc' := 857) dL_law_856 rfl ⟨by decide, by decide⟩ ?_
  refine lW_iadd C (pc' := 858) dL_law_857 rfl ⟨by omega, by omega⟩ ?_
  refine lW_sld C (pc' := 859) dL_law_858 rfl (by omega) (by omega) ?_
  refine lW_callM C (pc' := 862) (ys := [(xs (i + 1).toNat).toInt, (xs (i + 2).toNat).toInt]) (st := [zI x9]) zlc_owes_M rfl dL_law_859 rfl rfl rfl (Nat.le_of_ble_eq_true rfl) (sX10_owes ((xs (i + 1).toNat).toInt) ((xs (i + 2).toNat).toInt) hM) (fun r _ h => ⟨h.choose, Or.inl h.choose_spec.1⟩) ?_
  intro r8 μ2 h8
  obtain ⟨x8, h81, h82, hPM⟩ := h8
  rw [h82] at h81
  subst h81
  change lW p l e s m below meth c D cA ad1 ad2 b 862 [some (zR 0), some (zR 1), some (zR 2), some (zI i)] [zI x9, zI x9] σ2 μ2
  exact lW_same C (tgt := 1345) dL_law_862 (by decide) (kk σ2 μ2 (hR σ2 μ2 hPC hPM))
theorem lc_lost {p : Program} {l : Launch} {e : Env} {s : State} {m : MethodId} {below : List Frame} {meth : Method} {c : Code} {D : va_G} {cA : Nat → ClassId} {ad1 ad2 : Nat → Nat} {b Lx : Nat} {xs : Nat → Int32} (C : lCx p s m meth c D cA ad1 ad2 b Lx xs) {R2 : zS → zS → Prop} (i : Int) (h0 : 0 ≤ i) (h1 : i + 5 < (Lx : Int)) (hL : Lx ≤ 3072) (σ μ : zS) (hE : zE R2 (vX9_lost ((xs (i + 1).toNat).toInt) σ) (vX10_lost ((xs (i + 1).toNat).toInt) μ)) (kk : ∀ σ2 μ2, R2 σ2 μ2 → lW p l e s m below meth c D cA ad1 ad2 b 1345 [some (zR 0), some (zR 1), some (zR 2), some (zI i)] [] σ2 μ2) : lW p l e s m below meth c D cA ad1 ad2 b 867 [some (zR 0), some (zR 1), some (zR 2), some (zI i)] [] σ μ := by
  obtain ⟨x9, PC, PM, hC, hM, hR⟩ := hE
  refine lW_aload_n C (pc' := 868) dL_law_867 rfl rfl rfl ?_
  refine lW_aload_n C (pc' := 869) dL_law_868 rfl rfl rfl ?_
  refine lW_iload_n C (pc' := 870) dL_law_869 rfl rfl rfl ?_
  refine lW_iconst C (pc' := 871) dL_law_870 rfl ⟨by decide, by decide⟩ ?_
  refine lW_iadd C (pc' := 872) dL_law_871 rfl ⟨by omega, by omega⟩ ?_
  refine lW_sld C (pc' := 873) dL_law_872 rfl (by omega) (by omega) ?_
  refine lW_callC C (pc' := 876) (ys := [(xs (i + 1).toNat).toInt]) (st := []) zlc_lost_C rfl dL_law_873 rfl rfl rfl (Nat.le_of_ble_eq_true rfl) (sX9_lost ((xs (i + 1).toNat).toInt) hC) (fun r _ h => ⟨h.choose, Or.inl h.choose_spec.1⟩) ?_
  intro r8 σ2 h8
  obtain ⟨x8, h81, h82, hPC⟩ := h8
  rw [h82] at h81
  subst h81
  change lW p l e s m below meth c D cA ad1 ad2 b 876 [some (zR 0), some (zR 1), some (zR 2), some (zI i)] [zI x9] σ2 μ
  refine lW_aload_n C (pc' := 877) dL_law_876 rfl rfl rfl ?_
  refine lW_aload_n C (pc' := 878) dL_law_877 rfl rfl rfl ?_
  refine lW_iload_n C (pc' := 879) dL_law_878 rfl rfl rfl ?_
  refine lW_iconst C (pc' := 880) dL_law_879 rfl ⟨by decide, by decide⟩ ?_
  refine lW_iadd C (pc' := 881) dL_law_880 rfl ⟨by omega, by omega⟩ ?_
  refine lW_sld C (pc' := 882) dL_law_881 rfl (by omega) (by omega) ?_
  refine lW_callM C (pc' := 885) (ys := [(xs (i + 1).toNat).toInt]) (st := [zI x9]) zlc_lost_M rfl dL_law_882 rfl rfl rfl (Nat.le_of_ble_eq_true rfl) (sX10_lost ((xs (i + 1).toNat).toInt) hM) (fun r _ h => ⟨h.choose, Or.inl h.choose_spec.1⟩) ?_
  intro r8 μ2 h8
  obtain ⟨x8, h81, h82, hPM⟩ := h8
  rw [h82] at h81
  subst h81
  change lW p l e s m below meth c D cA ad1 ad2 b 885 [some (zR 0), some (zR 1), some (zR 2), some (zI i)] [zI x9, zI x9] σ2 μ2
  exact lW_same C (tgt := 1345) dL_law_885 (by decide) (kk σ2 μ2 (hR σ2 μ2 hPC hPM))
theorem lc_church {p : Program} {l : Launch} {e : Env} {s : State} {m : MethodId} {below : List Frame} {meth : Method} {c : Code} {D : va_G} {cA : Nat → ClassId} {ad1 ad2 : Nat → Nat} {b Lx : Nat} {xs : Nat → Int32} (C : lCx p s m meth c D cA ad1 ad2 b Lx xs) {R2 : zS → zS → Prop} (i : Int) (h0 : 0 ≤ i) (h1 : i + 5 < (Lx : Int)) (hL : Lx ≤ 3072) (σ μ : zS) (hE : zE R2 (vX9_church ((xs (i + 1).toNat).toInt) ((xs (i + 2).toNat).toInt) ((xs (i + 3).toNat).toInt) σ) (vX10_church ((xs (i + 1).toNat).toInt) ((xs (i + 2).toNat).toInt) ((xs (i + 3).toNat).toInt) μ)) (kk : ∀ σ2 μ2, R2 σ2 μ2 → lW p l e s m below meth c D cA ad1 ad2 b 1345 [some (zR 0), some (zR 1), some (zR 2), some (zI i)] [] σ2 μ2) : lW p l e s m below meth c D cA ad1 ad2 b 890 [some (zR 0), some (zR 1), some (zR 2), some (zI i)] [] σ μ := by
  obtain ⟨x9, PC, PM, hC, hM, hR⟩ := hE
  refine lW_aload_n C (pc' := 891) dL_law_890 rfl rfl rfl ?_
  refine lW_aload_n C (pc' := 892) dL_law_891 rfl rfl rfl ?_
  refine lW_iload_n C (pc' := 893) dL_law_892 rfl rfl rfl ?_
  refine lW_iconst C (pc' := 894) dL_law_893 rfl ⟨by decide, by decide⟩ ?_
  refine lW_iadd C (pc' := 895) dL_law_894 rfl ⟨by omega, by omega⟩ ?_
  refine lW_sld C (pc' := 896) dL_law_895 rfl (by omega) (by omega) ?_
  refine lW_aload_n C (pc' := 897) dL_law_896 rfl rfl rfl ?_
  refine lW_iload_n C (pc' := 898) dL_law_897 rfl rfl rfl ?_
  refine lW_iconst C (pc' := 899) dL_law_898 rfl ⟨by decide, by decide⟩ ?_
  refine lW_iadd C (pc' := 900) dL_law_899 rfl ⟨by omega, by omega⟩ ?_
  refine lW_sld C (pc' := 901) dL_law_900 rfl (by omega) (by omega) ?_
  refine lW_aload_n C (pc' := 902) dL_law_901 rfl rfl rfl ?_
  refine lW_iload_n C (pc' := 903) dL_law_902 rfl rfl rfl ?_
  refine lW_iconst C (pc' := 904) dL_law_903 rfl ⟨by decide, by decide⟩ ?_
  refine lW_iadd C (pc' := 905) dL_law_904 rfl ⟨by omega, by omega⟩ ?_
  refine lW_sld C (pc' := 906) dL_law_905 rfl (by omega) (by omega) ?_
  refine lW_callC C (pc' := 909) (ys := [(xs (i + 1).toNat).toInt, (xs (i + 2).toNat).toInt, (xs (i + 3).toNat).toInt]) (st := []) zlc_church_C rfl dL_law_906 rfl rfl rfl (Nat.le_of_ble_eq_true rfl) (sX9_church ((xs (i + 1).toNat).toInt) ((xs (i + 2).toNat).toInt) ((xs (i + 3).toNat).toInt) hC) (fun r _ h => ⟨h.choose, Or.inl h.choose_spec.1⟩) ?_
  intro r8 σ2 h8
  obtain ⟨x8, h81, h82, hPC⟩ := h8
  rw [h82] at h81
  subst h81
  change lW p l e s m below meth c D cA ad1 ad2 b 909 [some (zR 0), some (zR 1), some (zR 2), some (zI i)] [zI x9] σ2 μ
  refine lW_aload_n C (pc' := 910) dL_law_909 rfl rfl rfl ?_
  refine lW_aload_n C (pc' := 911) dL_law_910 rfl rfl rfl ?_
  refine lW_iload_n C (pc' := 912) dL_law_911 rfl rfl rfl ?_
  refine lW_iconst C (pc' := 913) dL_law_912 rfl ⟨by decide, by decide⟩ ?_
  refine lW_iadd C (pc' := 914) dL_law_913 rfl ⟨by omega, by omega⟩ ?_
  refine lW_sld C (pc' := 915) dL_law_914 rfl (by omega) (by omega) ?_
  refine lW_aload_n C (pc' := 916) dL_law_915 rfl rfl rfl ?_
  refine lW_iload_n C (pc' := 917) dL_law_916 rfl rfl rfl ?_
  refine lW_iconst C (pc' := 918) dL_law_917 rfl ⟨by decide, by decide⟩ ?_
  refine lW_iadd C (pc' := 919) dL_law_918 rfl ⟨by omega, by omega⟩ ?_
  refine lW_sld C (pc' := 920) dL_law_919 rfl (by omega) (by omega) ?_
  refine lW_aload_n C (pc' := 921) dL_law_920 rfl rfl rfl ?_
  refine lW_iload_n C (pc' := 922) dL_law_921 rfl rfl rfl ?_
  refine lW_iconst C (pc' := 923) dL_law_922 rfl ⟨by decide, by decide⟩ ?_
  refine lW_iadd C (pc' := 924) dL_law_923 rfl ⟨by omega, by omega⟩ ?_
  refine lW_sld C (pc' := 925) dL_law_924 rfl (by omega) (by omega) ?_
  refine lW_callM C (pc' := 928) (ys := [(xs (i + 1).toNat).toInt, (xs (i + 2).toNat).toInt, (xs (i + 3).toNat).toInt]) (st := [zI x9]) zlc_church_M rfl dL_law_925 rfl rfl rfl (Nat.le_of_ble_eq_true rfl) (sX10_church ((xs (i + 1).toNat).toInt) ((xs (i + 2).toNat).toInt) ((xs (i + 3).toNat).toInt) hM) (fun r _ h => ⟨h.choose, Or.inl h.choose_spec.1⟩) ?_
  intro r8 μ2 h8
  obtain ⟨x8, h81, h82, hPM⟩ := h8
  rw [h82] at h81
  subst h81
  change lW p l e s m below meth c D cA ad1 ad2 b 928 [some (zR 0), some (zR 1), some (zR 2), some (zI i)] [zI x9, zI x9] σ2 μ2
  exact lW_same C (tgt := 1345) dL_law_928 (by decide) (kk σ2 μ2 (hR σ2 μ2 hPC hPM))
theorem lc_likely {p : Program} {l : Launch} {e : Env} {s : State} {m : MethodId} {below : List Frame} {meth : Method} {c : Code} {D : va_G} {cA : Nat → ClassId} {ad1 ad2 : Nat → Nat} {b Lx : Nat} {xs : Nat → Int32} (C : lCx p s m meth c D cA ad1 ad2 b Lx xs) {R2 : zS → zS → Prop} (i : Int) (h0 : 0 ≤ i) (h1 : i + 5 < (Lx : Int)) (hL : Lx ≤ 3072) (σ μ : zS) (hE : zE R2 (vX9_likely ((xs (i + 1).toNat).toInt) ((xs (i + 2).toNat).toInt) ((xs (i + 3).toNat).toInt) ((xs (i + 4).toNat).toInt) σ) (vX10_likely ((xs (i + 1).toNat).toInt) ((xs (i + 2).toNat).toInt) ((xs (i + 3).toNat).toInt) ((xs (i + 4).toNat).toInt) μ)) (kk : ∀ σ2 μ2, R2 σ2 μ2 → lW p l e s m below meth c D cA ad1 ad2 b 1345 [some (zR 0), some (zR 1), some (zR 2), some (zI i)] [] σ2 μ2) : lW p l e s m below meth c D cA ad1 ad2 b 933 [some (zR 0), some (zR 1), some (zR 2), some (zI i)] [] σ μ := by
  obtain ⟨x9, PC, PM, hC, hM, hR⟩ := hE
  refine lW_aload_n C (pc' := 934) dL_law_933 rfl rfl rfl ?_
  refine lW_aload_n C (pc' := 935) dL_law_934 rfl rfl rfl ?_
  refine lW_iload_n C (pc' := 936) dL_law_935 rfl rfl rfl ?_
  refine lW_iconst C (pc' := 937) dL_law_936 rfl ⟨by decide, by decide⟩ ?_
  refine lW_iadd C (pc' := 938) dL_law_937 rfl ⟨by omega, by omega⟩ ?_
  refine lW_sld C (pc' := 939) dL_law_938 rfl (by omega) (by omega) ?_
  refine lW_aload_n C (pc' := 940) dL_law_939 rfl rfl rfl ?_
  refine lW_iload_n C (pc' := 941) dL_law_940 rfl rfl rfl ?_
  refine lW_iconst C (pc' := 942) dL_law_941 rfl ⟨by decide, by decide⟩ ?_
  refine lW_iadd C (pc' := 943) dL_law_942 rfl ⟨by omega, by omega⟩ ?_
  refine lW_sld C (pc' := 944) dL_law_943 rfl (by omega) (by omega) ?_
  refine lW_aload_n C (pc' := 945) dL_law_944 rfl rfl rfl ?_
  refine lW_iload_n C (pc' := 946) dL_law_945 rfl rfl rfl ?_
  refine lW_iconst C (pc' := 947) dL_law_946 rfl ⟨by decide, by decide⟩ ?_
  refine lW_iadd C (pc' := 948) dL_law_947 rfl ⟨by omega, by omega⟩ ?_
  refine lW_sld C (pc' := 949) dL_law_948 rfl (by omega) (by omega) ?_
  refine lW_aload_n C (pc' := 950) dL_law_949 rfl rfl rfl ?_
  refine lW_iload_n C (pc' := 951) dL_law_950 rfl rfl rfl ?_
  refine lW_iconst C (pc' := 952) dL_law_951 rfl ⟨by decide, by decide⟩ ?_
  refine lW_iadd C (pc' := 953) dL_law_952 rfl ⟨by omega, by omega⟩ ?_
  refine lW_sld C (pc' := 954) dL_law_953 rfl (by omega) (by omega) ?_
  refine lW_callC C (pc' := 957) (ys := [(xs (i + 1).toNat).toInt, (xs (i + 2).toNat).toInt, (xs (i + 3).toNat).toInt, (xs (i + 4).toNat).toInt]) (st := []) zlc_likely_C rfl dL_law_954 rfl rfl rfl (Nat.le_of_ble_eq_true rfl) (sX9_likely ((xs (i + 1).toNat).toInt) ((xs (i + 2).toNat).toInt) ((xs (i + 3).toNat).toInt) ((xs (i + 4).toNat).toInt) hC) (fun r _ h => ⟨h.choose, Or.inr h.choose_spec.1⟩) ?_
  intro r8 σ2 h8
  obtain ⟨x8, h81, h82, hPC⟩ := h8
  rw [h82] at h81
  subst h81
  change lW p l e s m below meth c D cA ad1 ad2 b 957 [some (zR 0), some (zR 1), some (zR 2), some (zI i)] [zL x9] σ2 μ
  refine lW_aload_n C (pc' := 958) dL_law_957 rfl rfl rfl ?_
  refine lW_aload_n C (pc' := 959) dL_law_958 rfl rfl rfl ?_
  refine lW_iload_n C (pc' := 960) dL_law_959 rfl rfl rfl ?_
  refine lW_iconst C (pc' := 961) dL_law_960 rfl ⟨by decide, by decide⟩ ?_
  refine lW_iadd C (pc' := 962) dL_law_961 rfl ⟨by omega, by omega⟩ ?_
  refine lW_sld C (pc' := 963) dL_law_962 rfl (by omega) (by omega) ?_
  refine lW_aload_n C (pc' := 964) dL_law_963 rfl rfl rfl ?_
  refine lW_iload_n C (pc' := 965) dL_law_964 rfl rfl rfl ?_
  refine lW_iconst C (pc' := 966) dL_law_965 rfl ⟨by decide, by decide⟩ ?_
  refine lW_iadd C (pc' := 967) dL_law_966 rfl ⟨by omega, by omega⟩ ?_
  refine lW_sld C (pc' := 968) dL_law_967 rfl (by omega) (by omega) ?_
  refine lW_aload_n C (pc' := 969) dL_law_968 rfl rfl rfl ?_
  refine lW_iload_n C (pc' := 970) dL_law_969 rfl rfl rfl ?_
  refine lW_iconst C (pc' := 971) dL_law_970 rfl ⟨by decide, by decide⟩ ?_
  refine lW_iadd C (pc' := 972) dL_law_971 rfl ⟨by omega, by omega⟩ ?_
  refine lW_sld C (pc' := 973) dL_law_972 rfl (by omega) (by omega) ?_
  refine lW_aload_n C (pc' := 974) dL_law_973 rfl rfl rfl ?_
  refine lW_iload_n C (pc' := 975) dL_law_974 rfl rfl rfl ?_
  refine lW_iconst C (pc' := 976) dL_law_975 rfl ⟨by decide, by decide⟩ ?_
  refine lW_iadd C (pc' := 977) dL_law_976 rfl ⟨by omega, by omega⟩ ?_
  refine lW_sld C (pc' := 978) dL_law_977 rfl (by omega) (by omega) ?_
  refine lW_callM C (pc' := 981) (ys := [(xs (i + 1).toNat).toInt, (xs (i + 2).toNat).toInt, (xs (i + 3).toNat).toInt, (xs (i + 4).toNat).toInt]) (st := [zL x9]) zlc_likely_M rfl dL_law_978 rfl rfl rfl (Nat.le_of_ble_eq_true rfl) (sX10_likely ((xs (i + 1).toNat).toInt) ((xs (i + 2).toNat).toInt) ((xs (i + 3).toNat).toInt) ((xs (i + 4).toNat).toInt) hM) (fun r _ h => ⟨h.choose, Or.inr h.choose_spec.1⟩) ?_
  intro r8 μ2 h8
  obtain ⟨x8, h81, h82, hPM⟩ := h8
  rw [h82] at h81
  subst h81
  change lW p l e s m below meth c D cA ad1 ad2 b 981 [some (zR 0), some (zR 1), some (zR 2), some (zI i)] [zL x9, zL x9] σ2 μ2
  exact lW_sameL C (tgt := 1345) (pc' := 982) dL_law_981 rfl dL_law_982 (by decide) (kk σ2 μ2 (hR σ2 μ2 hPC hPM))
theorem lc_stone {p : Program} {l : Launch} {e : Env} {s : State} {m : MethodId} {below : List Frame} {meth : Method} {c : Code} {D : va_G} {cA : Nat → ClassId} {ad1 ad2 : Nat → Nat} {b Lx : Nat} {xs : Nat → Int32} (C : lCx p s m meth c D cA ad1 ad2 b Lx xs) {R2 : zS → zS → Prop} (i : Int) (h0 : 0 ≤ i) (h1 : i + 5 < (Lx : Int)) (hL : Lx ≤ 3072) (σ μ : zS) (hE : zE R2 (vX9_stone ((xs (i + 1).toNat).toInt) ((xs (i + 2).toNat).toInt) ((xs (i + 3).toNat).toInt) ((xs (i + 4).toNat).toInt) ((xs (i + 5).toNat).toInt) σ) (vX10_stone ((xs (i + 1).toNat).toInt) ((xs (i + 2).toNat).toInt) ((xs (i + 3).toNat).toInt) ((xs (i + 4).toNat).toInt) ((xs (i + 5).toNat).toInt) μ)) (kk : ∀ σ2 μ2, R2 σ2 μ2 → lW p l e s m below meth c D cA ad1 ad2 b 1345 [some (zR 0), some (zR 1), some (zR 2), some (zI i)] [] σ2 μ2) : lW p l e s m below meth c D cA ad1 ad2 b 987 [some (zR 0), some (zR 1), some (zR 2), some (zI i)] [] σ μ := by
  obtain ⟨x9, PC, PM, hC, hM, hR⟩ := hE
  refine lW_aload_n C (pc' := 988) dL_law_987 rfl rfl rfl ?_
  refine lW_aload_n C (pc' := 989) dL_law_988 rfl rfl rfl ?_
  refine lW_iload_n C (pc' := 990) dL_law_989 rfl rfl rfl ?_
  refine lW_iconst C (pc' := 991) dL_law_990 rfl ⟨by decide, by decide⟩ ?_
  refine lW_iadd C (pc' := 992) dL_law_991 rfl ⟨by omega, by omega⟩ ?_
  refine lW_sld C (pc' := 993) dL_law_992 rfl (by omega) (by omega) ?_
  refine lW_aload_n C (pc' := 994) dL_law_993 rfl rfl rfl ?_
  refine lW_iload_n C (pc' := 995) dL_law_994 rfl rfl rfl ?_
  refine lW_iconst C (pc' := 996) dL_law_995 rfl ⟨by decide, by decide⟩ ?_
  refine lW_iadd C (pc' := 997) dL_law_996 rfl ⟨by omega, by omega⟩ ?_
  refine lW_sld C (pc' := 998) dL_law_997 rfl (by omega) (by omega) ?_
  refine lW_aload_n C (pc' := 999) dL_law_998 rfl rfl rfl ?_
  refine lW_iload_n C (pc' := 1000) dL_law_999 rfl rfl rfl ?_
  refine lW_iconst C (pc' := 1001) dL_law_1000 rfl ⟨by decide, by decide⟩ ?_
  refine lW_iadd C (pc' := 1002) dL_law_1001 rfl ⟨by omega, by omega⟩ ?_
  refine lW_sld C (pc' := 1003) dL_law_1002 rfl (by omega) (by omega) ?_
  refine lW_aload_n C (pc' := 1004) dL_law_1003 rfl rfl rfl ?_
  refine lW_iload_n C (pc' := 1005) dL_law_1004 rfl rfl rfl ?_
  refine lW_iconst C (pc' := 1006) dL_law_1005 rfl ⟨by decide, by decide⟩ ?_
  refine lW_iadd C (pc' := 1007) dL_law_1006 rfl ⟨by omega, by omega⟩ ?_
  refine lW_sld C (pc' := 1008) dL_law_1007 rfl (by omega) (by omega) ?_
  refine lW_aload_n C (pc' := 1009) dL_law_1008 rfl rfl rfl ?_
  refine lW_iload_n C (pc' := 1010) dL_law_1009 rfl rfl rfl ?_
  refine lW_iconst C (pc' := 1011) dL_law_1010 rfl ⟨by decide, by decide⟩ ?_
  refine lW_iadd C (pc' := 1012) dL_law_1011 rfl ⟨by omega, by omega⟩ ?_
  refine lW_sld C (pc' := 1013) dL_law_1012 rfl (by omega) (by omega) ?_
  refine lW_callC C (pc' := 1016) (ys := [(xs (i + 1).toNat).toInt, (xs (i + 2).toNat).toInt, (xs (i + 3).toNat).toInt, (xs (i + 4).toNat).toInt, (xs (i + 5).toNat).toInt]) (st := []) zlc_stone_C rfl dL_law_1013 rfl rfl rfl (Nat.le_of_ble_eq_true rfl) (sX9_stone ((xs (i + 1).toNat).toInt) ((xs (i + 2).toNat).toInt) ((xs (i + 3).toNat).toInt) ((xs (i + 4).toNat).toInt) ((xs (i + 5).toNat).toInt) hC) (fun r _ h => ⟨h.choose, Or.inl h.choose_spec.1⟩) ?_
  intro r8 σ2 h8
  obtain ⟨x8, h81, h82, hPC⟩ := h8
  rw [h82] at h81
  subst h81
  change lW p l e s m below meth c D cA ad1 ad2 b 1016 [some (zR 0), some (zR 1), some (zR 2), some (zI i)] [zI x9] σ2 μ
  refine lW_aload_n C (pc' := 1017) dL_law_1016 rfl rfl rfl ?_
  refine lW_aload_n C (pc' := 1018) dL_law_1017 rfl rfl rfl ?_
  refine lW_iload_n C (pc' := 1019) dL_law_1018 rfl rfl rfl ?_
  refine lW_iconst C (pc' := 1020) dL_law_1019 rfl ⟨by decide, by decide⟩ ?_
  refine lW_iadd C (pc' := 1021) dL_law_1020 rfl ⟨by omega, by omega⟩ ?_
  refine lW_sld C (pc' := 1022) dL_law_1021 rfl (by omega) (by omega) ?_
  refine lW_aload_n C (pc' := 1023) dL_law_1022 rfl rfl rfl ?_
  refine lW_iload_n C (pc' := 1024) dL_law_1023 rfl rfl rfl ?_
  refine lW_iconst C (pc' := 1025) dL_law_1024 rfl ⟨by decide, by decide⟩ ?_
  refine lW_iadd C (pc' := 1026) dL_law_1025 rfl ⟨by omega, by omega⟩ ?_
  refine lW_sld C (pc' := 1027) dL_law_1026 rfl (by omega) (by omega) ?_
  refine lW_aload_n C (pc' := 1028) dL_law_1027 rfl rfl rfl ?_
  refine lW_iload_n C (pc' := 1029) dL_law_1028 rfl rfl rfl ?_
  refine lW_iconst C (pc' := 1030) dL_law_1029 rfl ⟨by decide, by decide⟩ ?_
  refine lW_iadd C (pc' := 1031) dL_law_1030 rfl ⟨by omega, by omega⟩ ?_
  refine lW_sld C (pc' := 1032) dL_law_1031 rfl (by omega) (by omega) ?_
  refine lW_aload_n C (pc' := 1033) dL_law_1032 rfl rfl rfl ?_
  refine lW_iload_n C (pc' := 1034) dL_law_1033 rfl rfl rfl ?_
  refine lW_iconst C (pc' := 1035) dL_law_1034 rfl ⟨by decide, by decide⟩ ?_
  refine lW_iadd C (pc' := 1036) dL_law_1035 rfl ⟨by omega, by omega⟩ ?_
  refine lW_sld C (pc' := 1037) dL_law_1036 rfl (by omega) (by omega) ?_
  refine lW_aload_n C (pc' := 1038) dL_law_1037 rfl rfl rfl ?_
  refine lW_iload_n C (pc' := 1039) dL_law_1038 rfl rfl rfl ?_
  refine lW_iconst C (pc' := 1040) dL_law_1039 rfl ⟨by decide, by decide⟩ ?_
  refine lW_iadd C (pc' := 1041) dL_law_1040 rfl ⟨by omega, by omega⟩ ?_
  refine lW_sld C (pc' := 1042) dL_law_1041 rfl (by omega) (by omega) ?_
  refine lW_callM C (pc' := 1045) (ys := [(xs (i + 1).toNat).toInt, (xs (i + 2).toNat).toInt, (xs (i + 3).toNat).toInt, (xs (i + 4).toNat).toInt, (xs (i + 5).toNat).toInt]) (st := [zI x9]) zlc_stone_M rfl dL_law_1042 rfl rfl rfl (Nat.le_of_ble_eq_true rfl) (sX10_stone ((xs (i + 1).toNat).toInt) ((xs (i + 2).toNat).toInt) ((xs (i + 3).toNat).toInt) ((xs (i + 4).toNat).toInt) ((xs (i + 5).toNat).toInt) hM) (fun r _ h => ⟨h.choose, Or.inl h.choose_spec.1⟩) ?_
  intro r8 μ2 h8
  obtain ⟨x8, h81, h82, hPM⟩ := h8
  rw [h82] at h81
  subst h81
  change lW p l e s m below meth c D cA ad1 ad2 b 1045 [some (zR 0), some (zR 1), some (zR 2), some (zI i)] [zI x9, zI x9] σ2 μ2
  exact lW_same C (tgt := 1345) dL_law_1045 (by decide) (kk σ2 μ2 (hR σ2 μ2 hPC hPM))
theorem lc_sheet {p : Program} {l : Launch} {e : Env} {s : State} {m : MethodId} {below : List Frame} {meth : Method} {c : Code} {D : va_G} {cA : Nat → ClassId} {ad1 ad2 : Nat → Nat} {b Lx : Nat} {xs : Nat → Int32} (C : lCx p s m meth c D cA ad1 ad2 b Lx xs) {R2 : zS → zS → Prop} (i : Int) (h0 : 0 ≤ i) (h1 : i + 5 < (Lx : Int)) (hL : Lx ≤ 3072) (σ μ : zS) (hE : zE R2 (vX9_sheet ((xs (i + 1).toNat).toInt) ((xs (i + 2).toNat).toInt) ((xs (i + 3).toNat).toInt) σ) (vX10_sheet ((xs (i + 1).toNat).toInt) ((xs (i + 2).toNat).toInt) ((xs (i + 3).toNat).toInt) μ)) (kk : ∀ σ2 μ2, R2 σ2 μ2 → lW p l e s m below meth c D cA ad1 ad2 b 1345 [some (zR 0), some (zR 1), some (zR 2), some (zI i)] [] σ2 μ2) : lW p l e s m below meth c D cA ad1 ad2 b 1050 [some (zR 0), some (zR 1), some (zR 2), some (zI i)] [] σ μ := by
  obtain ⟨x9, PC, PM, hC, hM, hR⟩ := hE
  refine lW_aload_n C (pc' := 1051) dL_law_1050 rfl rfl rfl ?_
  refine lW_aload_n C (pc' := 1052) dL_law_1051 rfl rfl rfl ?_
  refine lW_iload_n C (pc' := 1053) dL_law_1052 rfl rfl rfl ?_
  refine lW_iconst C (pc' := 1054) dL_law_1053 rfl ⟨by decide, by decide⟩ ?_
  refine lW_iadd C (pc' := 1055) dL_law_1054 rfl ⟨by omega, by omega⟩ ?_
  refine lW_sld C (pc' := 1056) dL_law_1055 rfl (by omega) (by omega) ?_
  refine lW_aload_n C (pc' := 1057) dL_law_1056 rfl rfl rfl ?_
  refine lW_iload_n C (pc' := 1058) dL_law_1057 rfl rfl rfl ?_
  refine lW_iconst C (pc' := 1059) dL_law_1058 rfl ⟨by decide, by decide⟩ ?_
  refine lW_iadd C (pc' := 1060) dL_law_1059 rfl ⟨by omega, by omega⟩ ?_
  refine lW_sld C (pc' := 1061) dL_law_1060 rfl (by omega) (by omega) ?_
  refine lW_aload_n C (pc' := 1062) dL_law_1061 rfl rfl rfl ?_
  refine lW_iload_n C (pc' := 1063) dL_law_1062 rfl rfl rfl ?_
  refine lW_iconst C (pc' := 1064) dL_law_1063 rfl ⟨by decide, by decide⟩ ?_
  refine lW_iadd C (pc' := 1065) dL_law_1064 rfl ⟨by omega, by omega⟩ ?_
  refine lW_sld C (pc' := 1066) dL_law_1065 rfl (by omega) (by omega) ?_
  refine lW_callC C (pc' := 1069) (ys := [(xs (i + 1).toNat).toInt, (xs (i + 2).toNat).toInt, (xs (i + 3).toNat).toInt]) (st := []) zlc_sheet_C rfl dL_law_1066 rfl rfl rfl (Nat.le_of_ble_eq_true rfl) (sX9_sheet ((xs (i + 1).toNat).toInt) ((xs (i + 2).toNat).toInt) ((xs (i + 3).toNat).toInt) hC) (fun r _ h => ⟨h.choose, Or.inl h.choose_spec.1⟩) ?_
  intro r8 σ2 h8
  obtain ⟨x8, h81, h82, hPC⟩ := h8
  rw [h82] at h81
  subst h81
  change lW p l e s m below meth c D cA ad1 ad2 b 1069 [some (zR 0), some (zR 1), some (zR 2), some (zI i)] [zI x9] σ2 μ
  refine lW_aload_n C (pc' := 1070) dL_law_1069 rfl rfl rfl ?_
  refine lW_aload_n C (pc' := 1071) dL_law_1070 rfl rfl rfl ?_
  refine lW_iload_n C (pc' := 1072) dL_law_1071 rfl rfl rfl ?_
  refine lW_iconst C (pc' := 1073) dL_law_1072 rfl ⟨by decide, by decide⟩ ?_
  refine lW_iadd C (pc' := 1074) dL_law_1073 rfl ⟨by omega, by omega⟩ ?_
  refine lW_sld C (pc' := 1075) dL_law_1074 rfl (by omega) (by omega) ?_
  refine lW_aload_n C (pc' := 1076) dL_law_1075 rfl rfl rfl ?_
  refine lW_iload_n C (pc' := 1077) dL_law_1076 rfl rfl rfl ?_
  refine lW_iconst C (pc' := 1078) dL_law_1077 rfl ⟨by decide, by decide⟩ ?_
  refine lW_iadd C (pc' := 1079) dL_law_1078 rfl ⟨by omega, by omega⟩ ?_
  refine lW_sld C (pc' := 1080) dL_law_1079 rfl (by omega) (by omega) ?_
  refine lW_aload_n C (pc' := 1081) dL_law_1080 rfl rfl rfl ?_
  refine lW_iload_n C (pc' := 1082) dL_law_1081 rfl rfl rfl ?_
  refine lW_iconst C (pc' := 1083) dL_law_1082 rfl ⟨by decide, by decide⟩ ?_
  refine lW_iadd C (pc' := 1084) dL_law_1083 rfl ⟨by omega, by omega⟩ ?_
  refine lW_sld C (pc' := 1085) dL_law_1084 rfl (by omega) (by omega) ?_
  refine lW_callM C (pc' := 1088) (ys := [(xs (i + 1).toNat).toInt, (xs (i + 2).toNat).toInt, (xs (i + 3).toNat).toInt]) (st := [zI x9]) zlc_sheet_M rfl dL_law_1085 rfl rfl rfl (Nat.le_of_ble_eq_true rfl) (sX10_sheet ((xs (i + 1).toNat).toInt) ((xs (i + 2).toNat).toInt) ((xs (i + 3).toNat).toInt) hM) (fun r _ h => ⟨h.choose, Or.inl h.choose_spec.1⟩) ?_
  intro r8 μ2 h8
  obtain ⟨x8, h81, h82, hPM⟩ := h8
  rw [h82] at h81
  subst h81
  change lW p l e s m below meth c D cA ad1 ad2 b 1088 [some (zR 0), some (zR 1), some (zR 2), some (zI i)] [zI x9, zI x9] σ2 μ2
  exact lW_same C (tgt := 1345) dL_law_1088 (by decide) (kk σ2 μ2 (hR σ2 μ2 hPC hPM))
theorem lc_lose {p : Program} {l : Launch} {e : Env} {s : State} {m : MethodId} {below : List Frame} {meth : Method} {c : Code} {D : va_G} {cA : Nat → ClassId} {ad1 ad2 : Nat → Nat} {b Lx : Nat} {xs : Nat → Int32} (C : lCx p s m meth c D cA ad1 ad2 b Lx xs) {R2 : zS → zS → Prop} (i : Int) (h0 : 0 ≤ i) (h1 : i + 5 < (Lx : Int)) (hL : Lx ≤ 3072) (σ μ : zS) (hE : zE R2 (vX9_lose ((xs (i + 1).toNat).toInt) σ) (vX10_lose ((xs (i + 1).toNat).toInt) μ)) (kk : ∀ σ2 μ2, R2 σ2 μ2 → lW p l e s m below meth c D cA ad1 ad2 b 1345 [some (zR 0), some (zR 1), some (zR 2), some (zI i)] [] σ2 μ2) : lW p l e s m below meth c D cA ad1 ad2 b 1093 [some (zR 0), some (zR 1), some (zR 2), some (zI i)] [] σ μ := by
  obtain ⟨x9, PC, PM, hC, hM, hR⟩ := hE
  refine lW_aload_n C (pc' := 1094) dL_law_1093 rfl rfl rfl ?_
  refine lW_aload_n C (pc' := 1095) dL_law_1094 rfl rfl rfl ?_
  refine lW_iload_n C (pc' := 1096) dL_law_1095 rfl rfl rfl ?_
  refine lW_iconst C (pc' := 1097) dL_law_1096 rfl ⟨by decide, by decide⟩ ?_
  refine lW_iadd C (pc' := 1098) dL_law_1097 rfl ⟨by omega, by omega⟩ ?_
  refine lW_sld C (pc' := 1099) dL_law_1098 rfl (by omega) (by omega) ?_
  refine lW_callC C (pc' := 1102) (ys := [(xs (i + 1).toNat).toInt]) (st := []) zlc_lose_C rfl dL_law_1099 rfl rfl rfl (Nat.le_of_ble_eq_true rfl) (sX9_lose ((xs (i + 1).toNat).toInt) hC) (fun r _ h => ⟨h.choose, Or.inl h.choose_spec.1⟩) ?_
  intro r8 σ2 h8
  obtain ⟨x8, h81, h82, hPC⟩ := h8
  rw [h82] at h81
  subst h81
  change lW p l e s m below meth c D cA ad1 ad2 b 1102 [some (zR 0), some (zR 1), some (zR 2), some (zI i)] [zI x9] σ2 μ
  refine lW_aload_n C (pc' := 1103) dL_law_1102 rfl rfl rfl ?_
  refine lW_aload_n C (pc' := 1104) dL_law_1103 rfl rfl rfl ?_
  refine lW_iload_n C (pc' := 1105) dL_law_1104 rfl rfl rfl ?_
  refine lW_iconst C (pc' := 1106) dL_law_1105 rfl ⟨by decide, by decide⟩ ?_
  refine lW_iadd C (pc' := 1107) dL_law_1106 rfl ⟨by omega, by omega⟩ ?_
  refine lW_sld C (pc' := 1108) dL_law_1107 rfl (by omega) (by omega) ?_
  refine lW_callM C (pc' := 1111) (ys := [(xs (i + 1).toNat).toInt]) (st := [zI x9]) zlc_lose_M rfl dL_law_1108 rfl rfl rfl (Nat.le_of_ble_eq_true rfl) (sX10_lose ((xs (i + 1).toNat).toInt) hM) (fun r _ h => ⟨h.choose, Or.inl h.choose_spec.1⟩) ?_
  intro r8 μ2 h8
  obtain ⟨x8, h81, h82, hPM⟩ := h8
  rw [h82] at h81
  subst h81
  change lW p l e s m below meth c D cA ad1 ad2 b 1111 [some (zR 0), some (zR 1), some (zR 2), some (zI i)] [zI x9, zI x9] σ2 μ2
  exact lW_same C (tgt := 1345) dL_law_1111 (by decide) (kk σ2 μ2 (hR σ2 μ2 hPC hPM))
theorem lc_put {p : Program} {l : Launch} {e : Env} {s : State} {m : MethodId} {below : List Frame} {meth : Method} {c : Code} {D : va_G} {cA : Nat → ClassId} {ad1 ad2 : Nat → Nat} {b Lx : Nat} {xs : Nat → Int32} (C : lCx p s m meth c D cA ad1 ad2 b Lx xs) {R2 : zS → zS → Prop} (i : Int) (h0 : 0 ≤ i) (h1 : i + 5 < (Lx : Int)) (hL : Lx ≤ 3072) (σ μ : zS) (hE : zE R2 (vX9_put ((xs (i + 1).toNat).toInt) ((xs (i + 2).toNat).toInt) ((xs (i + 3).toNat).toInt) ((xs (i + 4).toNat).toInt) σ) (vX10_put ((xs (i + 1).toNat).toInt) ((xs (i + 2).toNat).toInt) ((xs (i + 3).toNat).toInt) ((xs (i + 4).toNat).toInt) μ)) (kk : ∀ σ2 μ2, R2 σ2 μ2 → lW p l e s m below meth c D cA ad1 ad2 b 1345 [some (zR 0), some (zR 1), some (zR 2), some (zI i)] [] σ2 μ2) : lW p l e s m below meth c D cA ad1 ad2 b 1116 [some (zR 0), some (zR 1), some (zR 2), some (zI i)] [] σ μ := by
  obtain ⟨x9, PC, PM, hC, hM, hR⟩ := hE
  refine lW_aload_n C (pc' := 1117) dL_law_1116 rfl rfl rfl ?_
  refine lW_aload_n C (pc' := 1118) dL_law_1117 rfl rfl rfl ?_
  refine lW_iload_n C (pc' := 1119) dL_law_1118 rfl rfl rfl ?_
  refine lW_iconst C (pc' := 1120) dL_law_1119 rfl ⟨by decide, by decide⟩ ?_
  refine lW_iadd C (pc' := 1121) dL_law_1120 rfl ⟨by omega, by omega⟩ ?_
  refine lW_sld C (pc' := 1122) dL_law_1121 rfl (by omega) (by omega) ?_
  refine lW_aload_n C (pc' := 1123) dL_law_1122 rfl rfl rfl ?_
  refine lW_iload_n C (pc' := 1124) dL_law_1123 rfl rfl rfl ?_
  refine lW_iconst C (pc' := 1125) dL_law_1124 rfl ⟨by decide, by decide⟩ ?_
  refine lW_iadd C (pc' := 1126) dL_law_1125 rfl ⟨by omega, by omega⟩ ?_
  refine lW_sld C (pc' := 1127) dL_law_1126 rfl (by omega) (by omega) ?_
  refine lW_aload_n C (pc' := 1128) dL_law_1127 rfl rfl rfl ?_
  refine lW_iload_n C (pc' := 1129) dL_law_1128 rfl rfl rfl ?_
  refine lW_iconst C (pc' := 1130) dL_law_1129 rfl ⟨by decide, by decide⟩ ?_
  refine lW_iadd C (pc' := 1131) dL_law_1130 rfl ⟨by omega, by omega⟩ ?_
  refine lW_sld C (pc' := 1132) dL_law_1131 rfl (by omega) (by omega) ?_
  refine lW_aload_n C (pc' := 1133) dL_law_1132 rfl rfl rfl ?_
  refine lW_iload_n C (pc' := 1134) dL_law_1133 rfl rfl rfl ?_
  refine lW_iconst C (pc' := 1135) dL_law_1134 rfl ⟨by decide, by decide⟩ ?_
  refine lW_iadd C (pc' := 1136) dL_law_1135 rfl ⟨by omega, by omega⟩ ?_
  refine lW_sld C (pc' := 1137) dL_law_1136 rfl (by omega) (by omega) ?_
  refine lW_callC C (pc' := 1140) (ys := [(xs (i + 1).toNat).toInt, (xs (i + 2).toNat).toInt, (xs (i + 3).toNat).toInt, (xs (i + 4).toNat).toInt]) (st := []) zlc_put_C rfl dL_law_1137 rfl rfl rfl (Nat.le_of_ble_eq_true rfl) (sX9_put ((xs (i + 1).toNat).toInt) ((xs (i + 2).toNat).toInt) ((xs (i + 3).toNat).toInt) ((xs (i + 4).toNat).toInt) hC) (fun r _ h => ⟨h.choose, Or.inl h.choose_spec.1⟩) ?_
  intro r8 σ2 h8
  obtain ⟨x8, h81, h82, hPC⟩ := h8
  rw [h82] at h81
  subst h81
  change lW p l e s m below meth c D cA ad1 ad2 b 1140 [some (zR 0), some (zR 1), some (zR 2), some (zI i)] [zI x9] σ2 μ
  refine lW_aload_n C (pc' := 1141) dL_law_1140 rfl rfl rfl ?_
  refine lW_aload_n C (pc' := 1142) dL_law_1141 rfl rfl rfl ?_
  refine lW_iload_n C (pc' := 1143) dL_law_1142 rfl rfl rfl ?_
  refine lW_iconst C (pc' := 1144) dL_law_1143 rfl ⟨by decide, by decide⟩ ?_
  refine lW_iadd C (pc' := 1145) dL_law_1144 rfl ⟨by omega, by omega⟩ ?_
  refine lW_sld C (pc' := 1146) dL_law_1145 rfl (by omega) (by omega) ?_
  refine lW_aload_n C (pc' := 1147) dL_law_1146 rfl rfl rfl ?_
  refine lW_iload_n C (pc' := 1148) dL_law_1147 rfl rfl rfl ?_
  refine lW_iconst C (pc' := 1149) dL_law_1148 rfl ⟨by decide, by decide⟩ ?_
  refine lW_iadd C (pc' := 1150) dL_law_1149 rfl ⟨by omega, by omega⟩ ?_
  refine lW_sld C (pc' := 1151) dL_law_1150 rfl (by omega) (by omega) ?_
  refine lW_aload_n C (pc' := 1152) dL_law_1151 rfl rfl rfl ?_
  refine lW_iload_n C (pc' := 1153) dL_law_1152 rfl rfl rfl ?_
  refine lW_iconst C (pc' := 1154) dL_law_1153 rfl ⟨by decide, by decide⟩ ?_
  refine lW_iadd C (pc' := 1155) dL_law_1154 rfl ⟨by omega, by omega⟩ ?_
  refine lW_sld C (pc' := 1156) dL_law_1155 rfl (by omega) (by omega) ?_
  refine lW_aload_n C (pc' := 1157) dL_law_1156 rfl rfl rfl ?_
  refine lW_iload_n C (pc' := 1158) dL_law_1157 rfl rfl rfl ?_
  refine lW_iconst C (pc' := 1159) dL_law_1158 rfl ⟨by decide, by decide⟩ ?_
  refine lW_iadd C (pc' := 1160) dL_law_1159 rfl ⟨by omega, by omega⟩ ?_
  refine lW_sld C (pc' := 1161) dL_law_1160 rfl (by omega) (by omega) ?_
  refine lW_callM C (pc' := 1164) (ys := [(xs (i + 1).toNat).toInt, (xs (i + 2).toNat).toInt, (xs (i + 3).toNat).toInt, (xs (i + 4).toNat).toInt]) (st := [zI x9]) zlc_put_M rfl dL_law_1161 rfl rfl rfl (Nat.le_of_ble_eq_true rfl) (sX10_put ((xs (i + 1).toNat).toInt) ((xs (i + 2).toNat).toInt) ((xs (i + 3).toNat).toInt) ((xs (i + 4).toNat).toInt) hM) (fun r _ h => ⟨h.choose, Or.inl h.choose_spec.1⟩) ?_
  intro r8 μ2 h8
  obtain ⟨x8, h81, h82, hPM⟩ := h8
  rw [h82] at h81
  subst h81
  change lW p l e s m below meth c D cA ad1 ad2 b 1164 [some (zR 0), some (zR 1), some (zR 2), some (zI i)] [zI x9, zI x9] σ2 μ2
  exact lW_same C (tgt := 1345) dL_law_1164 (by decide) (kk σ2 μ2 (hR σ2 μ2 hPC hPM))
theorem lc_get {p : Program} {l : Launch} {e : Env} {s : State} {m : MethodId} {below : List Frame} {meth : Method} {c : Code} {D : va_G} {cA : Nat → ClassId} {ad1 ad2 : Nat → Nat} {b Lx : Nat} {xs : Nat → Int32} (C : lCx p s m meth c D cA ad1 ad2 b Lx xs) {R2 : zS → zS → Prop} (i : Int) (h0 : 0 ≤ i) (h1 : i + 5 < (Lx : Int)) (hL : Lx ≤ 3072) (σ μ : zS) (hE : zE R2 (vX9_get ((xs (i + 1).toNat).toInt) ((xs (i + 2).toNat).toInt) ((xs (i + 3).toNat).toInt) σ) (vX10_get ((xs (i + 1).toNat).toInt) ((xs (i + 2).toNat).toInt) ((xs (i + 3).toNat).toInt) μ)) (kk : ∀ σ2 μ2, R2 σ2 μ2 → lW p l e s m below meth c D cA ad1 ad2 b 1345 [some (zR 0), some (zR 1), some (zR 2), some (zI i)] [] σ2 μ2) : lW p l e s m below meth c D cA ad1 ad2 b 1169 [some (zR 0), some (zR 1), some (zR 2), some (zI i)] [] σ μ := by
  obtain ⟨x9, PC, PM, hC, hM, hR⟩ := hE
  refine lW_aload_n C (pc' := 1170) dL_law_1169 rfl rfl rfl ?_
  refine lW_aload_n C (pc' := 1171) dL_law_1170 rfl rfl rfl ?_
  refine lW_iload_n C (pc' := 1172) dL_law_1171 rfl rfl rfl ?_
  refine lW_iconst C (pc' := 1173) dL_law_1172 rfl ⟨by decide, by decide⟩ ?_
  refine lW_iadd C (pc' := 1174) dL_law_1173 rfl ⟨by omega, by omega⟩ ?_
  refine lW_sld C (pc' := 1175) dL_law_1174 rfl (by omega) (by omega) ?_
  refine lW_aload_n C (pc' := 1176) dL_law_1175 rfl rfl rfl ?_
  refine lW_iload_n C (pc' := 1177) dL_law_1176 rfl rfl rfl ?_
  refine lW_iconst C (pc' := 1178) dL_law_1177 rfl ⟨by decide, by decide⟩ ?_
  refine lW_iadd C (pc' := 1179) dL_law_1178 rfl ⟨by omega, by omega⟩ ?_
  refine lW_sld C (pc' := 1180) dL_law_1179 rfl (by omega) (by omega) ?_
  refine lW_aload_n C (pc' := 1181) dL_law_1180 rfl rfl rfl ?_
  refine lW_iload_n C (pc' := 1182) dL_law_1181 rfl rfl rfl ?_
  refine lW_iconst C (pc' := 1183) dL_law_1182 rfl ⟨by decide, by decide⟩ ?_
  refine lW_iadd C (pc' := 1184) dL_law_1183 rfl ⟨by omega, by omega⟩ ?_
  refine lW_sld C (pc' := 1185) dL_law_1184 rfl (by omega) (by omega) ?_
  refine lW_callC C (pc' := 1188) (ys := [(xs (i + 1).toNat).toInt, (xs (i + 2).toNat).toInt, (xs (i + 3).toNat).toInt]) (st := []) zlc_get_C rfl dL_law_1185 rfl rfl rfl (Nat.le_of_ble_eq_true rfl) (sX9_get ((xs (i + 1).toNat).toInt) ((xs (i + 2).toNat).toInt) ((xs (i + 3).toNat).toInt) hC) (fun r _ h => ⟨h.choose, Or.inl h.choose_spec.1⟩) ?_
  intro r8 σ2 h8
  obtain ⟨x8, h81, h82, hPC⟩ := h8
  rw [h82] at h81
  subst h81
  change lW p l e s m below meth c D cA ad1 ad2 b 1188 [some (zR 0), some (zR 1), some (zR 2), some (zI i)] [zI x9] σ2 μ
  refine lW_aload_n C (pc' := 1189) dL_law_1188 rfl rfl rfl ?_
  refine lW_aload_n C (pc' := 1190) dL_law_1189 rfl rfl rfl ?_
  refine lW_iload_n C (pc' := 1191) dL_law_1190 rfl rfl rfl ?_
  refine lW_iconst C (pc' := 1192) dL_law_1191 rfl ⟨by decide, by decide⟩ ?_
  refine lW_iadd C (pc' := 1193) dL_law_1192 rfl ⟨by omega, by omega⟩ ?_
  refine lW_sld C (pc' := 1194) dL_law_1193 rfl (by omega) (by omega) ?_
  refine lW_aload_n C (pc' := 1195) dL_law_1194 rfl rfl rfl ?_
  refine lW_iload_n C (pc' := 1196) dL_law_1195 rfl rfl rfl ?_
  refine lW_iconst C (pc' := 1197) dL_law_1196 rfl ⟨by decide, by decide⟩ ?_
  refine lW_iadd C (pc' := 1198) dL_law_1197 rfl ⟨by omega, by omega⟩ ?_
  refine lW_sld C (pc' := 1199) dL_law_1198 rfl (by omega) (by omega) ?_
  refine lW_aload_n C (pc' := 1200) dL_law_1199 rfl rfl rfl ?_
  refine lW_iload_n C (pc' := 1201) dL_law_1200 rfl rfl rfl ?_
  refine lW_iconst C (pc' := 1202) dL_law_1201 rfl ⟨by decide, by decide⟩ ?_
  refine lW_iadd C (pc' := 1203) dL_law_1202 rfl ⟨by omega, by omega⟩ ?_
  refine lW_sld C (pc' := 1204) dL_law_1203 rfl (by omega) (by omega) ?_
  refine lW_callM C (pc' := 1207) (ys := [(xs (i + 1).toNat).toInt, (xs (i + 2).toNat).toInt, (xs (i + 3).toNat).toInt]) (st := [zI x9]) zlc_get_M rfl dL_law_1204 rfl rfl rfl (Nat.le_of_ble_eq_true rfl) (sX10_get ((xs (i + 1).toNat).toInt) ((xs (i + 2).toNat).toInt) ((xs (i + 3).toNat).toInt) hM) (fun r _ h => ⟨h.choose, Or.inl h.choose_spec.1⟩) ?_
  intro r8 μ2 h8
  obtain ⟨x8, h81, h82, hPM⟩ := h8
  rw [h82] at h81
  subst h81
  change lW p l e s m below meth c D cA ad1 ad2 b 1207 [some (zR 0), some (zR 1), some (zR 2), some (zI i)] [zI x9, zI x9] σ2 μ2
  exact lW_same C (tgt := 1345) dL_law_1207 (by decide) (kk σ2 μ2 (hR σ2 μ2 hPC hPM))
theorem lc_copy {p : Program} {l : Launch} {e : Env} {s : State} {m : MethodId} {below : List Frame} {meth : Method} {c : Code} {D : va_G} {cA : Nat → ClassId} {ad1 ad2 : Nat → Nat} {b Lx : Nat} {xs : Nat → Int32} (C : lCx p s m meth c D cA ad1 ad2 b Lx xs) {R2 : zS → zS → Prop} (i : Int) (h0 : 0 ≤ i) (h1 : i + 5 < (Lx : Int)) (hL : Lx ≤ 3072) (σ μ : zS) (hE : zE R2 (vX9_copy ((xs (i + 1).toNat).toInt) ((xs (i + 2).toNat).toInt) ((xs (i + 3).toNat).toInt) ((xs (i + 4).toNat).toInt) ((xs (i + 5).toNat).toInt) σ) (vX10_copy ((xs (i + 1).toNat).toInt) ((xs (i + 2).toNat).toInt) ((xs (i + 3).toNat).toInt) ((xs (i + 4).toNat).toInt) ((xs (i + 5).toNat).toInt) μ)) (kk : ∀ σ2 μ2, R2 σ2 μ2 → lW p l e s m below meth c D cA ad1 ad2 b 1345 [some (zR 0), some (zR 1), some (zR 2), some (zI i)] [] σ2 μ2) : lW p l e s m below meth c D cA ad1 ad2 b 1212 [some (zR 0), some (zR 1), some (zR 2), some (zI i)] [] σ μ := by
  obtain ⟨x9, PC, PM, hC, hM, hR⟩ := hE
  refine lW_aload_n C (pc' := 1213) dL_law_1212 rfl rfl rfl ?_
  refine lW_aload_n C (pc' := 1214) dL_law_1213 rfl rfl rfl ?_
  refine lW_iload_n C (pc' := 1215) dL_law_1214 rfl rfl rfl ?_
  refine lW_iconst C (pc' := 1216) dL_law_1215 rfl ⟨by decide, by decide⟩ ?_
  refine lW_iadd C (pc' := 1217) dL_law_1216 rfl ⟨by omega, by omega⟩ ?_
  refine lW_sld C (pc' := 1218) dL_law_1217 rfl (by omega) (by omega) ?_
  refine lW_aload_n C (pc' := 1219) dL_law_1218 rfl rfl rfl ?_
  refine lW_iload_n C (pc' := 1220) dL_law_1219 rfl rfl rfl ?_
  refine lW_iconst C (pc' := 1221) dL_law_1220 rfl ⟨by decide, by decide⟩ ?_
  refine lW_iadd C (pc' := 1222) dL_law_1221 rfl ⟨by omega, by omega⟩ ?_
  refine lW_sld C (pc' := 1223) dL_law_1222 rfl (by omega) (by omega) ?_
  refine lW_aload_n C (pc' := 1224) dL_law_1223 rfl rfl rfl ?_
  refine lW_iload_n C (pc' := 1225) dL_law_1224 rfl rfl rfl ?_
  refine lW_iconst C (pc' := 1226) dL_law_1225 rfl ⟨by decide, by decide⟩ ?_
  refine lW_iadd C (pc' := 1227) dL_law_1226 rfl ⟨by omega, by omega⟩ ?_
  refine lW_sld C (pc' := 1228) dL_law_1227 rfl (by omega) (by omega) ?_
  refine lW_aload_n C (pc' := 1229) dL_law_1228 rfl rfl rfl ?_
  refine lW_iload_n C (pc' := 1230) dL_law_1229 rfl rfl rfl ?_
  refine lW_iconst C (pc' := 1231) dL_law_1230 rfl ⟨by decide, by decide⟩ ?_
  refine lW_iadd C (pc' := 1232) dL_law_1231 rfl ⟨by omega, by omega⟩ ?_
  refine lW_sld C (pc' := 1233) dL_law_1232 rfl (by omega) (by omega) ?_
  refine lW_aload_n C (pc' := 1234) dL_law_1233 rfl rfl rfl ?_
  refine lW_iload_n C (pc' := 1235) dL_law_1234 rfl rfl rfl ?_
  refine lW_iconst C (pc' := 1236) dL_law_1235 rfl ⟨by decide, by decide⟩ ?_
  refine lW_iadd C (pc' := 1237) dL_law_1236 rfl ⟨by omega, by omega⟩ ?_
  refine lW_sld C (pc' := 1238) dL_law_1237 rfl (by omega) (by omega) ?_
  refine lW_callC C (pc' := 1241) (ys := [(xs (i + 1).toNat).toInt, (xs (i + 2).toNat).toInt, (xs (i + 3).toNat).toInt, (xs (i + 4).toNat).toInt, (xs (i + 5).toNat).toInt]) (st := []) zlc_copy_C rfl dL_law_1238 rfl rfl rfl (Nat.le_of_ble_eq_true rfl) (sX9_copy ((xs (i + 1).toNat).toInt) ((xs (i + 2).toNat).toInt) ((xs (i + 3).toNat).toInt) ((xs (i + 4).toNat).toInt) ((xs (i + 5).toNat).toInt) hC) (fun r _ h => ⟨h.choose, Or.inl h.choose_spec.1⟩) ?_
  intro r8 σ2 h8
  obtain ⟨x8, h81, h82, hPC⟩ := h8
  rw [h82] at h81
  subst h81
  change lW p l e s m below meth c D cA ad1 ad2 b 1241 [some (zR 0), some (zR 1), some (zR 2), some (zI i)] [zI x9] σ2 μ
  refine lW_aload_n C (pc' := 1242) dL_law_1241 rfl rfl rfl ?_
  refine lW_aload_n C (pc' := 1243) dL_law_1242 rfl rfl rfl ?_
  refine lW_iload_n C (pc' := 1244) dL_law_1243 rfl rfl rfl ?_
  refine lW_iconst C (pc' := 1245) dL_law_1244 rfl ⟨by decide, by decide⟩ ?_
  refine lW_iadd C (pc' := 1246) dL_law_1245 rfl ⟨by omega, by omega⟩ ?_
  refine lW_sld C (pc' := 1247) dL_law_1246 rfl (by omega) (by omega) ?_
  refine lW_aload_n C (pc' := 1248) dL_law_1247 rfl rfl rfl ?_
  refine lW_iload_n C (pc' := 1249) dL_law_1248 rfl rfl rfl ?_
  refine lW_iconst C (pc' := 1250) dL_law_1249 rfl ⟨by decide, by decide⟩ ?_
  refine lW_iadd C (pc' := 1251) dL_law_1250 rfl ⟨by omega, by omega⟩ ?_
  refine lW_sld C (pc' := 1252) dL_law_1251 rfl (by omega) (by omega) ?_
  refine lW_aload_n C (pc' := 1253) dL_law_1252 rfl rfl rfl ?_
  refine lW_iload_n C (pc' := 1254) dL_law_1253 rfl rfl rfl ?_
  refine lW_iconst C (pc' := 1255) dL_law_1254 rfl ⟨by decide, by decide⟩ ?_
  refine lW_iadd C (pc' := 1256) dL_law_1255 rfl ⟨by omega, by omega⟩ ?_
  refine lW_sld C (pc' := 1257) dL_law_1256 rfl (by omega) (by omega) ?_
  refine lW_aload_n C (pc' := 1258) dL_law_1257 rfl rfl rfl ?_
  refine lW_iload_n C (pc' := 1259) dL_law_1258 rfl rfl rfl ?_
  refine lW_iconst C (pc' := 1260) dL_law_1259 rfl ⟨by decide, by decide⟩ ?_
  refine lW_iadd C (pc' := 1261) dL_law_1260 rfl ⟨by omega, by omega⟩ ?_
  refine lW_sld C (pc' := 1262) dL_law_1261 rfl (by omega) (by omega) ?_
  refine lW_aload_n C (pc' := 1263) dL_law_1262 rfl rfl rfl ?_
  refine lW_iload_n C (pc' := 1264) dL_law_1263 rfl rfl rfl ?_
  refine lW_iconst C (pc' := 1265) dL_law_1264 rfl ⟨by decide, by decide⟩ ?_
  refine lW_iadd C (pc' := 1266) dL_law_1265 rfl ⟨by omega, by omega⟩ ?_
  refine lW_sld C (pc' := 1267) dL_law_1266 rfl (by omega) (by omega) ?_
  refine lW_callM C (pc' := 1270) (ys := [(xs (i + 1).toNat).toInt, (xs (i + 2).toNat).toInt, (xs (i + 3).toNat).toInt, (xs (i + 4).toNat).toInt, (xs (i + 5).toNat).toInt]) (st := [zI x9]) zlc_copy_M rfl dL_law_1267 rfl rfl rfl (Nat.le_of_ble_eq_true rfl) (sX10_copy ((xs (i + 1).toNat).toInt) ((xs (i + 2).toNat).toInt) ((xs (i + 3).toNat).toInt) ((xs (i + 4).toNat).toInt) ((xs (i + 5).toNat).toInt) hM) (fun r _ h => ⟨h.choose, Or.inl h.choose_spec.1⟩) ?_
  intro r8 μ2 h8
  obtain ⟨x8, h81, h82, hPM⟩ := h8
  rw [h82] at h81
  subst h81
  change lW p l e s m below meth c D cA ad1 ad2 b 1270 [some (zR 0), some (zR 1), some (zR 2), some (zI i)] [zI x9, zI x9] σ2 μ2
  exact lW_same C (tgt := 1345) dL_law_1270 (by decide) (kk σ2 μ2 (hR σ2 μ2 hPC hPM))
theorem lc_write {p : Program} {l : Launch} {e : Env} {s : State} {m : MethodId} {below : List Frame} {meth : Method} {c : Code} {D : va_G} {cA : Nat → ClassId} {ad1 ad2 : Nat → Nat} {b Lx : Nat} {xs : Nat → Int32} (C : lCx p s m meth c D cA ad1 ad2 b Lx xs) {R2 : zS → zS → Prop} (i : Int) (h0 : 0 ≤ i) (h1 : i + 5 < (Lx : Int)) (hL : Lx ≤ 3072) (σ μ : zS) (hE : zE R2 (vX9_write ((xs (i + 1).toNat).toInt) ((xs (i + 2).toNat).toInt) σ) (vX10_write ((xs (i + 1).toNat).toInt) ((xs (i + 2).toNat).toInt) μ)) (kk : ∀ σ2 μ2, R2 σ2 μ2 → lW p l e s m below meth c D cA ad1 ad2 b 1345 [some (zR 0), some (zR 1), some (zR 2), some (zI i)] [] σ2 μ2) : lW p l e s m below meth c D cA ad1 ad2 b 1275 [some (zR 0), some (zR 1), some (zR 2), some (zI i)] [] σ μ := by
  obtain ⟨x9, PC, PM, hC, hM, hR⟩ := hE
  refine lW_aload_n C (pc' := 1276) dL_law_1275 rfl rfl rfl ?_
  refine lW_aload_n C (pc' := 1277) dL_law_1276 rfl rfl rfl ?_
  refine lW_iload_n C (pc' := 1278) dL_law_1277 rfl rfl rfl ?_
  refine lW_iconst C (pc' := 1279) dL_law_1278 rfl ⟨by decide, by decide⟩ ?_
  refine lW_iadd C (pc' := 1280) dL_law_1279 rfl ⟨by omega, by omega⟩ ?_
  refine lW_sld C (pc' := 1281) dL_law_1280 rfl (by omega) (by omega) ?_
  refine lW_aload_n C (pc' := 1282) dL_law_1281 rfl rfl rfl ?_
  refine lW_iload_n C (pc' := 1283) dL_law_1282 rfl rfl rfl ?_
  refine lW_iconst C (pc' := 1284) dL_law_1283 rfl ⟨by decide, by decide⟩ ?_
  refine lW_iadd C (pc' := 1285) dL_law_1284 rfl ⟨by omega, by omega⟩ ?_
  refine lW_sld C (pc' := 1286) dL_law_1285 rfl (by omega) (by omega) ?_
  refine lW_callC C (pc' := 1289) (ys := [(xs (i + 1).toNat).toInt, (xs (i + 2).toNat).toInt]) (st := []) zlc_write_C rfl dL_law_1286 rfl rfl rfl (Nat.le_of_ble_eq_true rfl) (sX9_write ((xs (i + 1).toNat).toInt) ((xs (i + 2).toNat).toInt) hC) (fun r _ h => ⟨h.choose, Or.inl h.choose_spec.1⟩) ?_
  intro r8 σ2 h8
  obtain ⟨x8, h81, h82, hPC⟩ := h8
  rw [h82] at h81
  subst h81
  change lW p l e s m below meth c D cA ad1 ad2 b 1289 [some (zR 0), some (zR 1), some (zR 2), some (zI i)] [zI x9] σ2 μ
  refine lW_aload_n C (pc' := 1290) dL_law_1289 rfl rfl rfl ?_
  refine lW_aload_n C (pc' := 1291) dL_law_1290 rfl rfl rfl ?_
  refine lW_iload_n C (pc' := 1292) dL_law_1291 rfl rfl rfl ?_
  refine lW_iconst C (pc' := 1293) dL_law_1292 rfl ⟨by decide, by decide⟩ ?_
  refine lW_iadd C (pc' := 1294) dL_law_1293 rfl ⟨by omega, by omega⟩ ?_
  refine lW_sld C (pc' := 1295) dL_law_1294 rfl (by omega) (by omega) ?_
  refine lW_aload_n C (pc' := 1296) dL_law_1295 rfl rfl rfl ?_
  refine lW_iload_n C (pc' := 1297) dL_law_1296 rfl rfl rfl ?_
  refine lW_iconst C (pc' := 1298) dL_law_1297 rfl ⟨by decide, by decide⟩ ?_
  refine lW_iadd C (pc' := 1299) dL_law_1298 rfl ⟨by omega, by omega⟩ ?_
  refine lW_sld C (pc' := 1300) dL_law_1299 rfl (by omega) (by omega) ?_
  refine lW_callM C (pc' := 1303) (ys := [(xs (i + 1).toNat).toInt, (xs (i + 2).toNat).toInt]) (st := [zI x9]) zlc_write_M rfl dL_law_1300 rfl rfl rfl (Nat.le_of_ble_eq_true rfl) (sX10_write ((xs (i + 1).toNat).toInt) ((xs (i + 2).toNat).toInt) hM) (fun r _ h => ⟨h.choose, Or.inl h.choose_spec.1⟩) ?_
  intro r8 μ2 h8
  obtain ⟨x8, h81, h82, hPM⟩ := h8
  rw [h82] at h81
  subst h81
  change lW p l e s m below meth c D cA ad1 ad2 b 1303 [some (zR 0), some (zR 1), some (zR 2), some (zI i)] [zI x9, zI x9] σ2 μ2
  exact lW_same C (tgt := 1345) dL_law_1303 (by decide) (kk σ2 μ2 (hR σ2 μ2 hPC hPM))
theorem lc_count {p : Program} {l : Launch} {e : Env} {s : State} {m : MethodId} {below : List Frame} {meth : Method} {c : Code} {D : va_G} {cA : Nat → ClassId} {ad1 ad2 : Nat → Nat} {b Lx : Nat} {xs : Nat → Int32} (C : lCx p s m meth c D cA ad1 ad2 b Lx xs) {R2 : zS → zS → Prop} (i : Int) (h0 : 0 ≤ i) (h1 : i + 5 < (Lx : Int)) (hL : Lx ≤ 3072) (σ μ : zS) (hE : zE R2 (vX9_count ((xs (i + 1).toNat).toInt) σ) (vX10_count ((xs (i + 1).toNat).toInt) μ)) (kk : ∀ σ2 μ2, R2 σ2 μ2 → lW p l e s m below meth c D cA ad1 ad2 b 1345 [some (zR 0), some (zR 1), some (zR 2), some (zI i)] [] σ2 μ2) : lW p l e s m below meth c D cA ad1 ad2 b 1308 [some (zR 0), some (zR 1), some (zR 2), some (zI i)] [] σ μ := by
  obtain ⟨x9, PC, PM, hC, hM, hR⟩ := hE
  refine lW_aload_n C (pc' := 1309) dL_law_1308 rfl rfl rfl ?_
  refine lW_aload_n C (pc' := 1310) dL_law_1309 rfl rfl rfl ?_
  refine lW_iload_n C (pc' := 1311) dL_law_1310 rfl rfl rfl ?_
  refine lW_iconst C (pc' := 1312) dL_law_1311 rfl ⟨by decide, by decide⟩ ?_
  refine lW_iadd C (pc' := 1313) dL_law_1312 rfl ⟨by omega, by omega⟩ ?_
  refine lW_sld C (pc' := 1314) dL_law_1313 rfl (by omega) (by omega) ?_
  refine lW_callC C (pc' := 1317) (ys := [(xs (i + 1).toNat).toInt]) (st := []) zlc_count_C rfl dL_law_1314 rfl rfl rfl (Nat.le_of_ble_eq_true rfl) (sX9_count ((xs (i + 1).toNat).toInt) hC) (fun r _ h => ⟨h.choose, Or.inl h.choose_spec.1⟩) ?_
  intro r8 σ2 h8
  obtain ⟨x8, h81, h82, hPC⟩ := h8
  rw [h82] at h81
  subst h81
  change lW p l e s m below meth c D cA ad1 ad2 b 1317 [some (zR 0), some (zR 1), some (zR 2), some (zI i)] [zI x9] σ2 μ
  refine lW_aload_n C (pc' := 1318) dL_law_1317 rfl rfl rfl ?_
  refine lW_aload_n C (pc' := 1319) dL_law_1318 rfl rfl rfl ?_
  refine lW_iload_n C (pc' := 1320) dL_law_1319 rfl rfl rfl ?_
  refine lW_iconst C (pc' := 1321) dL_law_1320 rfl ⟨by decide, by decide⟩ ?_
  refine lW_iadd C (pc' := 1322) dL_law_1321 rfl ⟨by omega, by omega⟩ ?_
  refine lW_sld C (pc' := 1323) dL_law_1322 rfl (by omega) (by omega) ?_
  refine lW_callM C (pc' := 1326) (ys := [(xs (i + 1).toNat).toInt]) (st := [zI x9]) zlc_count_M rfl dL_law_1323 rfl rfl rfl (Nat.le_of_ble_eq_true rfl) (sX10_count ((xs (i + 1).toNat).toInt) hM) (fun r _ h => ⟨h.choose, Or.inl h.choose_spec.1⟩) ?_
  intro r8 μ2 h8
  obtain ⟨x8, h81, h82, hPM⟩ := h8
  rw [h82] at h81
  subst h81
  change lW p l e s m below meth c D cA ad1 ad2 b 1326 [some (zR 0), some (zR 1), some (zR 2), some (zI i)] [zI x9, zI x9] σ2 μ2
  exact lW_same C (tgt := 1345) dL_law_1326 (by decide) (kk σ2 μ2 (hR σ2 μ2 hPC hPM))
theorem lc_digest {p : Program} {l : Launch} {e : Env} {s : State} {m : MethodId} {below : List Frame} {meth : Method} {c : Code} {D : va_G} {cA : Nat → ClassId} {ad1 ad2 : Nat → Nat} {b Lx : Nat} {xs : Nat → Int32} (C : lCx p s m meth c D cA ad1 ad2 b Lx xs) {R2 : zS → zS → Prop} (i : Int) (h0 : 0 ≤ i) (h1 : i + 5 < (Lx : Int)) (hL : Lx ≤ 3072) (σ μ : zS) (hE : zE R2 (vX9_digest  σ) (vX10_digest  μ)) (kk : ∀ σ2 μ2, R2 σ2 μ2 → lW p l e s m below meth c D cA ad1 ad2 b 1345 [some (zR 0), some (zR 1), some (zR 2), some (zI i)] [] σ2 μ2) : lW p l e s m below meth c D cA ad1 ad2 b 1331 [some (zR 0), some (zR 1), some (zR 2), some (zI i)] [] σ μ := by
  obtain ⟨x9, PC, PM, hC, hM, hR⟩ := hE
  refine lW_aload_n C (pc' := 1332) dL_law_1331 rfl rfl rfl ?_
  refine lW_callC C (pc' := 1335) (ys := []) (st := []) zlc_digest_C rfl dL_law_1332 rfl rfl rfl (Nat.le_of_ble_eq_true rfl) (sX9_digest  hC) (fun r _ h => ⟨h.choose, Or.inr h.choose_spec.1⟩) ?_
  intro r8 σ2 h8
  obtain ⟨x8, h81, h82, hPC⟩ := h8
  rw [h82] at h81
  subst h81
  change lW p l e s m below meth c D cA ad1 ad2 b 1335 [some (zR 0), some (zR 1), some (zR 2), some (zI i)] [zL x9] σ2 μ
  refine lW_aload_n C (pc' := 1336) dL_law_1335 rfl rfl rfl ?_
  refine lW_callM C (pc' := 1339) (ys := []) (st := [zL x9]) zlc_digest_M rfl dL_law_1336 rfl rfl rfl (Nat.le_of_ble_eq_true rfl) (sX10_digest  hM) (fun r _ h => ⟨h.choose, Or.inr h.choose_spec.1⟩) ?_
  intro r8 μ2 h8
  obtain ⟨x8, h81, h82, hPM⟩ := h8
  rw [h82] at h81
  subst h81
  change lW p l e s m below meth c D cA ad1 ad2 b 1339 [some (zR 0), some (zR 1), some (zR 2), some (zI i)] [zL x9, zL x9] σ2 μ2
  exact lW_sameL C (tgt := 1345) (pc' := 1340) dL_law_1339 rfl dL_law_1340 (by decide) (kk σ2 μ2 (hR σ2 μ2 hPC hPM))
theorem l32 (x : Int32) : z32 x.toInt := ⟨by have := Int32.le_toInt x; omega, by have := Int32.toInt_lt x; omega⟩
def lAll (R2 : zS → zS → Prop) : Prop := (∀ (σ μ : zS) (a1 : Int) (a2 : Int), R2 σ μ → z32 a1 → z32 a2 → zE R2 (vX9_wind a1 a2 σ) (vX10_wind a1 a2 μ)) ∧ (∀ (σ μ : zS) (a1 : Int), R2 σ μ → z32 a1 → zE R2 (vX9_read a1 σ) (vX10_read a1 μ)) ∧ (∀ (σ μ : zS) (a1 : Int) (a2 : Int), R2 σ μ → z32 a1 → z32 a2 → zE R2 (vX9_set a1 a2 σ) (vX10_set a1 a2 μ)) ∧ (∀ (σ μ : zS) (a1 : Int), R2 σ μ → z32 a1 → zE R2 (vX9_foot a1 σ) (vX10_foot a1 μ)) ∧ (∀ (σ μ : zS) (a1 : Int) (a2 : Int), R2 σ μ → z32 a1 → z32 a2 → zE R2 (vX9_type a1 a2 σ) (vX10_type a1 a2 μ)) ∧ (∀ (σ μ : zS) (a1 : Int), R2 σ μ → z32 a1 → zE R2 (vX9_wipe a1 σ) (vX10_wipe a1 μ)) ∧ (∀ (σ μ : zS) (a1 : Int), R2 σ μ → z32 a1 → zE R2 (vX9_fault a1 σ) (vX10_fault a1 μ)) ∧ (∀ (σ μ : zS) (a1 : Int) (a2 : Int), R2 σ μ → z32 a1 → z32 a2 → zE R2 (vX9_house a1 a2 σ) (vX10_house a1 a2 μ)) ∧ (∀ (σ μ : zS) (a1 : Int) (a2 : Int), R2 σ μ → z32 a1 → z32 a2 → zE R2 (vX9_takes a1 a2 σ) (vX10_takes a1 a2 μ)) ∧ (∀ (σ μ : zS) (a1 : Int), R2 σ μ → z32 a1 → zE R2 (vX9_judged a1 σ) (vX10_judged a1 μ)) ∧ (∀ (σ μ : zS) (a1 : Int), R2 σ μ → z32 a1 → zE R2 (vX9_ends a1 σ) (vX10_ends a1 μ)) ∧ (∀ (σ μ : zS) (a1 : Int) (a2 : Int), R2 σ μ → z32 a1 → z32 a2 → zE R2 (vX9_queue a1 a2 σ) (vX10_queue a1 a2 μ)) ∧ (∀ (σ μ : zS) (a1 : Int), R2 σ μ → z32 a1 → zE R2 (vX9_needs a1 σ) (vX10_needs a1 μ)) ∧ (∀ (σ μ : zS) (a1 : Int), R2 σ μ → z32 a1 → zE R2 (vX9_fewest a1 σ) (vX10_fewest a1 μ)) ∧ (∀ (σ μ : zS) (a1 : Int) (a2 : Int), R2 σ μ → z32 a1 → z32 a2 → zE R2 (vX9_turn a1 a2 σ) (vX10_turn a1 a2 μ)) ∧ (∀ (σ μ : zS) (a1 : Int) (a2 : Int), R2 σ μ → z32 a1 → z32 a2 → zE R2 (vX9_owed a1 a2 σ) (vX10_owed a1 a2 μ)) ∧ (∀ (σ μ : zS) (a1 : Int) (a2 : Int), R2 σ μ → z32 a1 → z32 a2 → zE R2 (vX9_broken a1 a2 σ) (vX10_broken a1 a2 μ)) ∧ (∀ (σ μ : zS) (a1 : Int) (a2 : Int), R2 σ μ → z32 a1 → z32 a2 → zE R2 (vX9_well a1 a2 σ) (vX10_well a1 a2 μ)) ∧ (∀ (σ μ : zS) (a1 : Int), R2 σ μ → z32 a1 → zE R2 (vX9_met a1 σ) (vX10_met a1 μ)) ∧ (∀ (σ μ : zS) (a1 : Int), R2 σ μ → z32 a1 → zE R2 (vX9_dry a1 σ) (vX10_dry a1 μ)) ∧ (∀ (σ μ : zS) (a1 : Int) (a2 : Int) (a3 : Int), R2 σ μ → z32 a1 → z32 a2 → z32 a3 → zE R2 (vX9_sold a1 a2 a3 σ) (vX10_sold a1 a2 a3 μ)) ∧ (∀ (σ μ : zS) (a1 : Int) (a2 : Int) (a3 : Int), R2 σ μ → z32 a1 → z32 a2 → z32 a3 → zE R2 (vX9_debt a1 a2 a3 σ) (vX10_debt a1 a2 a3 μ)) ∧ (∀ (σ μ : zS) (a1 : Int) (a2 : Int), R2 σ μ → z32 a1 → z32 a2 → zE R2 (vX9_owes a1 a2 σ) (vX10_owes a1 a2 μ)) ∧ (∀ (σ μ : zS) (a1 : Int), R2 σ μ → z32 a1 → zE R2 (vX9_lost a1 σ) (vX10_lost a1 μ)) ∧ (∀ (σ μ : zS) (a1 : Int) (a2 : Int) (a3 : Int), R2 σ μ → z32 a1 → z32 a2 → z32 a3 → zE R2 (vX9_church a1 a2 a3 σ) (vX10_church a1 a2 a3 μ)) ∧ (∀ (σ μ : zS) (a1 : Int) (a2 : Int) (a3 : Int) (a4 : Int), R2 σ μ → z32 a1 → z32 a2 → z32 a3 → z32 a4 → zE R2 (vX9_likely a1 a2 a3 a4 σ) (vX10_likely a1 a2 a3 a4 μ)) ∧ (∀ (σ μ : zS) (a1 : Int) (a2 : Int) (a3 : Int) (a4 : Int) (a5 : Int), R2 σ μ → z32 a1 → z32 a2 → z32 a3 → z32 a4 → z32 a5 → zE R2 (vX9_stone a1 a2 a3 a4 a5 σ) (vX10_stone a1 a2 a3 a4 a5 μ)) ∧ (∀ (σ μ : zS) (a1 : Int) (a2 : Int) (a3 : Int), R2 σ μ → z32 a1 → z32 a2 → z32 a3 → zE R2 (vX9_sheet a1 a2 a3 σ) (vX10_sheet a1 a2 a3 μ)) ∧ (∀ (σ μ : zS) (a1 : Int), R2 σ μ → z32 a1 → zE R2 (vX9_lose a1 σ) (vX10_lose a1 μ)) ∧ (∀ (σ μ : zS) (a1 : Int) (a2 : Int) (a3 : Int) (a4 : Int), R2 σ μ → z32 a1 → z32 a2 → z32 a3 → z32 a4 → zE R2 (vX9_put a1 a2 a3 a4 σ) (vX10_put a1 a2 a3 a4 μ)) ∧ (∀ (σ μ : zS) (a1 : Int) (a2 : Int) (a3 : Int), R2 σ μ → z32 a1 → z32 a2 → z32 a3 → zE R2 (vX9_get a1 a2 a3 σ) (vX10_get a1 a2 a3 μ)) ∧ (∀ (σ μ : zS) (a1 : Int) (a2 : Int) (a3 : Int) (a4 : Int) (a5 : Int), R2 σ μ → z32 a1 → z32 a2 → z32 a3 → z32 a4 → z32 a5 → zE R2 (vX9_copy a1 a2 a3 a4 a5 σ) (vX10_copy a1 a2 a3 a4 a5 μ)) ∧ (∀ (σ μ : zS) (a1 : Int) (a2 : Int), R2 σ μ → z32 a1 → z32 a2 → zE R2 (vX9_write a1 a2 σ) (vX10_write a1 a2 μ)) ∧ (∀ (σ μ : zS) (a1 : Int), R2 σ μ → z32 a1 → zE R2 (vX9_count a1 σ) (vX10_count a1 μ)) ∧ (∀ (σ μ : zS), R2 σ μ → zE R2 (vX9_digest σ) (vX10_digest μ))
theorem law_loop {p : Program} {l : Launch} {e : Env} {s : State} {m : MethodId} {below : List Frame} {meth : Method} {c : Code} {D : va_G} {cA : Nat → ClassId} {ad1 ad2 : Nat → Nat} {b Lx : Nat} {xs : Nat → Int32} (C : lCx p s m meth c D cA ad1 ad2 b Lx xs) {R2 : zS → zS → Prop} (hA : lAll R2) : ∀ (n : Nat) (i : Int) (σ μ : zS), 0 ≤ i → i ≤ (Lx : Int) + 6 → (Lx : Int) + 7 - i ≤ n → R2 σ μ → lW p l e s m below meth c D cA ad1 ad2 b 18 [some (zR 0), some (zR 1), some (zR 2), some (zI i)] [] σ μ := by
  have hL : Lx ≤ 3072 := C.2.2.2.2.2.2.2
  intro n
  induction n with
  | zero => intro i σ μ h0 h1 h2; exact absurd h2 (by omega)
  | succ n ih =>
    intro i σ μ h0 h1 h2 hR
    refine lW_iload_n C (pc' := 19) dL_law_18 rfl rfl rfl ?_
    refine lW_aload_n C (pc' := 20) dL_law_19 rfl rfl rfl ?_
    refine lW_slen C (pc' := 21) dL_law_20 rfl ?_
    refine lW_bipush C (pc' := 23) dL_law_21 rfl ⟨by decide, by decide⟩ (by decide) ?_
    refine lW_isub C (pc' := 24) dL_law_23 rfl ⟨by omega, by omega⟩ ?_
    refine lW_icmp_gt C (tgt := 1351) (pc' := 27) dL_law_24 (by decide) rfl (fun hc => ?_) (fun hc => ?_)
    · refine lW_iconst C (pc' := 1352) dL_law_1351 rfl ⟨by decide, by decide⟩ ?_
      intro hσ hμ hLv hs H locs ls hP hP2 hS hl
      obtain ⟨⟨hx, hb, hr, -, -, -, -, -, hlk, -⟩, -⟩ := id C
      refine va_forget (fun q hq => hS.2.2 q hq) ?_
      refine W.widen (k := 600000) (n := 7302250) (Nat.le_of_ble_eq_true rfl) (Nat.le_of_ble_eq_true rfl) ?_
      exact lw_ret hx hb hr hlk dL_law_1352
    · have h5 : i + 5 < (Lx : Int) := by omega
      have kk : ∀ σ2 μ2, R2 σ2 μ2 → lW p l e s m below meth c D cA ad1 ad2 b 1345 [some (zR 0), some (zR 1), some (zR 2), some (zI i)] [] σ2 μ2 := by
        intro σ2 μ2 h
        refine lW_iinc C (L' := [some (zR 0), some (zR 1), some (zR 2), some (zI (i + 6))]) (pc' := 1348) dL_law_1345 rfl (by decide) rfl ⟨by omega, by omega⟩ rfl ?_
        refine lW_goto C (pc' := 18) dL_law_1348 (by decide) ?_
        exact ih (i + 6) σ2 μ2 (by omega) (by omega) (by omega) h
      refine lW_aload_n C (pc' := 28) dL_law_27 rfl rfl rfl ?_
      refine lW_iload_n C (pc' := 29) dL_law_28 rfl rfl rfl ?_
      refine lW_sld C (pc' := 30) dL_law_29 rfl (by omega) (by omega) ?_
      refine lW_bipush C (pc' := 32) dL_law_30 rfl ⟨by decide, by decide⟩ (by decide) ?_
      refine lW_iand C (pc' := 33) dL_law_32 rfl (fun z => ?_)
      by_cases ho : z < 0 ∨ 34 < z
      · exact lW_tabOut C (tgt := 1345) dL_law_33 ho (by decide) (kk σ μ hR)
      have hin : z = 0 ∨ z = 1 ∨ z = 2 ∨ z = 3 ∨ z = 4 ∨ z = 5 ∨ z = 6 ∨ z = 7 ∨ z = 8 ∨ z = 9 ∨ z = 10 ∨ z = 11 ∨ z = 12 ∨ z = 13 ∨ z = 14 ∨ z = 15 ∨ z = 16 ∨ z = 17 ∨ z = 18 ∨ z = 19 ∨ z = 20 ∨ z = 21 ∨ z = 22 ∨ z = 23 ∨ z = 24 ∨ z = 25 ∨ z = 26 ∨ z = 27 ∨ z = 28 ∨ z = 29 ∨ z = 30 ∨ z = 31 ∨ z = 32 ∨ z = 33 ∨ z = 34 := by omega
      rcases hin with hz | hz | hz | hz | hz | hz | hz | hz | hz | hz | hz | hz | hz | hz | hz | hz | hz | hz | hz | hz | hz | hz | hz | hz | hz | hz | hz | hz | hz | hz | hz | hz | hz | hz | hz
      · refine lW_tabIn C (off := 155) (tgt := 188) dL_law_33 (by omega) (by omega) (by rw [hz]; rfl) (by decide) ?_
        exact lc_wind C i h0 h5 hL σ μ (hA.1 σ μ _ _ hR (l32 _) (l32 _)) kk
      · refine lW_tabIn C (off := 188) (tgt := 221) dL_law_33 (by omega) (by omega) (by rw [hz]; rfl) (by decide) ?_
        exact lc_read C i h0 h5 hL σ μ (hA.2.1 σ μ _ hR (l32 _)) kk
      · refine lW_tabIn C (off := 211) (tgt := 244) dL_law_33 (by omega) (by omega) (by rw [hz]; rfl) (by decide) ?_
        exact lc_set C i h0 h5 hL σ μ (hA.2.2.1 σ μ _ _ hR (l32 _) (l32 _)) kk
      · refine lW_tabIn C (off := 244) (tgt := 277) dL_law_33 (by omega) (by omega) (by rw [hz]; rfl) (by decide) ?_
        exact lc_foot C i h0 h5 hL σ μ (hA.2.2.2.1 σ μ _ hR (l32 _)) kk
      · refine lW_tabIn C (off := 267) (tgt := 300) dL_law_33 (by omega) (by omega) (by rw [hz]; rfl) (by decide) ?_
        exact lc_type C i h0 h5 hL σ μ (hA.2.2.2.2.1 σ μ _ _ hR (l32 _) (l32 _)) kk
      · refine lW_tabIn C (off := 300) (tgt := 333) dL_law_33 (by omega) (by omega) (by rw [hz]; rfl) (by decide) ?_
        exact lc_wipe C i h0 h5 hL σ μ (hA.2.2.2.2.2.1 σ μ _ hR (l32 _)) kk
      · refine lW_tabIn C (off := 323) (tgt := 356) dL_law_33 (by omega) (by omega) (by rw [hz]; rfl) (by decide) ?_
        exact lc_fault C i h0 h5 hL σ μ (hA.2.2.2.2.2.2.1 σ μ _ hR (l32 _)) kk
      · refine lW_tabIn C (off := 346) (tgt := 379) dL_law_33 (by omega) (by omega) (by rw [hz]; rfl) (by decide) ?_
        exact lc_house C i h0 h5 hL σ μ (hA.2.2.2.2.2.2.2.1 σ μ _ _ hR (l32 _) (l32 _)) kk
      · refine lW_tabIn C (off := 379) (tgt := 412) dL_law_33 (by omega) (by omega) (by rw [hz]; rfl) (by decide) ?_
        exact lc_takes C i h0 h5 hL σ μ (hA.2.2.2.2.2.2.2.2.1 σ μ _ _ hR (l32 _) (l32 _)) kk
      · refine lW_tabIn C (off := 412) (tgt := 445) dL_law_33 (by omega) (by omega) (by rw [hz]; rfl) (by decide) ?_
        exact lc_judged C i h0 h5 hL σ μ (hA.2.2.2.2.2.2.2.2.2.1 σ μ _ hR (l32 _)) kk
      · refine lW_tabIn C (off := 435) (tgt := 468) dL_law_33 (by omega) (by omega) (by rw [hz]; rfl) (by decide) ?_
        exact lc_ends C i h0 h5 hL σ μ (hA.2.2.2.2.2.2.2.2.2.2.1 σ μ _ hR (l32 _)) kk
      · refine lW_tabIn C (off := 458) (tgt := 491) dL_law_33 (by omega) (by omega) (by rw [hz]; rfl) (by decide) ?_
        exact lc_queue C i h0 h5 hL σ μ (hA.2.2.2.2.2.2.2.2.2.2.2.1 σ μ _ _ hR (l32 _) (l32 _)) kk
      · refine lW_tabIn C (off := 491) (tgt := 524) dL_law_33 (by omega) (by omega) (by rw [hz]; rfl) (by decide) ?_
        exact lc_needs C i h0 h5 hL σ μ (hA.2.2.2.2.2.2.2.2.2.2.2.2.1 σ μ _ hR (l32 _)) kk
      · refine lW_tabIn C (off := 514) (tgt := 547) dL_law_33 (by omega) (by omega) (by rw [hz]; rfl) (by decide) ?_
        exact lc_fewest C i h0 h5 hL σ μ (hA.2.2.2.2.2.2.2.2.2.2.2.2.2.1 σ μ _ hR (l32 _)) kk
      · refine lW_tabIn C (off := 537) (tgt := 570) dL_law_33 (by omega) (by omega) (by rw [hz]; rfl) (by decide) ?_
        exact lc_turn C i h0 h5 hL σ μ (hA.2.2.2.2.2.2.2.2.2.2.2.2.2.2.1 σ μ _ _ hR (l32 _) (l32 _)) kk
      · refine lW_tabIn C (off := 570) (tgt := 603) dL_law_33 (by omega) (by omega) (by rw [hz]; rfl) (by decide) ?_
        exact lc_owed C i h0 h5 hL σ μ (hA.2.2.2.2.2.2.2.2.2.2.2.2.2.2.2.1 σ μ _ _ hR (l32 _) (l32 _)) kk
      · refine lW_tabIn C (off := 603) (tgt := 636) dL_law_33 (by omega) (by omega) (by rw [hz]; rfl) (by decide) ?_
        exact lc_broken C i h0 h5 hL σ μ (hA.2.2.2.2.2.2.2.2.2.2.2.2.2.2.2.2.1 σ μ _ _ hR (l32 _) (l32 _)) kk
      · refine lW_tabIn C (off := 636) (tgt := 669) dL_law_33 (by omega) (by omega) (by rw [hz]; rfl) (by decide) ?_
        exact lc_well C i h0 h5 hL σ μ (hA.2.2.2.2.2.2.2.2.2.2.2.2.2.2.2.2.2.1 σ μ _ _ hR (l32 _) (l32 _)) kk
      · refine lW_tabIn C (off := 669) (tgt := 702) dL_law_33 (by omega) (by omega) (by rw [hz]; rfl) (by decide) ?_
        exact lc_met C i h0 h5 hL σ μ (hA.2.2.2.2.2.2.2.2.2.2.2.2.2.2.2.2.2.2.1 σ μ _ hR (l32 _)) kk
      · refine lW_tabIn C (off := 692) (tgt := 725) dL_law_33 (by omega) (by omega) (by rw [hz]; rfl) (by decide) ?_
        exact lc_dry C i h0 h5 hL σ μ (hA.2.2.2.2.2.2.2.2.2.2.2.2.2.2.2.2.2.2.2.1 σ μ _ hR (l32 _)) kk
      · refine lW_tabIn C (off := 715) (tgt := 748) dL_law_33 (by omega) (by omega) (by rw [hz]; rfl) (by decide) ?_
        exact lc_sold C i h0 h5 hL σ μ (hA.2.2.2.2.2.2.2.2.2.2.2.2.2.2.2.2.2.2.2.2.1 σ μ _ _ _ hR (l32 _) (l32 _) (l32 _)) kk
      · refine lW_tabIn C (off := 758) (tgt := 791) dL_law_33 (by omega) (by omega) (by rw [hz]; rfl) (by decide) ?_
        exact lc_debt C i h0 h5 hL σ μ (hA.2.2.2.2.2.2.2.2.2.2.2.2.2.2.2.2.2.2.2.2.2.1 σ μ _ _ _ hR (l32 _) (l32 _) (l32 _)) kk
      · refine lW_tabIn C (off := 801) (tgt := 834) dL_law_33 (by omega) (by omega) (by rw [hz]; rfl) (by decide) ?_
        exact lc_owes C i h0 h5 hL σ μ (hA.2.2.2.2.2.2.2.2.2.2.2.2.2.2.2.2.2.2.2.2.2.2.1 σ μ _ _ hR (l32 _) (l32 _)) kk
      · refine lW_tabIn C (off := 834) (tgt := 867) dL_law_33 (by omega) (by omega) (by rw [hz]; rfl) (by decide) ?_
        exact lc_lost C i h0 h5 hL σ μ (hA.2.2.2.2.2.2.2.2.2.2.2.2.2.2.2.2.2.2.2.2.2.2.2.1 σ μ _ hR (l32 _)) kk
      · refine lW_tabIn C (off := 857) (tgt := 890) dL_law_33 (by omega) (by omega) (by rw [hz]; rfl) (by decide) ?_
        exact lc_church C i h0 h5 hL σ μ (hA.2.2.2.2.2.2.2.2.2.2.2.2.2.2.2.2.2.2.2.2.2.2.2.2.1 σ μ _ _ _ hR (l32 _) (l32 _) (l32 _)) kk
      · refine lW_tabIn C (off := 900) (tgt := 933) dL_law_33 (by omega) (by omega) (by rw [hz]; rfl) (by decide) ?_
        exact lc_likely C i h0 h5 hL σ μ (hA.2.2.2.2.2.2.2.2.2.2.2.2.2.2.2.2.2.2.2.2.2.2.2.2.2.1 σ μ _ _ _ _ hR (l32 _) (l32 _) (l32 _) (l32 _)) kk
      · refine lW_tabIn C (off := 954) (tgt := 987) dL_law_33 (by omega) (by omega) (by rw [hz]; rfl) (by decide) ?_
        exact lc_stone C i h0 h5 hL σ μ (hA.2.2.2.2.2.2.2.2.2.2.2.2.2.2.2.2.2.2.2.2.2.2.2.2.2.2.1 σ μ _ _ _ _ _ hR (l32 _) (l32 _) (l32 _) (l32 _) (l32 _)) kk
      · refine lW_tabIn C (off := 1017) (tgt := 1050) dL_law_33 (by omega) (by omega) (by rw [hz]; rfl) (by decide) ?_
        exact lc_sheet C i h0 h5 hL σ μ (hA.2.2.2.2.2.2.2.2.2.2.2.2.2.2.2.2.2.2.2.2.2.2.2.2.2.2.2.1 σ μ _ _ _ hR (l32 _) (l32 _) (l32 _)) kk
      · refine lW_tabIn C (off := 1060) (tgt := 1093) dL_law_33 (by omega) (by omega) (by rw [hz]; rfl) (by decide) ?_
        exact lc_lose C i h0 h5 hL σ μ (hA.2.2.2.2.2.2.2.2.2.2.2.2.2.2.2.2.2.2.2.2.2.2.2.2.2.2.2.2.1 σ μ _ hR (l32 _)) kk
      · refine lW_tabIn C (off := 1083) (tgt := 1116) dL_law_33 (by omega) (by omega) (by rw [hz]; rfl) (by decide) ?_
        exact lc_put C i h0 h5 hL σ μ (hA.2.2.2.2.2.2.2.2.2.2.2.2.2.2.2.2.2.2.2.2.2.2.2.2.2.2.2.2.2.1 σ μ _ _ _ _ hR (l32 _) (l32 _) (l32 _) (l32 _)) kk
      · refine lW_tabIn C (off := 1136) (tgt := 1169) dL_law_33 (by omega) (by omega) (by rw [hz]; rfl) (by decide) ?_
        exact lc_get C i h0 h5 hL σ μ (hA.2.2.2.2.2.2.2.2.2.2.2.2.2.2.2.2.2.2.2.2.2.2.2.2.2.2.2.2.2.2.1 σ μ _ _ _ hR (l32 _) (l32 _) (l32 _)) kk
      · refine lW_tabIn C (off := 1179) (tgt := 1212) dL_law_33 (by omega) (by omega) (by rw [hz]; rfl) (by decide) ?_
        exact lc_copy C i h0 h5 hL σ μ (hA.2.2.2.2.2.2.2.2.2.2.2.2.2.2.2.2.2.2.2.2.2.2.2.2.2.2.2.2.2.2.2.1 σ μ _ _ _ _ _ hR (l32 _) (l32 _) (l32 _) (l32 _) (l32 _)) kk
      · refine lW_tabIn C (off := 1242) (tgt := 1275) dL_law_33 (by omega) (by omega) (by rw [hz]; rfl) (by decide) ?_
        exact lc_write C i h0 h5 hL σ μ (hA.2.2.2.2.2.2.2.2.2.2.2.2.2.2.2.2.2.2.2.2.2.2.2.2.2.2.2.2.2.2.2.2.1 σ μ _ _ hR (l32 _) (l32 _)) kk
      · refine lW_tabIn C (off := 1275) (tgt := 1308) dL_law_33 (by omega) (by omega) (by rw [hz]; rfl) (by decide) ?_
        exact lc_count C i h0 h5 hL σ μ (hA.2.2.2.2.2.2.2.2.2.2.2.2.2.2.2.2.2.2.2.2.2.2.2.2.2.2.2.2.2.2.2.2.2.1 σ μ _ hR (l32 _)) kk
      · refine lW_tabIn C (off := 1298) (tgt := 1331) dL_law_33 (by omega) (by omega) (by rw [hz]; rfl) (by decide) ?_
        exact lc_digest C i h0 h5 hL σ μ (hA.2.2.2.2.2.2.2.2.2.2.2.2.2.2.2.2.2.2.2.2.2.2.2.2.2.2.2.2.2.2.2.2.2.2 σ μ hR) kk
