/-! each entry of a pool, and each method, by the words of the tables -/
theorem mk_0 : ak_mok q_0 := ⟨ak_w 116 (by decide +kernel) (by decide +kernel), ak_w 92 (by decide +kernel) (by decide +kernel), ⟨by decide, by decide⟩, by decide +kernel, by decide⟩
theorem mk_1 : ak_mok q_1 := ⟨ak_w 124 (by decide +kernel) (by decide +kernel), ak_w 93 (by decide +kernel) (by decide +kernel), ⟨by decide, by decide⟩, by decide +kernel, by decide⟩
theorem mk_2 : ak_mok q_2 := ⟨ak_w 186 (by decide +kernel) (by decide +kernel), ak_w 94 (by decide +kernel) (by decide +kernel), ⟨by decide, by decide⟩, by decide +kernel, by decide⟩
theorem mk_3 : ak_mok q_3 := ⟨ak_w 195 (by decide +kernel) (by decide +kernel), ak_w 95 (by decide +kernel) (by decide +kernel), ⟨by decide, by decide⟩, by decide +kernel, by decide⟩
theorem mk_4 : ak_mok q_4 := ⟨ak_w 202 (by decide +kernel) (by decide +kernel), ak_w 96 (by decide +kernel) (by decide +kernel), ⟨by decide, by decide⟩, by decide +kernel, by decide⟩
theorem mk_5 : ak_mok q_5 := ⟨ak_w 209 (by decide +kernel) (by decide +kernel), ak_w 97 (by decide +kernel) (by decide +kernel), ⟨by decide, by decide⟩, by decide +kernel, by decide⟩
theorem mk_6 : ak_mok q_6 := ⟨ak_w 216 (by decide +kernel) (by decide +kernel), ak_w 98 (by decide +kernel) (by decide +kernel), ⟨by decide, by decide⟩, by decide +kernel, by decide⟩
theorem mk_7 : ak_mok q_7 := ⟨ak_w 223 (by decide +kernel) (by decide +kernel), ak_w 99 (by decide +kernel) (by decide +kernel), ⟨by decide, by decide⟩, by decide +kernel, by decide⟩
theorem mk_8 : ak_mok q_8 := ⟨ak_w 230 (by decide +kernel) (by decide +kernel), ak_w 100 (by decide +kernel) (by decide +kernel), ⟨by decide, by decide⟩, by decide +kernel, by decide⟩
theorem mk_9 : ak_mok q_9 := ⟨ak_w 236 (by decide +kernel) (by decide +kernel), ak_w 101 (by decide +kernel) (by decide +kernel), ⟨by decide, by decide⟩, by decide +kernel, by decide⟩
theorem mk_10 : ak_mok q_10 := ⟨ak_w 278 (by decide +kernel) (by decide +kernel), ak_w 101 (by decide +kernel) (by decide +kernel), ⟨by decide, by decide⟩, by decide +kernel, by decide⟩
theorem mk_11 : ak_mok q_11 := ⟨ak_w 282 (by decide +kernel) (by decide +kernel), ak_w 101 (by decide +kernel) (by decide +kernel), ⟨by decide, by decide⟩, by decide +kernel, by decide⟩
theorem mk_12 : ak_mok q_12 := ⟨ak_w 304 (by decide +kernel) (by decide +kernel), ak_w 102 (by decide +kernel) (by decide +kernel), ⟨by decide, by decide⟩, by decide +kernel, by decide⟩
theorem mk_13 : ak_mok q_13 := ⟨ak_w 349 (by decide +kernel) (by decide +kernel), ak_w 103 (by decide +kernel) (by decide +kernel), ⟨by decide, by decide⟩, by decide +kernel, by decide⟩
theorem mk_14 : ak_mok q_14 := ⟨ak_w 395 (by decide +kernel) (by decide +kernel), ak_w 92 (by decide +kernel) (by decide +kernel), ⟨by decide, by decide⟩, by decide +kernel, by decide⟩
theorem mk_15 : ak_mok q_15 := ⟨ak_w 399 (by decide +kernel) (by decide +kernel), ak_w 93 (by decide +kernel) (by decide +kernel), ⟨by decide, by decide⟩, by decide +kernel, by decide⟩
theorem mk_16 : ak_mok q_16 := ⟨ak_w 403 (by decide +kernel) (by decide +kernel), ak_w 93 (by decide +kernel) (by decide +kernel), ⟨by decide, by decide⟩, by decide +kernel, by decide⟩
theorem mk_17 : ak_mok q_17 := ⟨ak_w 407 (by decide +kernel) (by decide +kernel), ak_w 93 (by decide +kernel) (by decide +kernel), ⟨by decide, by decide⟩, by decide +kernel, by decide⟩
theorem mk_18 : ak_mok q_18 := ⟨ak_w 415 (by decide +kernel) (by decide +kernel), ak_w 93 (by decide +kernel) (by decide +kernel), ⟨by decide, by decide⟩, by decide +kernel, by decide⟩
theorem mk_19 : ak_mok q_19 := ⟨ak_w 419 (by decide +kernel) (by decide +kernel), ak_w 93 (by decide +kernel) (by decide +kernel), ⟨by decide, by decide⟩, by decide +kernel, by decide⟩
theorem mk_20 : ak_mok q_20 := ⟨ak_w 423 (by decide +kernel) (by decide +kernel), ak_w 93 (by decide +kernel) (by decide +kernel), ⟨by decide, by decide⟩, by decide +kernel, by decide⟩
theorem mk_21 : ak_mok q_21 := ⟨ak_w 427 (by decide +kernel) (by decide +kernel), ak_w 92 (by decide +kernel) (by decide +kernel), ⟨by decide, by decide⟩, by decide +kernel, by decide⟩
theorem mk_22 : ak_mok q_22 := ⟨ak_w 431 (by decide +kernel) (by decide +kernel), ak_w 93 (by decide +kernel) (by decide +kernel), ⟨by decide, by decide⟩, by decide +kernel, by decide⟩
theorem mk_23 : ak_mok q_23 := ⟨ak_w 435 (by decide +kernel) (by decide +kernel), ak_w 93 (by decide +kernel) (by decide +kernel), ⟨by decide, by decide⟩, by decide +kernel, by decide⟩
theorem mk_24 : ak_mok q_24 := ⟨ak_w 439 (by decide +kernel) (by decide +kernel), ak_w 92 (by decide +kernel) (by decide +kernel), ⟨by decide, by decide⟩, by decide +kernel, by decide⟩
theorem mk_25 : ak_mok q_25 := ⟨ak_w 445 (by decide +kernel) (by decide +kernel), ak_w 92 (by decide +kernel) (by decide +kernel), ⟨by decide, by decide⟩, by decide +kernel, by decide⟩
theorem mk_26 : ak_mok q_26 := ⟨ak_w 448 (by decide +kernel) (by decide +kernel), ak_w 92 (by decide +kernel) (by decide +kernel), ⟨by decide, by decide⟩, by decide +kernel, by decide⟩
theorem mk_27 : ak_mok q_27 := ⟨ak_w 452 (by decide +kernel) (by decide +kernel), ak_w 94 (by decide +kernel) (by decide +kernel), ⟨by decide, by decide⟩, by decide +kernel, by decide⟩
theorem mk_28 : ak_mok q_28 := ⟨ak_w 456 (by decide +kernel) (by decide +kernel), ak_w 93 (by decide +kernel) (by decide +kernel), ⟨by decide, by decide⟩, by decide +kernel, by decide⟩
theorem mk_29 : ak_mok q_29 := ⟨ak_w 461 (by decide +kernel) (by decide +kernel), ak_w 94 (by decide +kernel) (by decide +kernel), ⟨by decide, by decide⟩, by decide +kernel, by decide⟩
theorem mk_30 : ak_mok q_30 := ⟨ak_w 465 (by decide +kernel) (by decide +kernel), ak_w 94 (by decide +kernel) (by decide +kernel), ⟨by decide, by decide⟩, by decide +kernel, by decide⟩
theorem mk_31 : ak_mok q_31 := ⟨ak_w 469 (by decide +kernel) (by decide +kernel), ak_w 94 (by decide +kernel) (by decide +kernel), ⟨by decide, by decide⟩, by decide +kernel, by decide⟩
theorem mk_32 : ak_mok q_32 := ⟨ak_w 473 (by decide +kernel) (by decide +kernel), ak_w 93 (by decide +kernel) (by decide +kernel), ⟨by decide, by decide⟩, by decide +kernel, by decide⟩
theorem mk_33 : ak_mok q_33 := ⟨ak_w 477 (by decide +kernel) (by decide +kernel), ak_w 93 (by decide +kernel) (by decide +kernel), ⟨by decide, by decide⟩, by decide +kernel, by decide⟩
theorem mk_34 : ak_mok q_34 := ⟨ak_w 481 (by decide +kernel) (by decide +kernel), ak_w 94 (by decide +kernel) (by decide +kernel), ⟨by decide, by decide⟩, by decide +kernel, by decide⟩
theorem mk_35 : ak_mok q_35 := ⟨ak_w 485 (by decide +kernel) (by decide +kernel), ak_w 101 (by decide +kernel) (by decide +kernel), ⟨by decide, by decide⟩, by decide +kernel, by decide⟩
theorem mk_36 : ak_mok q_36 := ⟨ak_w 488 (by decide +kernel) (by decide +kernel), ak_w 105 (by decide +kernel) (by decide +kernel), ⟨by decide, by decide⟩, by decide +kernel, by decide⟩
theorem mk_37 : ak_mok q_37 := ⟨ak_w 491 (by decide +kernel) (by decide +kernel), ak_w 101 (by decide +kernel) (by decide +kernel), ⟨by decide, by decide⟩, by decide +kernel, by decide⟩
theorem mk_38 : ak_mok q_38 := ⟨ak_w 494 (by decide +kernel) (by decide +kernel), ak_w 101 (by decide +kernel) (by decide +kernel), ⟨by decide, by decide⟩, by decide +kernel, by decide⟩
theorem mk_39 : ak_mok q_39 := ⟨ak_w 497 (by decide +kernel) (by decide +kernel), ak_w 101 (by decide +kernel) (by decide +kernel), ⟨by decide, by decide⟩, by decide +kernel, by decide⟩
theorem mk_40 : ak_mok q_40 := ⟨ak_w 501 (by decide +kernel) (by decide +kernel), ak_w 94 (by decide +kernel) (by decide +kernel), ⟨by decide, by decide⟩, by decide +kernel, by decide⟩
theorem mk_41 : ak_mok q_41 := ⟨ak_w 508 (by decide +kernel) (by decide +kernel), ak_w 100 (by decide +kernel) (by decide +kernel), ⟨by decide, by decide⟩, by decide +kernel, by decide⟩
theorem mk_42 : ak_mok q_42 := ⟨ak_w 511 (by decide +kernel) (by decide +kernel), ak_w 99 (by decide +kernel) (by decide +kernel), ⟨by decide, by decide⟩, by decide +kernel, by decide⟩
theorem mk_43 : ak_mok q_43 := ⟨ak_w 514 (by decide +kernel) (by decide +kernel), ak_w 98 (by decide +kernel) (by decide +kernel), ⟨by decide, by decide⟩, by decide +kernel, by decide⟩
theorem mk_44 : ak_mok q_44 := ⟨ak_w 521 (by decide +kernel) (by decide +kernel), ak_w 97 (by decide +kernel) (by decide +kernel), ⟨by decide, by decide⟩, by decide +kernel, by decide⟩
theorem mk_45 : ak_mok q_45 := ⟨ak_w 525 (by decide +kernel) (by decide +kernel), ak_w 95 (by decide +kernel) (by decide +kernel), ⟨by decide, by decide⟩, by decide +kernel, by decide⟩
theorem mk_46 : ak_mok q_46 := ⟨ak_w 526 (by decide +kernel) (by decide +kernel), ak_w 95 (by decide +kernel) (by decide +kernel), ⟨by decide, by decide⟩, by decide +kernel, by decide⟩
theorem mk_47 : ak_mok q_47 := ⟨ak_w 530 (by decide +kernel) (by decide +kernel), ak_w 92 (by decide +kernel) (by decide +kernel), ⟨by decide, by decide⟩, by decide +kernel, by decide⟩
theorem mk_48 : ak_mok q_48 := ⟨ak_w 534 (by decide +kernel) (by decide +kernel), ak_w 94 (by decide +kernel) (by decide +kernel), ⟨by decide, by decide⟩, by decide +kernel, by decide⟩
theorem mk_49 : ak_mok q_49 := ⟨ak_w 538 (by decide +kernel) (by decide +kernel), ak_w 94 (by decide +kernel) (by decide +kernel), ⟨by decide, by decide⟩, by decide +kernel, by decide⟩
theorem mk_50 : ak_mok q_50 := ⟨ak_w 542 (by decide +kernel) (by decide +kernel), ak_w 105 (by decide +kernel) (by decide +kernel), ⟨by decide, by decide⟩, by decide +kernel, by decide⟩
theorem mk_51 : ak_mok q_51 := ⟨ak_w 549 (by decide +kernel) (by decide +kernel), ak_w 100 (by decide +kernel) (by decide +kernel), ⟨by decide, by decide⟩, by decide +kernel, by decide⟩
theorem mk_52 : ak_mok q_52 := ⟨ak_w 552 (by decide +kernel) (by decide +kernel), ak_w 99 (by decide +kernel) (by decide +kernel), ⟨by decide, by decide⟩, by decide +kernel, by decide⟩
theorem mk_53 : ak_mok q_53 := ⟨ak_w 555 (by decide +kernel) (by decide +kernel), ak_w 97 (by decide +kernel) (by decide +kernel), ⟨by decide, by decide⟩, by decide +kernel, by decide⟩
theorem mk_54 : ak_mok q_54 := ⟨ak_w 559 (by decide +kernel) (by decide +kernel), ak_w 98 (by decide +kernel) (by decide +kernel), ⟨by decide, by decide⟩, by decide +kernel, by decide⟩
theorem mk_55 : ak_mok q_55 := ⟨ak_w 562 (by decide +kernel) (by decide +kernel), ak_w 96 (by decide +kernel) (by decide +kernel), ⟨by decide, by decide⟩, by decide +kernel, by decide⟩
theorem mk_56 : ak_mok q_56 := ⟨ak_w 568 (by decide +kernel) (by decide +kernel), ak_w 95 (by decide +kernel) (by decide +kernel), ⟨by decide, by decide⟩, by decide +kernel, by decide⟩
theorem mk_57 : ak_mok q_57 := ⟨ak_w 572 (by decide +kernel) (by decide +kernel), ak_w 94 (by decide +kernel) (by decide +kernel), ⟨by decide, by decide⟩, by decide +kernel, by decide⟩
theorem mk_58 : ak_mok q_58 := ⟨ak_w 580 (by decide +kernel) (by decide +kernel), ak_w 100 (by decide +kernel) (by decide +kernel), ⟨by decide, by decide⟩, by decide +kernel, by decide⟩
theorem mk_59 : ak_mok q_59 := ⟨ak_w 584 (by decide +kernel) (by decide +kernel), ak_w 99 (by decide +kernel) (by decide +kernel), ⟨by decide, by decide⟩, by decide +kernel, by decide⟩
theorem mk_60 : ak_mok q_60 := ⟨ak_w 587 (by decide +kernel) (by decide +kernel), ak_w 96 (by decide +kernel) (by decide +kernel), ⟨by decide, by decide⟩, by decide +kernel, by decide⟩
theorem mk_61 : ak_mok q_61 := ⟨ak_w 591 (by decide +kernel) (by decide +kernel), ak_w 97 (by decide +kernel) (by decide +kernel), ⟨by decide, by decide⟩, by decide +kernel, by decide⟩
theorem mk_62 : ak_mok q_62 := ⟨ak_w 592 (by decide +kernel) (by decide +kernel), ak_w 95 (by decide +kernel) (by decide +kernel), ⟨by decide, by decide⟩, by decide +kernel, by decide⟩
theorem mk_63 : ak_mok q_63 := ⟨ak_w 596 (by decide +kernel) (by decide +kernel), ak_w 92 (by decide +kernel) (by decide +kernel), ⟨by decide, by decide⟩, by decide +kernel, by decide⟩
theorem mk_64 : ak_mok q_64 := ⟨ak_w 602 (by decide +kernel) (by decide +kernel), ak_w 92 (by decide +kernel) (by decide +kernel), ⟨by decide, by decide⟩, by decide +kernel, by decide⟩
theorem mk_65 : ak_mok q_65 := ⟨ak_w 606 (by decide +kernel) (by decide +kernel), ak_w 92 (by decide +kernel) (by decide +kernel), ⟨by decide, by decide⟩, by decide +kernel, by decide⟩
theorem mk_66 : ak_mok q_66 := ⟨ak_w 611 (by decide +kernel) (by decide +kernel), ak_w 101 (by decide +kernel) (by decide +kernel), ⟨by decide, by decide⟩, by decide +kernel, by decide⟩
theorem mk_67 : ak_mok q_67 := ⟨ak_w 616 (by decide +kernel) (by decide +kernel), ak_w 101 (by decide +kernel) (by decide +kernel), ⟨by decide, by decide⟩, by decide +kernel, by decide⟩
theorem mk_68 : ak_mok q_68 := ⟨ak_w 620 (by decide +kernel) (by decide +kernel), ak_w 101 (by decide +kernel) (by decide +kernel), ⟨by decide, by decide⟩, by decide +kernel, by decide⟩
theorem mk_69 : ak_mok q_69 := ⟨ak_w 624 (by decide +kernel) (by decide +kernel), ak_w 101 (by decide +kernel) (by decide +kernel), ⟨by decide, by decide⟩, by decide +kernel, by decide⟩
theorem mk_70 : ak_mok q_70 := ⟨ak_w 628 (by decide +kernel) (by decide +kernel), ak_w 101 (by decide +kernel) (by decide +kernel), ⟨by decide, by decide⟩, by decide +kernel, by decide⟩
theorem mk_71 : ak_mok q_71 := ⟨ak_w 632 (by decide +kernel) (by decide +kernel), ak_w 101 (by decide +kernel) (by decide +kernel), ⟨by decide, by decide⟩, by decide +kernel, by decide⟩
theorem mk_72 : ak_mok q_72 := ⟨ak_w 637 (by decide +kernel) (by decide +kernel), ak_w 101 (by decide +kernel) (by decide +kernel), ⟨by decide, by decide⟩, by decide +kernel, by decide⟩
theorem mk_73 : ak_mok q_73 := ⟨ak_w 641 (by decide +kernel) (by decide +kernel), ak_w 106 (by decide +kernel) (by decide +kernel), ⟨by decide, by decide⟩, by decide +kernel, by decide⟩
theorem mk_74 : ak_mok q_74 := ⟨ak_w 645 (by decide +kernel) (by decide +kernel), ak_w 106 (by decide +kernel) (by decide +kernel), ⟨by decide, by decide⟩, by decide +kernel, by decide⟩
theorem mk_75 : ak_mok q_75 := ⟨ak_w 651 (by decide +kernel) (by decide +kernel), ak_w 106 (by decide +kernel) (by decide +kernel), ⟨by decide, by decide⟩, by decide +kernel, by decide⟩
theorem mk_76 : ak_mok q_76 := ⟨ak_w 655 (by decide +kernel) (by decide +kernel), ak_w 106 (by decide +kernel) (by decide +kernel), ⟨by decide, by decide⟩, by decide +kernel, by decide⟩
theorem mk_77 : ak_mok q_77 := ⟨ak_w 658 (by decide +kernel) (by decide +kernel), ak_w 107 (by decide +kernel) (by decide +kernel), ⟨by decide, by decide⟩, by decide +kernel, by decide⟩
theorem mk_78 : ak_mok q_78 := ⟨ak_w 661 (by decide +kernel) (by decide +kernel), ak_w 106 (by decide +kernel) (by decide +kernel), ⟨by decide, by decide⟩, by decide +kernel, by decide⟩
theorem mk_79 : ak_mok q_79 := ⟨ak_w 666 (by decide +kernel) (by decide +kernel), ak_w 108 (by decide +kernel) (by decide +kernel), ⟨by decide, by decide⟩, by decide +kernel, by decide⟩
theorem mk_80 : ak_mok q_80 := ⟨ak_w 669 (by decide +kernel) (by decide +kernel), ak_w 109 (by decide +kernel) (by decide +kernel), ⟨by decide, by decide⟩, by decide +kernel, by decide⟩
theorem mk_81 : ak_mok q_81 := ⟨ak_w 672 (by decide +kernel) (by decide +kernel), ak_w 109 (by decide +kernel) (by decide +kernel), ⟨by decide, by decide⟩, by decide +kernel, by decide⟩
theorem mk_82 : ak_mok q_82 := ⟨ak_w 675 (by decide +kernel) (by decide +kernel), ak_w 109 (by decide +kernel) (by decide +kernel), ⟨by decide, by decide⟩, by decide +kernel, by decide⟩
theorem mk_83 : ak_mok q_83 := ⟨ak_w 679 (by decide +kernel) (by decide +kernel), ak_w 109 (by decide +kernel) (by decide +kernel), ⟨by decide, by decide⟩, by decide +kernel, by decide⟩
theorem mk_84 : ak_mok q_84 := ⟨ak_w 694 (by decide +kernel) (by decide +kernel), ak_w 101 (by decide +kernel) (by decide +kernel), ⟨by decide, by decide⟩, by decide +kernel, by decide⟩
theorem mk_85 : ak_mok q_85 := ⟨ak_w 704 (by decide +kernel) (by decide +kernel), ak_w 101 (by decide +kernel) (by decide +kernel), ⟨by decide, by decide⟩, by decide +kernel, by decide⟩
theorem mk_86 : ak_mok q_86 := ⟨ak_w 708 (by decide +kernel) (by decide +kernel), ak_w 101 (by decide +kernel) (by decide +kernel), ⟨by decide, by decide⟩, by decide +kernel, by decide⟩
theorem mk_87 : ak_mok q_87 := ⟨ak_w 712 (by decide +kernel) (by decide +kernel), ak_w 101 (by decide +kernel) (by decide +kernel), ⟨by decide, by decide⟩, by decide +kernel, by decide⟩
theorem mk_88 : ak_mok q_88 := ⟨ak_w 716 (by decide +kernel) (by decide +kernel), ak_w 101 (by decide +kernel) (by decide +kernel), ⟨by decide, by decide⟩, by decide +kernel, by decide⟩
theorem mk_89 : ak_mok q_89 := ⟨ak_w 720 (by decide +kernel) (by decide +kernel), ak_w 101 (by decide +kernel) (by decide +kernel), ⟨by decide, by decide⟩, by decide +kernel, by decide⟩
theorem mk_90 : ak_mok q_90 := ⟨ak_w 724 (by decide +kernel) (by decide +kernel), ak_w 101 (by decide +kernel) (by decide +kernel), ⟨by decide, by decide⟩, by decide +kernel, by decide⟩
theorem mk_91 : ak_mok q_91 := ⟨ak_w 728 (by decide +kernel) (by decide +kernel), ak_w 101 (by decide +kernel) (by decide +kernel), ⟨by decide, by decide⟩, by decide +kernel, by decide⟩
theorem mk_92 : ak_mok q_92 := ⟨ak_w 732 (by decide +kernel) (by decide +kernel), ak_w 101 (by decide +kernel) (by decide +kernel), ⟨by decide, by decide⟩, by decide +kernel, by decide⟩
theorem mk_93 : ak_mok q_93 := ⟨ak_w 736 (by decide +kernel) (by decide +kernel), ak_w 101 (by decide +kernel) (by decide +kernel), ⟨by decide, by decide⟩, by decide +kernel, by decide⟩
theorem mk_94 : ak_mok q_94 := ⟨ak_w 740 (by decide +kernel) (by decide +kernel), ak_w 101 (by decide +kernel) (by decide +kernel), ⟨by decide, by decide⟩, by decide +kernel, by decide⟩
theorem mk_95 : ak_mok q_95 := ⟨ak_w 744 (by decide +kernel) (by decide +kernel), ak_w 101 (by decide +kernel) (by decide +kernel), ⟨by decide, by decide⟩, by decide +kernel, by decide⟩
theorem mk_96 : ak_mok q_96 := ⟨ak_w 748 (by decide +kernel) (by decide +kernel), ak_w 101 (by decide +kernel) (by decide +kernel), ⟨by decide, by decide⟩, by decide +kernel, by decide⟩
theorem mk_97 : ak_mok q_97 := ⟨ak_w 753 (by decide +kernel) (by decide +kernel), ak_w 101 (by decide +kernel) (by decide +kernel), ⟨by decide, by decide⟩, by decide +kernel, by decide⟩
theorem mk_98 : ak_mok q_98 := ⟨ak_w 757 (by decide +kernel) (by decide +kernel), ak_w 101 (by decide +kernel) (by decide +kernel), ⟨by decide, by decide⟩, by decide +kernel, by decide⟩
theorem mk_99 : ak_mok q_99 := ⟨ak_w 763 (by decide +kernel) (by decide +kernel), ak_w 92 (by decide +kernel) (by decide +kernel), ⟨by decide, by decide⟩, by decide +kernel, by decide⟩
theorem mk_100 : ak_mok q_100 := ⟨ak_w 767 (by decide +kernel) (by decide +kernel), ak_w 92 (by decide +kernel) (by decide +kernel), ⟨by decide, by decide⟩, by decide +kernel, by decide⟩
theorem mk_101 : ak_mok q_101 := ⟨ak_w 772 (by decide +kernel) (by decide +kernel), ak_w 102 (by decide +kernel) (by decide +kernel), ⟨by decide, by decide⟩, by decide +kernel, by decide⟩
theorem mk_102 : ak_mok q_102 := ⟨ak_w 776 (by decide +kernel) (by decide +kernel), ak_w 93 (by decide +kernel) (by decide +kernel), ⟨by decide, by decide⟩, by decide +kernel, by decide⟩
theorem mk_103 : ak_mok q_103 := ⟨ak_w 779 (by decide +kernel) (by decide +kernel), ak_w 110 (by decide +kernel) (by decide +kernel), ⟨by decide, by decide⟩, by decide +kernel, by decide⟩
theorem mk_104 : ak_mok q_104 := ⟨ak_w 787 (by decide +kernel) (by decide +kernel), ak_w 102 (by decide +kernel) (by decide +kernel), ⟨by decide, by decide⟩, by decide +kernel, by decide⟩
theorem mk_105 : ak_mok q_105 := ⟨ak_w 794 (by decide +kernel) (by decide +kernel), ak_w 102 (by decide +kernel) (by decide +kernel), ⟨by decide, by decide⟩, by decide +kernel, by decide⟩
theorem mk_106 : ak_mok q_106 := ⟨ak_w 798 (by decide +kernel) (by decide +kernel), ak_w 102 (by decide +kernel) (by decide +kernel), ⟨by decide, by decide⟩, by decide +kernel, by decide⟩
theorem mk_107 : ak_mok q_107 := ⟨ak_w 803 (by decide +kernel) (by decide +kernel), ak_w 102 (by decide +kernel) (by decide +kernel), ⟨by decide, by decide⟩, by decide +kernel, by decide⟩
theorem mk_108 : ak_mok q_108 := ⟨ak_w 807 (by decide +kernel) (by decide +kernel), ak_w 102 (by decide +kernel) (by decide +kernel), ⟨by decide, by decide⟩, by decide +kernel, by decide⟩
theorem mk_109 : ak_mok q_109 := ⟨ak_w 811 (by decide +kernel) (by decide +kernel), ak_w 102 (by decide +kernel) (by decide +kernel), ⟨by decide, by decide⟩, by decide +kernel, by decide⟩
theorem mk_110 : ak_mok q_110 := ⟨ak_w 815 (by decide +kernel) (by decide +kernel), ak_w 102 (by decide +kernel) (by decide +kernel), ⟨by decide, by decide⟩, by decide +kernel, by decide⟩
theorem mk_111 : ak_mok q_111 := ⟨ak_w 820 (by decide +kernel) (by decide +kernel), ak_w 102 (by decide +kernel) (by decide +kernel), ⟨by decide, by decide⟩, by decide +kernel, by decide⟩
theorem mk_112 : ak_mok q_112 := ⟨ak_w 825 (by decide +kernel) (by decide +kernel), ak_w 92 (by decide +kernel) (by decide +kernel), ⟨by decide, by decide⟩, by decide +kernel, by decide⟩
theorem mk_113 : ak_mok q_113 := ⟨ak_w 830 (by decide +kernel) (by decide +kernel), ak_w 93 (by decide +kernel) (by decide +kernel), ⟨by decide, by decide⟩, by decide +kernel, by decide⟩
theorem mk_114 : ak_mok q_114 := ⟨ak_w 834 (by decide +kernel) (by decide +kernel), ak_w 92 (by decide +kernel) (by decide +kernel), ⟨by decide, by decide⟩, by decide +kernel, by decide⟩
theorem mk_115 : ak_mok q_115 := ⟨ak_w 838 (by decide +kernel) (by decide +kernel), ak_w 102 (by decide +kernel) (by decide +kernel), ⟨by decide, by decide⟩, by decide +kernel, by decide⟩
theorem mk_116 : ak_mok q_116 := ⟨ak_w 842 (by decide +kernel) (by decide +kernel), ak_w 102 (by decide +kernel) (by decide +kernel), ⟨by decide, by decide⟩, by decide +kernel, by decide⟩
theorem mk_117 : ak_mok q_117 := ⟨ak_w 846 (by decide +kernel) (by decide +kernel), ak_w 102 (by decide +kernel) (by decide +kernel), ⟨by decide, by decide⟩, by decide +kernel, by decide⟩
theorem mk_118 : ak_mok q_118 := ⟨ak_w 852 (by decide +kernel) (by decide +kernel), ak_w 102 (by decide +kernel) (by decide +kernel), ⟨by decide, by decide⟩, by decide +kernel, by decide⟩
theorem mk_119 : ak_mok q_119 := ⟨ak_w 856 (by decide +kernel) (by decide +kernel), ak_w 102 (by decide +kernel) (by decide +kernel), ⟨by decide, by decide⟩, by decide +kernel, by decide⟩
theorem mk_120 : ak_mok q_120 := ⟨ak_w 860 (by decide +kernel) (by decide +kernel), ak_w 102 (by decide +kernel) (by decide +kernel), ⟨by decide, by decide⟩, by decide +kernel, by decide⟩
theorem mk_121 : ak_mok q_121 := ⟨ak_w 864 (by decide +kernel) (by decide +kernel), ak_w 102 (by decide +kernel) (by decide +kernel), ⟨by decide, by decide⟩, by decide +kernel, by decide⟩
theorem mk_122 : ak_mok q_122 := ⟨ak_w 869 (by decide +kernel) (by decide +kernel), ak_w 102 (by decide +kernel) (by decide +kernel), ⟨by decide, by decide⟩, by decide +kernel, by decide⟩
theorem mk_123 : ak_mok q_123 := ⟨ak_w 873 (by decide +kernel) (by decide +kernel), ak_w 102 (by decide +kernel) (by decide +kernel), ⟨by decide, by decide⟩, by decide +kernel, by decide⟩
theorem mk_124 : ak_mok q_124 := ⟨ak_w 877 (by decide +kernel) (by decide +kernel), ak_w 92 (by decide +kernel) (by decide +kernel), ⟨by decide, by decide⟩, by decide +kernel, by decide⟩
theorem mk_125 : ak_mok q_125 := ⟨ak_w 881 (by decide +kernel) (by decide +kernel), ak_w 102 (by decide +kernel) (by decide +kernel), ⟨by decide, by decide⟩, by decide +kernel, by decide⟩
theorem mk_126 : ak_mok q_126 := ⟨ak_w 885 (by decide +kernel) (by decide +kernel), ak_w 102 (by decide +kernel) (by decide +kernel), ⟨by decide, by decide⟩, by decide +kernel, by decide⟩
theorem mk_127 : ak_mok q_127 := ⟨ak_w 890 (by decide +kernel) (by decide +kernel), ak_w 102 (by decide +kernel) (by decide +kernel), ⟨by decide, by decide⟩, by decide +kernel, by decide⟩
theorem mk_128 : ak_mok q_128 := ⟨ak_w 894 (by decide +kernel) (by decide +kernel), ak_w 102 (by decide +kernel) (by decide +kernel), ⟨by decide, by decide⟩, by decide +kernel, by decide⟩
theorem mk_129 : ak_mok q_129 := ⟨ak_w 898 (by decide +kernel) (by decide +kernel), ak_w 92 (by decide +kernel) (by decide +kernel), ⟨by decide, by decide⟩, by decide +kernel, by decide⟩
theorem mk_130 : ak_mok q_130 := ⟨ak_w 902 (by decide +kernel) (by decide +kernel), ak_w 102 (by decide +kernel) (by decide +kernel), ⟨by decide, by decide⟩, by decide +kernel, by decide⟩
theorem mk_131 : ak_mok q_131 := ⟨ak_w 907 (by decide +kernel) (by decide +kernel), ak_w 102 (by decide +kernel) (by decide +kernel), ⟨by decide, by decide⟩, by decide +kernel, by decide⟩
theorem mk_132 : ak_mok q_132 := ⟨ak_w 912 (by decide +kernel) (by decide +kernel), ak_w 92 (by decide +kernel) (by decide +kernel), ⟨by decide, by decide⟩, by decide +kernel, by decide⟩
theorem mk_133 : ak_mok q_133 := ⟨ak_w 916 (by decide +kernel) (by decide +kernel), ak_w 102 (by decide +kernel) (by decide +kernel), ⟨by decide, by decide⟩, by decide +kernel, by decide⟩
theorem mk_134 : ak_mok q_134 := ⟨ak_w 920 (by decide +kernel) (by decide +kernel), ak_w 102 (by decide +kernel) (by decide +kernel), ⟨by decide, by decide⟩, by decide +kernel, by decide⟩
theorem mk_135 : ak_mok q_135 := ⟨ak_w 924 (by decide +kernel) (by decide +kernel), ak_w 92 (by decide +kernel) (by decide +kernel), ⟨by decide, by decide⟩, by decide +kernel, by decide⟩
theorem mk_136 : ak_mok q_136 := ⟨ak_w 928 (by decide +kernel) (by decide +kernel), ak_w 102 (by decide +kernel) (by decide +kernel), ⟨by decide, by decide⟩, by decide +kernel, by decide⟩
theorem mk_137 : ak_mok q_137 := ⟨ak_w 932 (by decide +kernel) (by decide +kernel), ak_w 92 (by decide +kernel) (by decide +kernel), ⟨by decide, by decide⟩, by decide +kernel, by decide⟩
theorem mk_138 : ak_mok q_138 := ⟨ak_w 935 (by decide +kernel) (by decide +kernel), ak_w 92 (by decide +kernel) (by decide +kernel), ⟨by decide, by decide⟩, by decide +kernel, by decide⟩
theorem mk_139 : ak_mok q_139 := ⟨ak_w 939 (by decide +kernel) (by decide +kernel), ak_w 103 (by decide +kernel) (by decide +kernel), ⟨by decide, by decide⟩, by decide +kernel, by decide⟩
theorem mk_140 : ak_mok q_140 := ⟨ak_w 943 (by decide +kernel) (by decide +kernel), ak_w 93 (by decide +kernel) (by decide +kernel), ⟨by decide, by decide⟩, by decide +kernel, by decide⟩
theorem mk_141 : ak_mok q_141 := ⟨ak_w 947 (by decide +kernel) (by decide +kernel), ak_w 92 (by decide +kernel) (by decide +kernel), ⟨by decide, by decide⟩, by decide +kernel, by decide⟩
theorem mk_142 : ak_mok q_142 := ⟨ak_w 951 (by decide +kernel) (by decide +kernel), ak_w 92 (by decide +kernel) (by decide +kernel), ⟨by decide, by decide⟩, by decide +kernel, by decide⟩
theorem mk_143 : ak_mok q_143 := ⟨ak_w 955 (by decide +kernel) (by decide +kernel), ak_w 92 (by decide +kernel) (by decide +kernel), ⟨by decide, by decide⟩, by decide +kernel, by decide⟩
theorem mk_144 : ak_mok q_144 := ⟨ak_w 959 (by decide +kernel) (by decide +kernel), ak_w 92 (by decide +kernel) (by decide +kernel), ⟨by decide, by decide⟩, by decide +kernel, by decide⟩
theorem mk_145 : ak_mok q_145 := ⟨ak_w 963 (by decide +kernel) (by decide +kernel), ak_w 92 (by decide +kernel) (by decide +kernel), ⟨by decide, by decide⟩, by decide +kernel, by decide⟩
theorem mk_146 : ak_mok q_146 := ⟨ak_w 967 (by decide +kernel) (by decide +kernel), ak_w 92 (by decide +kernel) (by decide +kernel), ⟨by decide, by decide⟩, by decide +kernel, by decide⟩
theorem mk_147 : ak_mok q_147 := ⟨ak_w 971 (by decide +kernel) (by decide +kernel), ak_w 92 (by decide +kernel) (by decide +kernel), ⟨by decide, by decide⟩, by decide +kernel, by decide⟩
theorem mk_148 : ak_mok q_148 := ⟨ak_w 975 (by decide +kernel) (by decide +kernel), ak_w 92 (by decide +kernel) (by decide +kernel), ⟨by decide, by decide⟩, by decide +kernel, by decide⟩
theorem mk_149 : ak_mok q_149 := ⟨ak_w 979 (by decide +kernel) (by decide +kernel), ak_w 103 (by decide +kernel) (by decide +kernel), ⟨by decide, by decide⟩, by decide +kernel, by decide⟩
theorem mk_150 : ak_mok q_150 := ⟨ak_w 985 (by decide +kernel) (by decide +kernel), ak_w 103 (by decide +kernel) (by decide +kernel), ⟨by decide, by decide⟩, by decide +kernel, by decide⟩
theorem mk_151 : ak_mok q_151 := ⟨ak_w 989 (by decide +kernel) (by decide +kernel), ak_w 103 (by decide +kernel) (by decide +kernel), ⟨by decide, by decide⟩, by decide +kernel, by decide⟩
theorem mk_152 : ak_mok q_152 := ⟨ak_w 993 (by decide +kernel) (by decide +kernel), ak_w 92 (by decide +kernel) (by decide +kernel), ⟨by decide, by decide⟩, by decide +kernel, by decide⟩
theorem mk_153 : ak_mok q_153 := ⟨ak_w 997 (by decide +kernel) (by decide +kernel), ak_w 92 (by decide +kernel) (by decide +kernel), ⟨by decide, by decide⟩, by decide +kernel, by decide⟩
theorem mk_154 : ak_mok q_154 := ⟨ak_w 1002 (by decide +kernel) (by decide +kernel), ak_w 92 (by decide +kernel) (by decide +kernel), ⟨by decide, by decide⟩, by decide +kernel, by decide⟩
theorem mk_155 : ak_mok q_155 := ⟨ak_w 1006 (by decide +kernel) (by decide +kernel), ak_w 92 (by decide +kernel) (by decide +kernel), ⟨by decide, by decide⟩, by decide +kernel, by decide⟩
theorem mk_156 : ak_mok q_156 := ⟨ak_w 1010 (by decide +kernel) (by decide +kernel), ak_w 92 (by decide +kernel) (by decide +kernel), ⟨by decide, by decide⟩, by decide +kernel, by decide⟩
theorem mk_157 : ak_mok q_157 := ⟨ak_w 1014 (by decide +kernel) (by decide +kernel), ak_w 92 (by decide +kernel) (by decide +kernel), ⟨by decide, by decide⟩, by decide +kernel, by decide⟩
theorem mk_158 : ak_mok q_158 := ⟨ak_w 1018 (by decide +kernel) (by decide +kernel), ak_w 92 (by decide +kernel) (by decide +kernel), ⟨by decide, by decide⟩, by decide +kernel, by decide⟩
theorem mk_159 : ak_mok q_159 := ⟨ak_w 1022 (by decide +kernel) (by decide +kernel), ak_w 93 (by decide +kernel) (by decide +kernel), ⟨by decide, by decide⟩, by decide +kernel, by decide⟩
theorem mk_160 : ak_mok q_160 := ⟨ak_w 1026 (by decide +kernel) (by decide +kernel), ak_w 93 (by decide +kernel) (by decide +kernel), ⟨by decide, by decide⟩, by decide +kernel, by decide⟩
theorem mk_161 : ak_mok q_161 := ⟨ak_w 1030 (by decide +kernel) (by decide +kernel), ak_w 92 (by decide +kernel) (by decide +kernel), ⟨by decide, by decide⟩, by decide +kernel, by decide⟩
theorem mk_162 : ak_mok q_162 := ⟨ak_w 1033 (by decide +kernel) (by decide +kernel), ak_w 103 (by decide +kernel) (by decide +kernel), ⟨by decide, by decide⟩, by decide +kernel, by decide⟩
theorem mk_163 : ak_mok q_163 := ⟨ak_w 1037 (by decide +kernel) (by decide +kernel), ak_w 92 (by decide +kernel) (by decide +kernel), ⟨by decide, by decide⟩, by decide +kernel, by decide⟩
theorem mk_164 : ak_mok q_164 := ⟨ak_w 1042 (by decide +kernel) (by decide +kernel), ak_w 92 (by decide +kernel) (by decide +kernel), ⟨by decide, by decide⟩, by decide +kernel, by decide⟩
theorem mk_165 : ak_mok q_165 := ⟨ak_w 1049 (by decide +kernel) (by decide +kernel), ak_w 92 (by decide +kernel) (by decide +kernel), ⟨by decide, by decide⟩, by decide +kernel, by decide⟩
theorem mk_166 : ak_mok q_166 := ⟨ak_w 1054 (by decide +kernel) (by decide +kernel), ak_w 92 (by decide +kernel) (by decide +kernel), ⟨by decide, by decide⟩, by decide +kernel, by decide⟩
theorem mk_167 : ak_mok q_167 := ⟨ak_w 1058 (by decide +kernel) (by decide +kernel), ak_w 94 (by decide +kernel) (by decide +kernel), ⟨by decide, by decide⟩, by decide +kernel, by decide⟩
theorem mk_168 : ak_mok q_168 := ⟨ak_w 1063 (by decide +kernel) (by decide +kernel), ak_w 104 (by decide +kernel) (by decide +kernel), ⟨by decide, by decide⟩, by decide +kernel, by decide⟩
theorem mk_169 : ak_mok q_169 := ⟨ak_w 1068 (by decide +kernel) (by decide +kernel), ak_w 104 (by decide +kernel) (by decide +kernel), ⟨by decide, by decide⟩, by decide +kernel, by decide⟩
theorem mk_170 : ak_mok q_170 := ⟨ak_w 1204 (by decide +kernel) (by decide +kernel), ak_w 104 (by decide +kernel) (by decide +kernel), ⟨by decide, by decide⟩, by decide +kernel, by decide⟩
theorem mk_171 : ak_mok q_171 := ⟨ak_w 1208 (by decide +kernel) (by decide +kernel), ak_w 104 (by decide +kernel) (by decide +kernel), ⟨by decide, by decide⟩, by decide +kernel, by decide⟩
theorem mk_172 : ak_mok q_172 := ⟨ak_w 1212 (by decide +kernel) (by decide +kernel), ak_w 104 (by decide +kernel) (by decide +kernel), ⟨by decide, by decide⟩, by decide +kernel, by decide⟩
theorem mk_173 : ak_mok q_173 := ⟨ak_w 1215 (by decide +kernel) (by decide +kernel), ak_w 104 (by decide +kernel) (by decide +kernel), ⟨by decide, by decide⟩, by decide +kernel, by decide⟩
theorem mk_174 : ak_mok q_174 := ⟨ak_w 1219 (by decide +kernel) (by decide +kernel), ak_w 104 (by decide +kernel) (by decide +kernel), ⟨by decide, by decide⟩, by decide +kernel, by decide⟩
theorem mk_175 : ak_mok q_175 := ⟨ak_w 1228 (by decide +kernel) (by decide +kernel), ak_w 104 (by decide +kernel) (by decide +kernel), ⟨by decide, by decide⟩, by decide +kernel, by decide⟩
theorem mk_176 : ak_mok q_176 := ⟨ak_w 1232 (by decide +kernel) (by decide +kernel), ak_w 104 (by decide +kernel) (by decide +kernel), ⟨by decide, by decide⟩, by decide +kernel, by decide⟩
theorem mk_177 : ak_mok q_177 := ⟨ak_w 1236 (by decide +kernel) (by decide +kernel), ak_w 104 (by decide +kernel) (by decide +kernel), ⟨by decide, by decide⟩, by decide +kernel, by decide⟩
theorem mk_178 : ak_mok q_178 := ⟨ak_w 1240 (by decide +kernel) (by decide +kernel), ak_w 104 (by decide +kernel) (by decide +kernel), ⟨by decide, by decide⟩, by decide +kernel, by decide⟩
theorem mk_179 : ak_mok q_179 := ⟨ak_w 1244 (by decide +kernel) (by decide +kernel), ak_w 104 (by decide +kernel) (by decide +kernel), ⟨by decide, by decide⟩, by decide +kernel, by decide⟩
theorem mk_180 : ak_mok q_180 := ⟨ak_w 1248 (by decide +kernel) (by decide +kernel), ak_w 104 (by decide +kernel) (by decide +kernel), ⟨by decide, by decide⟩, by decide +kernel, by decide⟩
theorem mk_181 : ak_mok q_181 := ⟨ak_w 1256 (by decide +kernel) (by decide +kernel), ak_w 104 (by decide +kernel) (by decide +kernel), ⟨by decide, by decide⟩, by decide +kernel, by decide⟩
theorem mk_182 : ak_mok q_182 := ⟨ak_w 1260 (by decide +kernel) (by decide +kernel), ak_w 104 (by decide +kernel) (by decide +kernel), ⟨by decide, by decide⟩, by decide +kernel, by decide⟩
theorem mk_183 : ak_mok q_183 := ⟨ak_w 1264 (by decide +kernel) (by decide +kernel), ak_w 104 (by decide +kernel) (by decide +kernel), ⟨by decide, by decide⟩, by decide +kernel, by decide⟩
theorem mk_184 : ak_mok q_184 := ⟨ak_w 1268 (by decide +kernel) (by decide +kernel), ak_w 104 (by decide +kernel) (by decide +kernel), ⟨by decide, by decide⟩, by decide +kernel, by decide⟩
theorem mk_185 : ak_mok q_185 := ⟨ak_w 1272 (by decide +kernel) (by decide +kernel), ak_w 104 (by decide +kernel) (by decide +kernel), ⟨by decide, by decide⟩, by decide +kernel, by decide⟩
theorem mk_186 : ak_mok q_186 := ⟨ak_w 1276 (by decide +kernel) (by decide +kernel), ak_w 104 (by decide +kernel) (by decide +kernel), ⟨by decide, by decide⟩, by decide +kernel, by decide⟩
theorem mk_187 : ak_mok q_187 := ⟨ak_w 1280 (by decide +kernel) (by decide +kernel), ak_w 104 (by decide +kernel) (by decide +kernel), ⟨by decide, by decide⟩, by decide +kernel, by decide⟩
theorem mk_188 : ak_mok q_188 := ⟨ak_w 1284 (by decide +kernel) (by decide +kernel), ak_w 104 (by decide +kernel) (by decide +kernel), ⟨by decide, by decide⟩, by decide +kernel, by decide⟩
theorem mk_189 : ak_mok q_189 := ⟨ak_w 1288 (by decide +kernel) (by decide +kernel), ak_w 104 (by decide +kernel) (by decide +kernel), ⟨by decide, by decide⟩, by decide +kernel, by decide⟩
theorem mk_190 : ak_mok q_190 := ⟨ak_w 1292 (by decide +kernel) (by decide +kernel), ak_w 104 (by decide +kernel) (by decide +kernel), ⟨by decide, by decide⟩, by decide +kernel, by decide⟩
theorem mk_191 : ak_mok q_191 := ⟨ak_w 1296 (by decide +kernel) (by decide +kernel), ak_w 104 (by decide +kernel) (by decide +kernel), ⟨by decide, by decide⟩, by decide +kernel, by decide⟩
theorem mk_192 : ak_mok q_192 := ⟨ak_w 1300 (by decide +kernel) (by decide +kernel), ak_w 104 (by decide +kernel) (by decide +kernel), ⟨by decide, by decide⟩, by decide +kernel, by decide⟩
theorem mk_193 : ak_mok q_193 := ⟨ak_w 1304 (by decide +kernel) (by decide +kernel), ak_w 104 (by decide +kernel) (by decide +kernel), ⟨by decide, by decide⟩, by decide +kernel, by decide⟩
theorem mk_194 : ak_mok q_194 := ⟨ak_w 1309 (by decide +kernel) (by decide +kernel), ak_w 104 (by decide +kernel) (by decide +kernel), ⟨by decide, by decide⟩, by decide +kernel, by decide⟩
theorem mk_195 : ak_mok q_195 := ⟨ak_w 1315 (by decide +kernel) (by decide +kernel), ak_w 104 (by decide +kernel) (by decide +kernel), ⟨by decide, by decide⟩, by decide +kernel, by decide⟩
theorem mk_196 : ak_mok q_196 := ⟨ak_w 1319 (by decide +kernel) (by decide +kernel), ak_w 104 (by decide +kernel) (by decide +kernel), ⟨by decide, by decide⟩, by decide +kernel, by decide⟩
theorem mk_197 : ak_mok q_197 := ⟨ak_w 1323 (by decide +kernel) (by decide +kernel), ak_w 104 (by decide +kernel) (by decide +kernel), ⟨by decide, by decide⟩, by decide +kernel, by decide⟩
theorem mk_198 : ak_mok q_198 := ⟨ak_w 1327 (by decide +kernel) (by decide +kernel), ak_w 104 (by decide +kernel) (by decide +kernel), ⟨by decide, by decide⟩, by decide +kernel, by decide⟩
theorem mk_199 : ak_mok q_199 := ⟨ak_w 1331 (by decide +kernel) (by decide +kernel), ak_w 104 (by decide +kernel) (by decide +kernel), ⟨by decide, by decide⟩, by decide +kernel, by decide⟩
theorem mk_200 : ak_mok q_200 := ⟨ak_w 1335 (by decide +kernel) (by decide +kernel), ak_w 104 (by decide +kernel) (by decide +kernel), ⟨by decide, by decide⟩, by decide +kernel, by decide⟩
theorem mk_201 : ak_mok q_201 := ⟨ak_w 1341 (by decide +kernel) (by decide +kernel), ak_w 104 (by decide +kernel) (by decide +kernel), ⟨by decide, by decide⟩, by decide +kernel, by decide⟩
theorem mk_202 : ak_mok q_202 := ⟨ak_w 1345 (by decide +kernel) (by decide +kernel), ak_w 104 (by decide +kernel) (by decide +kernel), ⟨by decide, by decide⟩, by decide +kernel, by decide⟩
theorem mk_203 : ak_mok q_203 := ⟨ak_w 1349 (by decide +kernel) (by decide +kernel), ak_w 104 (by decide +kernel) (by decide +kernel), ⟨by decide, by decide⟩, by decide +kernel, by decide⟩
theorem mk_204 : ak_mok q_204 := ⟨ak_w 1352 (by decide +kernel) (by decide +kernel), ak_w 104 (by decide +kernel) (by decide +kernel), ⟨by decide, by decide⟩, by decide +kernel, by decide⟩
theorem mk_205 : ak_mok q_205 := ⟨ak_w 1357 (by decide +kernel) (by decide +kernel), ak_w 104 (by decide +kernel) (by decide +kernel), ⟨by decide, by decide⟩, by decide +kernel, by decide⟩
theorem mk_206 : ak_mok q_206 := ⟨ak_w 1362 (by decide +kernel) (by decide +kernel), ak_w 104 (by decide +kernel) (by decide +kernel), ⟨by decide, by decide⟩, by decide +kernel, by decide⟩
theorem mk_207 : ak_mok q_207 := ⟨ak_w 1367 (by decide +kernel) (by decide +kernel), ak_w 104 (by decide +kernel) (by decide +kernel), ⟨by decide, by decide⟩, by decide +kernel, by decide⟩
theorem mk_208 : ak_mok q_208 := ⟨ak_w 1371 (by decide +kernel) (by decide +kernel), ak_w 104 (by decide +kernel) (by decide +kernel), ⟨by decide, by decide⟩, by decide +kernel, by decide⟩
theorem mk_209 : ak_mok q_209 := ⟨ak_w 1375 (by decide +kernel) (by decide +kernel), ak_w 104 (by decide +kernel) (by decide +kernel), ⟨by decide, by decide⟩, by decide +kernel, by decide⟩
theorem mk_210 : ak_mok q_210 := ⟨ak_w 1382 (by decide +kernel) (by decide +kernel), ak_w 104 (by decide +kernel) (by decide +kernel), ⟨by decide, by decide⟩, by decide +kernel, by decide⟩
theorem mk_211 : ak_mok q_211 := ⟨ak_w 1386 (by decide +kernel) (by decide +kernel), ak_w 104 (by decide +kernel) (by decide +kernel), ⟨by decide, by decide⟩, by decide +kernel, by decide⟩
theorem mk_212 : ak_mok q_212 := ⟨ak_w 1390 (by decide +kernel) (by decide +kernel), ak_w 104 (by decide +kernel) (by decide +kernel), ⟨by decide, by decide⟩, by decide +kernel, by decide⟩
theorem mk_213 : ak_mok q_213 := ⟨ak_w 1394 (by decide +kernel) (by decide +kernel), ak_w 104 (by decide +kernel) (by decide +kernel), ⟨by decide, by decide⟩, by decide +kernel, by decide⟩
theorem mk_214 : ak_mok q_214 := ⟨ak_w 1398 (by decide +kernel) (by decide +kernel), ak_w 104 (by decide +kernel) (by decide +kernel), ⟨by decide, by decide⟩, by decide +kernel, by decide⟩
theorem mk_215 : ak_mok q_215 := ⟨ak_w 1402 (by decide +kernel) (by decide +kernel), ak_w 104 (by decide +kernel) (by decide +kernel), ⟨by decide, by decide⟩, by decide +kernel, by decide⟩
theorem mk_216 : ak_mok q_216 := ⟨ak_w 1405 (by decide +kernel) (by decide +kernel), ak_w 104 (by decide +kernel) (by decide +kernel), ⟨by decide, by decide⟩, by decide +kernel, by decide⟩
theorem mk_217 : ak_mok q_217 := ⟨ak_w 1409 (by decide +kernel) (by decide +kernel), ak_w 104 (by decide +kernel) (by decide +kernel), ⟨by decide, by decide⟩, by decide +kernel, by decide⟩
theorem mk_218 : ak_mok q_218 := ⟨ak_w 1413 (by decide +kernel) (by decide +kernel), ak_w 104 (by decide +kernel) (by decide +kernel), ⟨by decide, by decide⟩, by decide +kernel, by decide⟩
theorem mk_219 : ak_mok q_219 := ⟨ak_w 1417 (by decide +kernel) (by decide +kernel), ak_w 104 (by decide +kernel) (by decide +kernel), ⟨by decide, by decide⟩, by decide +kernel, by decide⟩
theorem mk_220 : ak_mok q_220 := ⟨ak_w 1421 (by decide +kernel) (by decide +kernel), ak_w 104 (by decide +kernel) (by decide +kernel), ⟨by decide, by decide⟩, by decide +kernel, by decide⟩
theorem mk_221 : ak_mok q_221 := ⟨ak_w 1425 (by decide +kernel) (by decide +kernel), ak_w 104 (by decide +kernel) (by decide +kernel), ⟨by decide, by decide⟩, by decide +kernel, by decide⟩
theorem mk_222 : ak_mok q_222 := ⟨ak_w 1429 (by decide +kernel) (by decide +kernel), ak_w 104 (by decide +kernel) (by decide +kernel), ⟨by decide, by decide⟩, by decide +kernel, by decide⟩
theorem mk_223 : ak_mok q_223 := ⟨ak_w 1433 (by decide +kernel) (by decide +kernel), ak_w 104 (by decide +kernel) (by decide +kernel), ⟨by decide, by decide⟩, by decide +kernel, by decide⟩
theorem mk_224 : ak_mok q_224 := ⟨ak_w 1437 (by decide +kernel) (by decide +kernel), ak_w 104 (by decide +kernel) (by decide +kernel), ⟨by decide, by decide⟩, by decide +kernel, by decide⟩
theorem mk_225 : ak_mok q_225 := ⟨ak_w 1441 (by decide +kernel) (by decide +kernel), ak_w 104 (by decide +kernel) (by decide +kernel), ⟨by decide, by decide⟩, by decide +kernel, by decide⟩
theorem mk_226 : ak_mok q_226 := ⟨ak_w 1445 (by decide +kernel) (by decide +kernel), ak_w 104 (by decide +kernel) (by decide +kernel), ⟨by decide, by decide⟩, by decide +kernel, by decide⟩
theorem mk_227 : ak_mok q_227 := ⟨ak_w 1449 (by decide +kernel) (by decide +kernel), ak_w 104 (by decide +kernel) (by decide +kernel), ⟨by decide, by decide⟩, by decide +kernel, by decide⟩
theorem mk_228 : ak_mok q_228 := ⟨ak_w 1453 (by decide +kernel) (by decide +kernel), ak_w 104 (by decide +kernel) (by decide +kernel), ⟨by decide, by decide⟩, by decide +kernel, by decide⟩
theorem mk_229 : ak_mok q_229 := ⟨ak_w 1457 (by decide +kernel) (by decide +kernel), ak_w 104 (by decide +kernel) (by decide +kernel), ⟨by decide, by decide⟩, by decide +kernel, by decide⟩
theorem mk_230 : ak_mok q_230 := ⟨ak_w 1461 (by decide +kernel) (by decide +kernel), ak_w 104 (by decide +kernel) (by decide +kernel), ⟨by decide, by decide⟩, by decide +kernel, by decide⟩
theorem mk_231 : ak_mok q_231 := ⟨ak_w 1465 (by decide +kernel) (by decide +kernel), ak_w 104 (by decide +kernel) (by decide +kernel), ⟨by decide, by decide⟩, by decide +kernel, by decide⟩
theorem mk_232 : ak_mok q_232 := ⟨ak_w 1468 (by decide +kernel) (by decide +kernel), ak_w 104 (by decide +kernel) (by decide +kernel), ⟨by decide, by decide⟩, by decide +kernel, by decide⟩
theorem mk_233 : ak_mok q_233 := ⟨ak_w 1472 (by decide +kernel) (by decide +kernel), ak_w 104 (by decide +kernel) (by decide +kernel), ⟨by decide, by decide⟩, by decide +kernel, by decide⟩
theorem mk_234 : ak_mok q_234 := ⟨ak_w 1476 (by decide +kernel) (by decide +kernel), ak_w 104 (by decide +kernel) (by decide +kernel), ⟨by decide, by decide⟩, by decide +kernel, by decide⟩
theorem mk_235 : ak_mok q_235 := ⟨ak_w 1480 (by decide +kernel) (by decide +kernel), ak_w 104 (by decide +kernel) (by decide +kernel), ⟨by decide, by decide⟩, by decide +kernel, by decide⟩
theorem mk_236 : ak_mok q_236 := ⟨ak_w 1485 (by decide +kernel) (by decide +kernel), ak_w 104 (by decide +kernel) (by decide +kernel), ⟨by decide, by decide⟩, by decide +kernel, by decide⟩
theorem mk_237 : ak_mok q_237 := ⟨ak_w 1489 (by decide +kernel) (by decide +kernel), ak_w 104 (by decide +kernel) (by decide +kernel), ⟨by decide, by decide⟩, by decide +kernel, by decide⟩
theorem mk_238 : ak_mok q_238 := ⟨ak_w 1494 (by decide +kernel) (by decide +kernel), ak_w 104 (by decide +kernel) (by decide +kernel), ⟨by decide, by decide⟩, by decide +kernel, by decide⟩
theorem mk_239 : ak_mok q_239 := ⟨ak_w 1499 (by decide +kernel) (by decide +kernel), ak_w 104 (by decide +kernel) (by decide +kernel), ⟨by decide, by decide⟩, by decide +kernel, by decide⟩
theorem mk_240 : ak_mok q_240 := ⟨ak_w 1503 (by decide +kernel) (by decide +kernel), ak_w 104 (by decide +kernel) (by decide +kernel), ⟨by decide, by decide⟩, by decide +kernel, by decide⟩
theorem mk_241 : ak_mok q_241 := ⟨ak_w 1507 (by decide +kernel) (by decide +kernel), ak_w 104 (by decide +kernel) (by decide +kernel), ⟨by decide, by decide⟩, by decide +kernel, by decide⟩
theorem mk_242 : ak_mok q_242 := ⟨ak_w 1512 (by decide +kernel) (by decide +kernel), ak_w 104 (by decide +kernel) (by decide +kernel), ⟨by decide, by decide⟩, by decide +kernel, by decide⟩
theorem mk_243 : ak_mok q_243 := ⟨ak_w 1516 (by decide +kernel) (by decide +kernel), ak_w 104 (by decide +kernel) (by decide +kernel), ⟨by decide, by decide⟩, by decide +kernel, by decide⟩
theorem mk_244 : ak_mok q_244 := ⟨ak_w 1520 (by decide +kernel) (by decide +kernel), ak_w 104 (by decide +kernel) (by decide +kernel), ⟨by decide, by decide⟩, by decide +kernel, by decide⟩
theorem mk_245 : ak_mok q_245 := ⟨ak_w 1525 (by decide +kernel) (by decide +kernel), ak_w 104 (by decide +kernel) (by decide +kernel), ⟨by decide, by decide⟩, by decide +kernel, by decide⟩
theorem mk_246 : ak_mok q_246 := ⟨ak_w 1528 (by decide +kernel) (by decide +kernel), ak_w 104 (by decide +kernel) (by decide +kernel), ⟨by decide, by decide⟩, by decide +kernel, by decide⟩
theorem rk_RX11_3 : ak_okr RX11 3 (16, 0, 0, 0) := ak_w 117 (by decide +kernel) (by decide +kernel)
theorem rk_RX11_9 : ak_okr RX11 9 (7, 8, 0, 0) := ⟨(RX8, TX8, 12), rfl, ak_w 120 (by decide +kernel) (by decide +kernel)⟩
theorem rk_RX11_11 : ak_okr RX11 11 (14, 1, 0, 8) := ⟨q_1, (RX8, TX8, 12), rfl, mk_1, rfl, rfl, rfl, rfl, by decide +kernel, ak_w 122 (by decide +kernel) (by decide +kernel), ak_w 123 (by decide +kernel) (by decide +kernel)⟩
theorem rk_RX11_12 : ak_okr RX11 12 (1, 11, 0, 1) := ⟨(RX11, TX11, 9), rfl, by decide, ak_w 364 (by decide +kernel) (by decide +kernel), by decide +kernel⟩
theorem rk_RX11_16 : ak_okr RX11 16 (1, 11, 1, 1) := ⟨(RX11, TX11, 9), rfl, by decide, ak_w 365 (by decide +kernel) (by decide +kernel), by decide +kernel⟩
theorem rk_RX11_19 : ak_okr RX11 19 (1, 11, 2, 1) := ⟨(RX11, TX11, 9), rfl, by decide, ak_w 366 (by decide +kernel) (by decide +kernel), by decide +kernel⟩
theorem rk_RX11_22 : ak_okr RX11 22 (1, 11, 4, 1) := ⟨(RX11, TX11, 9), rfl, by decide, ak_w 368 (by decide +kernel) (by decide +kernel), by decide +kernel⟩
theorem rk_RX11_26 : ak_okr RX11 26 (7, 6, 0, 0) := ⟨(RX6, TX6, 5), rfl, ak_w 182 (by decide +kernel) (by decide +kernel)⟩
theorem rk_RX11_28 : ak_okr RX11 28 (14, 2, 1, 6) := ⟨q_2, (RX6, TX6, 5), rfl, mk_2, rfl, rfl, rfl, rfl, by decide +kernel, ak_w 184 (by decide +kernel) (by decide +kernel), ak_w 185 (by decide +kernel) (by decide +kernel)⟩
theorem rk_RX11_31 : ak_okr RX11 31 (1, 11, 6, 1) := ⟨(RX11, TX11, 9), rfl, by decide, ak_w 370 (by decide +kernel) (by decide +kernel), by decide +kernel⟩
theorem rk_RX11_35 : ak_okr RX11 35 (7, 5, 0, 0) := ⟨(RX5, TX5, 12), rfl, ak_w 300 (by decide +kernel) (by decide +kernel)⟩
theorem rk_RX11_37 : ak_okr RX11 37 (14, 12, 2, 5) := ⟨q_12, (RX5, TX5, 12), rfl, mk_12, rfl, rfl, rfl, rfl, by decide +kernel, ak_w 302 (by decide +kernel) (by decide +kernel), ak_w 303 (by decide +kernel) (by decide +kernel)⟩
theorem rk_RX11_40 : ak_okr RX11 40 (1, 11, 7, 1) := ⟨(RX11, TX11, 9), rfl, by decide, ak_w 371 (by decide +kernel) (by decide +kernel), by decide +kernel⟩
theorem rk_RX11_44 : ak_okr RX11 44 (7, 7, 4, 0) := ⟨(RX7, TX7, 3), rfl, ak_w 344 (by decide +kernel) (by decide +kernel)⟩
theorem rk_RX11_46 : ak_okr RX11 46 (1, 11, 8, 1) := ⟨(RX11, TX11, 9), rfl, by decide, ak_w 372 (by decide +kernel) (by decide +kernel), by decide +kernel⟩
theorem rk_RX11_50 : ak_okr RX11 50 (14, 13, 0, 7) := ⟨q_13, (RX7, TX7, 3), rfl, mk_13, rfl, rfl, rfl, rfl, by decide +kernel, ak_w 347 (by decide +kernel) (by decide +kernel), ak_w 348 (by decide +kernel) (by decide +kernel)⟩
theorem rk_RX11_51 : ak_okr RX11 51 (8, 15, 2, 8) := ⟨q_15, (RX8, TX8, 12), rfl, mk_15, rfl, rfl, by decide +kernel, ak_w 396 (by decide +kernel) (by decide +kernel), ak_w 397 (by decide +kernel) (by decide +kernel), ak_w 398 (by decide +kernel) (by decide +kernel)⟩
theorem rk_RX11_55 : ak_okr RX11 55 (8, 17, 2, 8) := ⟨q_17, (RX8, TX8, 12), rfl, mk_17, rfl, rfl, by decide +kernel, ak_w 404 (by decide +kernel) (by decide +kernel), ak_w 405 (by decide +kernel) (by decide +kernel), ak_w 406 (by decide +kernel) (by decide +kernel)⟩
theorem rk_RX11_58 : ak_okr RX11 58 (8, 18, 2, 8) := ⟨q_18, (RX8, TX8, 12), rfl, mk_18, rfl, rfl, by decide +kernel, ak_w 412 (by decide +kernel) (by decide +kernel), ak_w 413 (by decide +kernel) (by decide +kernel), ak_w 414 (by decide +kernel) (by decide +kernel)⟩
theorem rk_RX11_62 : ak_okr RX11 62 (8, 20, 3, 8) := ⟨q_20, (RX8, TX8, 12), rfl, mk_20, rfl, rfl, by decide +kernel, ak_w 420 (by decide +kernel) (by decide +kernel), ak_w 421 (by decide +kernel) (by decide +kernel), ak_w 422 (by decide +kernel) (by decide +kernel)⟩
theorem rk_RX11_66 : ak_okr RX11 66 (8, 22, 3, 8) := ⟨q_22, (RX8, TX8, 12), rfl, mk_22, rfl, rfl, by decide +kernel, ak_w 428 (by decide +kernel) (by decide +kernel), ak_w 429 (by decide +kernel) (by decide +kernel), ak_w 430 (by decide +kernel) (by decide +kernel)⟩
theorem rk_RX11_70 : ak_okr RX11 70 (8, 16, 1, 8) := ⟨q_16, (RX8, TX8, 12), rfl, mk_16, rfl, rfl, by decide +kernel, ak_w 440 (by decide +kernel) (by decide +kernel), ak_w 401 (by decide +kernel) (by decide +kernel), ak_w 402 (by decide +kernel) (by decide +kernel)⟩
theorem rk_RX11_74 : ak_okr RX11 74 (1, 8, 11, 1) := ⟨(RX8, TX8, 12), rfl, by decide, ak_w 155 (by decide +kernel) (by decide +kernel), by decide +kernel⟩
theorem rk_RX11_77 : ak_okr RX11 77 (8, 23, 3, 8) := ⟨q_23, (RX8, TX8, 12), rfl, mk_23, rfl, rfl, by decide +kernel, ak_w 441 (by decide +kernel) (by decide +kernel), ak_w 433 (by decide +kernel) (by decide +kernel), ak_w 434 (by decide +kernel) (by decide +kernel)⟩
theorem rk_RX11_81 : ak_okr RX11 81 (11, 26, 1, 0) := ⟨q_26, rfl, mk_26, by decide +kernel, ak_w 446 (by decide +kernel) (by decide +kernel), ak_w 447 (by decide +kernel) (by decide +kernel)⟩
theorem rk_RX11_84 : ak_okr RX11 84 (8, 27, 3, 6) := ⟨q_27, (RX6, TX6, 5), rfl, mk_27, rfl, rfl, by decide +kernel, ak_w 449 (by decide +kernel) (by decide +kernel), ak_w 450 (by decide +kernel) (by decide +kernel), ak_w 451 (by decide +kernel) (by decide +kernel)⟩
theorem rk_RX11_88 : ak_okr RX11 88 (1, 8, 10, 1) := ⟨(RX8, TX8, 12), rfl, by decide, ak_w 151 (by decide +kernel) (by decide +kernel), by decide +kernel⟩
theorem rk_RX11_91 : ak_okr RX11 91 (1, 8, 5, 1) := ⟨(RX8, TX8, 12), rfl, by decide, ak_w 138 (by decide +kernel) (by decide +kernel), by decide +kernel⟩
theorem rk_RX11_94 : ak_okr RX11 94 (8, 48, 2, 6) := ⟨q_48, (RX6, TX6, 5), rfl, mk_48, rfl, rfl, by decide +kernel, ak_w 531 (by decide +kernel) (by decide +kernel), ak_w 532 (by decide +kernel) (by decide +kernel), ak_w 533 (by decide +kernel) (by decide +kernel)⟩
theorem rk_RX11_98 : ak_okr RX11 98 (8, 57, 2, 6) := ⟨q_57, (RX6, TX6, 5), rfl, mk_57, rfl, rfl, by decide +kernel, ak_w 569 (by decide +kernel) (by decide +kernel), ak_w 570 (by decide +kernel) (by decide +kernel), ak_w 571 (by decide +kernel) (by decide +kernel)⟩
theorem rk_RX11_101 : ak_okr RX11 101 (8, 63, 2, 11) := ⟨q_63, (RX11, TX11, 9), rfl, mk_63, rfl, rfl, by decide +kernel, ak_w 593 (by decide +kernel) (by decide +kernel), ak_w 595 (by decide +kernel) (by decide +kernel), ak_w 4 (by decide +kernel) (by decide +kernel)⟩
theorem rk_RX11_104 : ak_okr RX11 104 (8, 49, 3, 6) := ⟨q_49, (RX6, TX6, 5), rfl, mk_49, rfl, rfl, by decide +kernel, ak_w 597 (by decide +kernel) (by decide +kernel), ak_w 536 (by decide +kernel) (by decide +kernel), ak_w 537 (by decide +kernel) (by decide +kernel)⟩
theorem rk_RX11_108 : ak_okr RX11 108 (8, 29, 3, 6) := ⟨q_29, (RX6, TX6, 5), rfl, mk_29, rfl, rfl, by decide +kernel, ak_w 598 (by decide +kernel) (by decide +kernel), ak_w 459 (by decide +kernel) (by decide +kernel), ak_w 460 (by decide +kernel) (by decide +kernel)⟩
theorem rk_RX11_111 : ak_okr RX11 111 (1, 11, 5, 0) := ⟨(RX11, TX11, 9), rfl, by decide, ak_w 369 (by decide +kernel) (by decide +kernel), by decide +kernel⟩
theorem rk_RX11_115 : ak_okr RX11 115 (1, 6, 0, 0) := ⟨(RX6, TX6, 5), rfl, by decide, ak_w 284 (by decide +kernel) (by decide +kernel), by decide +kernel⟩
theorem rk_RX11_118 : ak_okr RX11 118 (8, 34, 1, 6) := ⟨q_34, (RX6, TX6, 5), rfl, mk_34, rfl, rfl, by decide +kernel, ak_w 607 (by decide +kernel) (by decide +kernel), ak_w 479 (by decide +kernel) (by decide +kernel), ak_w 480 (by decide +kernel) (by decide +kernel)⟩
theorem rk_RX11_122 : ak_okr RX11 122 (8, 66, 1, 10) := ⟨q_66, (RX10, TX10, 12), rfl, mk_66, rfl, rfl, by decide +kernel, ak_w 608 (by decide +kernel) (by decide +kernel), ak_w 609 (by decide +kernel) (by decide +kernel), ak_w 610 (by decide +kernel) (by decide +kernel)⟩
theorem rk_RX11_128 : ak_okr RX11 128 (1, 8, 3, 0) := ⟨(RX8, TX8, 12), rfl, by decide, ak_w 132 (by decide +kernel) (by decide +kernel), by decide +kernel⟩
theorem rk_RX11_131 : ak_okr RX11 131 (4, 0, 0, -100000) := ak_w 768 (by decide +kernel) (by decide +kernel)
theorem rk_RX11_132 : ak_okr RX11 132 (8, 101, 1, 5) := ⟨q_101, (RX5, TX5, 12), rfl, mk_101, rfl, rfl, by decide +kernel, ak_w 769 (by decide +kernel) (by decide +kernel), ak_w 770 (by decide +kernel) (by decide +kernel), ak_w 771 (by decide +kernel) (by decide +kernel)⟩
theorem rk_RX11_136 : ak_okr RX11 136 (8, 107, 1, 5) := ⟨q_107, (RX5, TX5, 12), rfl, mk_107, rfl, rfl, by decide +kernel, ak_w 800 (by decide +kernel) (by decide +kernel), ak_w 801 (by decide +kernel) (by decide +kernel), ak_w 802 (by decide +kernel) (by decide +kernel)⟩
theorem rk_RX11_139 : ak_okr RX11 139 (8, 109, 0, 5) := ⟨q_109, (RX5, TX5, 12), rfl, mk_109, rfl, rfl, by decide +kernel, ak_w 808 (by decide +kernel) (by decide +kernel), ak_w 809 (by decide +kernel) (by decide +kernel), ak_w 810 (by decide +kernel) (by decide +kernel)⟩
theorem rk_RX11_143 : ak_okr RX11 143 (8, 111, 0, 5) := ⟨q_111, (RX5, TX5, 12), rfl, mk_111, rfl, rfl, by decide +kernel, ak_w 817 (by decide +kernel) (by decide +kernel), ak_w 818 (by decide +kernel) (by decide +kernel), ak_w 819 (by decide +kernel) (by decide +kernel)⟩
theorem rk_RX11_147 : ak_okr RX11 147 (8, 110, 0, 5) := ⟨q_110, (RX5, TX5, 12), rfl, mk_110, rfl, rfl, by decide +kernel, ak_w 821 (by decide +kernel) (by decide +kernel), ak_w 813 (by decide +kernel) (by decide +kernel), ak_w 814 (by decide +kernel) (by decide +kernel)⟩
theorem rk_RX11_150 : ak_okr RX11 150 (1, 8, 0, 0) := ⟨(RX8, TX8, 12), rfl, by decide, ak_w 127 (by decide +kernel) (by decide +kernel), by decide +kernel⟩
theorem rk_RX11_153 : ak_okr RX11 153 (1, 8, 4, 0) := ⟨(RX8, TX8, 12), rfl, by decide, ak_w 135 (by decide +kernel) (by decide +kernel), by decide +kernel⟩
theorem rk_RX11_156 : ak_okr RX11 156 (1, 8, 9, 1) := ⟨(RX8, TX8, 12), rfl, by decide, ak_w 148 (by decide +kernel) (by decide +kernel), by decide +kernel⟩
theorem rk_RX11_159 : ak_okr RX11 159 (11, 36, 2, 0) := ⟨q_36, rfl, mk_36, by decide +kernel, ak_w 826 (by decide +kernel) (by decide +kernel), ak_w 487 (by decide +kernel) (by decide +kernel)⟩
theorem rk_RX11_164 : ak_okr RX11 164 (8, 113, 0, 8) := ⟨q_113, (RX8, TX8, 12), rfl, mk_113, rfl, rfl, by decide +kernel, ak_w 827 (by decide +kernel) (by decide +kernel), ak_w 828 (by decide +kernel) (by decide +kernel), ak_w 829 (by decide +kernel) (by decide +kernel)⟩
theorem rk_RX11_167 : ak_okr RX11 167 (8, 115, 1, 5) := ⟨q_115, (RX5, TX5, 12), rfl, mk_115, rfl, rfl, by decide +kernel, ak_w 835 (by decide +kernel) (by decide +kernel), ak_w 836 (by decide +kernel) (by decide +kernel), ak_w 837 (by decide +kernel) (by decide +kernel)⟩
theorem rk_RX11_171 : ak_okr RX11 171 (8, 122, 0, 5) := ⟨q_122, (RX5, TX5, 12), rfl, mk_122, rfl, rfl, by decide +kernel, ak_w 866 (by decide +kernel) (by decide +kernel), ak_w 867 (by decide +kernel) (by decide +kernel), ak_w 868 (by decide +kernel) (by decide +kernel)⟩
theorem rk_RX11_174 : ak_okr RX11 174 (8, 123, 0, 5) := ⟨q_123, (RX5, TX5, 12), rfl, mk_123, rfl, rfl, by decide +kernel, ak_w 870 (by decide +kernel) (by decide +kernel), ak_w 871 (by decide +kernel) (by decide +kernel), ak_w 872 (by decide +kernel) (by decide +kernel)⟩
theorem rk_RX11_177 : ak_okr RX11 177 (8, 125, 0, 5) := ⟨q_125, (RX5, TX5, 12), rfl, mk_125, rfl, rfl, by decide +kernel, ak_w 878 (by decide +kernel) (by decide +kernel), ak_w 879 (by decide +kernel) (by decide +kernel), ak_w 880 (by decide +kernel) (by decide +kernel)⟩
theorem rk_RX11_180 : ak_okr RX11 180 (8, 128, 0, 5) := ⟨q_128, (RX5, TX5, 12), rfl, mk_128, rfl, rfl, by decide +kernel, ak_w 891 (by decide +kernel) (by decide +kernel), ak_w 892 (by decide +kernel) (by decide +kernel), ak_w 893 (by decide +kernel) (by decide +kernel)⟩
theorem rk_RX11_183 : ak_okr RX11 183 (8, 130, 0, 5) := ⟨q_130, (RX5, TX5, 12), rfl, mk_130, rfl, rfl, by decide +kernel, ak_w 899 (by decide +kernel) (by decide +kernel), ak_w 900 (by decide +kernel) (by decide +kernel), ak_w 901 (by decide +kernel) (by decide +kernel)⟩
theorem rk_RX11_186 : ak_okr RX11 186 (8, 133, 2, 5) := ⟨q_133, (RX5, TX5, 12), rfl, mk_133, rfl, rfl, by decide +kernel, ak_w 913 (by decide +kernel) (by decide +kernel), ak_w 914 (by decide +kernel) (by decide +kernel), ak_w 915 (by decide +kernel) (by decide +kernel)⟩
theorem rk_RX11_189 : ak_okr RX11 189 (8, 136, 1, 5) := ⟨q_136, (RX5, TX5, 12), rfl, mk_136, rfl, rfl, by decide +kernel, ak_w 925 (by decide +kernel) (by decide +kernel), ak_w 926 (by decide +kernel) (by decide +kernel), ak_w 927 (by decide +kernel) (by decide +kernel)⟩
theorem rk_RX11_192 : ak_okr RX11 192 (11, 138, 1, 0) := ⟨q_138, rfl, mk_138, by decide +kernel, ak_w 933 (by decide +kernel) (by decide +kernel), ak_w 934 (by decide +kernel) (by decide +kernel)⟩
theorem rk_RX11_195 : ak_okr RX11 195 (8, 139, 0, 7) := ⟨q_139, (RX7, TX7, 3), rfl, mk_139, rfl, rfl, by decide +kernel, ak_w 936 (by decide +kernel) (by decide +kernel), ak_w 937 (by decide +kernel) (by decide +kernel), ak_w 938 (by decide +kernel) (by decide +kernel)⟩
theorem rk_RX11_198 : ak_okr RX11 198 (1, 7, 1, 0) := ⟨(RX7, TX7, 3), rfl, by decide, ak_w 354 (by decide +kernel) (by decide +kernel), by decide +kernel⟩
theorem rk_RX11_199 : ak_okr RX11 199 (8, 140, 1, 8) := ⟨q_140, (RX8, TX8, 12), rfl, mk_140, rfl, rfl, by decide +kernel, ak_w 940 (by decide +kernel) (by decide +kernel), ak_w 941 (by decide +kernel) (by decide +kernel), ak_w 942 (by decide +kernel) (by decide +kernel)⟩
theorem rk_RX11_202 : ak_okr RX11 202 (8, 141, 2, 11) := ⟨q_141, (RX11, TX11, 9), rfl, mk_141, rfl, rfl, by decide +kernel, ak_w 944 (by decide +kernel) (by decide +kernel), ak_w 946 (by decide +kernel) (by decide +kernel), ak_w 39 (by decide +kernel) (by decide +kernel)⟩
theorem rk_RX11_206 : ak_okr RX11 206 (8, 142, 2, 11) := ⟨q_142, (RX11, TX11, 9), rfl, mk_142, rfl, rfl, by decide +kernel, ak_w 948 (by decide +kernel) (by decide +kernel), ak_w 950 (by decide +kernel) (by decide +kernel), ak_w 40 (by decide +kernel) (by decide +kernel)⟩
theorem rk_RX11_209 : ak_okr RX11 209 (8, 143, 2, 11) := ⟨q_143, (RX11, TX11, 9), rfl, mk_143, rfl, rfl, by decide +kernel, ak_w 952 (by decide +kernel) (by decide +kernel), ak_w 954 (by decide +kernel) (by decide +kernel), ak_w 41 (by decide +kernel) (by decide +kernel)⟩
theorem rk_RX11_212 : ak_okr RX11 212 (8, 144, 2, 11) := ⟨q_144, (RX11, TX11, 9), rfl, mk_144, rfl, rfl, by decide +kernel, ak_w 956 (by decide +kernel) (by decide +kernel), ak_w 958 (by decide +kernel) (by decide +kernel), ak_w 42 (by decide +kernel) (by decide +kernel)⟩
theorem rk_RX11_215 : ak_okr RX11 215 (8, 146, 2, 11) := ⟨q_146, (RX11, TX11, 9), rfl, mk_146, rfl, rfl, by decide +kernel, ak_w 964 (by decide +kernel) (by decide +kernel), ak_w 966 (by decide +kernel) (by decide +kernel), ak_w 44 (by decide +kernel) (by decide +kernel)⟩
theorem rk_RX11_218 : ak_okr RX11 218 (8, 147, 2, 11) := ⟨q_147, (RX11, TX11, 9), rfl, mk_147, rfl, rfl, by decide +kernel, ak_w 968 (by decide +kernel) (by decide +kernel), ak_w 970 (by decide +kernel) (by decide +kernel), ak_w 45 (by decide +kernel) (by decide +kernel)⟩
theorem rk_RX11_221 : ak_okr RX11 221 (8, 149, 2, 7) := ⟨q_149, (RX7, TX7, 3), rfl, mk_149, rfl, rfl, by decide +kernel, ak_w 976 (by decide +kernel) (by decide +kernel), ak_w 977 (by decide +kernel) (by decide +kernel), ak_w 978 (by decide +kernel) (by decide +kernel)⟩
theorem rk_RX11_225 : ak_okr RX11 225 (8, 150, 2, 7) := ⟨q_150, (RX7, TX7, 3), rfl, mk_150, rfl, rfl, by decide +kernel, ak_w 982 (by decide +kernel) (by decide +kernel), ak_w 983 (by decide +kernel) (by decide +kernel), ak_w 984 (by decide +kernel) (by decide +kernel)⟩
theorem rk_RX11_227 : ak_okr RX11 227 (8, 153, 1, 11) := ⟨q_153, (RX11, TX11, 9), rfl, mk_153, rfl, rfl, by decide +kernel, ak_w 994 (by decide +kernel) (by decide +kernel), ak_w 996 (by decide +kernel) (by decide +kernel), ak_w 46 (by decide +kernel) (by decide +kernel)⟩
theorem rk_RX11_231 : ak_okr RX11 231 (6, 0, 0, -4611686018427387904) := ak_w 1003 (by decide +kernel) (by decide +kernel)
theorem rk_RX11_233 : ak_okr RX11 233 (11, 155, 2, 0) := ⟨q_155, rfl, mk_155, by decide +kernel, ak_w 1004 (by decide +kernel) (by decide +kernel), ak_w 1005 (by decide +kernel) (by decide +kernel)⟩
theorem rk_RX11_236 : ak_okr RX11 236 (1, 11, 3, 0) := ⟨(RX11, TX11, 9), rfl, by decide, ak_w 367 (by decide +kernel) (by decide +kernel), by decide +kernel⟩
theorem rk_RX11_240 : ak_okr RX11 240 (8, 159, 0, 8) := ⟨q_159, (RX8, TX8, 12), rfl, mk_159, rfl, rfl, by decide +kernel, ak_w 1019 (by decide +kernel) (by decide +kernel), ak_w 1020 (by decide +kernel) (by decide +kernel), ak_w 1021 (by decide +kernel) (by decide +kernel)⟩
theorem rk_RX11_243 : ak_okr RX11 243 (8, 160, 0, 8) := ⟨q_160, (RX8, TX8, 12), rfl, mk_160, rfl, rfl, by decide +kernel, ak_w 1023 (by decide +kernel) (by decide +kernel), ak_w 1024 (by decide +kernel) (by decide +kernel), ak_w 1025 (by decide +kernel) (by decide +kernel)⟩
theorem rk_RX11_246 : ak_okr RX11 246 (4, 0, 0, 1103515245) := ak_w 998 (by decide +kernel) (by decide +kernel)
theorem rk_RX11_247 : ak_okr RX11 247 (1, 8, 8, 1) := ⟨(RX8, TX8, 12), rfl, by decide, ak_w 145 (by decide +kernel) (by decide +kernel), by decide +kernel⟩
theorem rk_RX11_250 : ak_okr RX11 250 (1, 7, 2, 1) := ⟨(RX7, TX7, 3), rfl, by decide, ak_w 356 (by decide +kernel) (by decide +kernel), by decide +kernel⟩
theorem rk_RX11_253 : ak_okr RX11 253 (1, 8, 6, 1) := ⟨(RX8, TX8, 12), rfl, by decide, ak_w 141 (by decide +kernel) (by decide +kernel), by decide +kernel⟩
theorem rk_RX11_256 : ak_okr RX11 256 (8, 145, 4, 11) := ⟨q_145, (RX11, TX11, 9), rfl, mk_145, rfl, rfl, by decide +kernel, ak_w 960 (by decide +kernel) (by decide +kernel), ak_w 962 (by decide +kernel) (by decide +kernel), ak_w 43 (by decide +kernel) (by decide +kernel)⟩
theorem rk_RX11_260 : ak_okr RX11 260 (11, 162, 1, 0) := ⟨q_162, rfl, mk_162, by decide +kernel, ak_w 1031 (by decide +kernel) (by decide +kernel), ak_w 1032 (by decide +kernel) (by decide +kernel)⟩
theorem rk_RX11_263 : ak_okr RX11 263 (8, 151, 2, 7) := ⟨q_151, (RX7, TX7, 3), rfl, mk_151, rfl, rfl, by decide +kernel, ak_w 1038 (by decide +kernel) (by decide +kernel), ak_w 987 (by decide +kernel) (by decide +kernel), ak_w 988 (by decide +kernel) (by decide +kernel)⟩
theorem rk_RX11_266 : ak_okr RX11 266 (1, 7, 0, 0) := ⟨(RX7, TX7, 3), rfl, by decide, ak_w 352 (by decide +kernel) (by decide +kernel), by decide +kernel⟩
theorem rk_RX11_269 : ak_okr RX11 269 (17, 0, 0, 0) := ak_w 1043 (by decide +kernel) (by decide +kernel)
theorem rk_RX11_275 : ak_okr RX11 275 (8, 21, 3, 11) := ⟨q_21, (RX11, TX11, 9), rfl, mk_21, rfl, rfl, by decide +kernel, ak_w 1050 (by decide +kernel) (by decide +kernel), ak_w 425 (by decide +kernel) (by decide +kernel), ak_w 426 (by decide +kernel) (by decide +kernel)⟩
theorem rk_RX11_278 : ak_okr RX11 278 (8, 167, 2, 6) := ⟨q_167, (RX6, TX6, 5), rfl, mk_167, rfl, rfl, by decide +kernel, ak_w 1055 (by decide +kernel) (by decide +kernel), ak_w 1056 (by decide +kernel) (by decide +kernel), ak_w 1057 (by decide +kernel) (by decide +kernel)⟩
theorem rk_RX0_1 : ak_okr RX0 1 (14, 3, 0, 3) := ⟨q_3, (RX3, TX3, 0), rfl, mk_3, rfl, rfl, rfl, rfl, by decide +kernel, ak_w 231 (by decide +kernel) (by decide +kernel), ak_w 194 (by decide +kernel) (by decide +kernel)⟩
theorem rk_RX0_7 : ak_okr RX0 7 (15, 62, 2, 0) := ⟨q_62, rfl, mk_62, by decide +kernel, by decide, ak_w 581 (by decide +kernel) (by decide +kernel), ak_w 577 (by decide +kernel) (by decide +kernel), ak_w 232 (by decide +kernel) (by decide +kernel), ak_w 575 (by decide +kernel) (by decide +kernel)⟩
theorem rk_RX1_1 : ak_okr RX1 1 (14, 5, 0, 9) := ⟨q_5, (RX9, TX9, 0), rfl, mk_5, rfl, rfl, rfl, rfl, by decide +kernel, ak_w 224 (by decide +kernel) (by decide +kernel), ak_w 208 (by decide +kernel) (by decide +kernel)⟩
theorem rk_RX1_7 : ak_okr RX1 7 (15, 53, 4, 0) := ⟨q_53, rfl, mk_53, by decide +kernel, by decide, ak_w 553 (by decide +kernel) (by decide +kernel), ak_w 1529 (by decide +kernel) (by decide +kernel), ak_w 225 (by decide +kernel) (by decide +kernel), ak_w 554 (by decide +kernel) (by decide +kernel)⟩
theorem rk_RX2_3 : ak_okr RX2 3 (14, 4, 0, 4) := ⟨q_4, (RX4, TX4, 0), rfl, mk_4, rfl, rfl, rfl, rfl, by decide +kernel, ak_w 217 (by decide +kernel) (by decide +kernel), ak_w 201 (by decide +kernel) (by decide +kernel)⟩
theorem rk_RX2_9 : ak_okr RX2 9 (15, 55, 4, 0) := ⟨q_55, rfl, mk_55, by decide +kernel, by decide, ak_w 560 (by decide +kernel) (by decide +kernel), ak_w 1530 (by decide +kernel) (by decide +kernel), ak_w 218 (by decide +kernel) (by decide +kernel), ak_w 561 (by decide +kernel) (by decide +kernel)⟩
theorem rk_RX2_13 : ak_okr RX2 13 (18, 46, 3, 0) := ⟨q_46, rfl, mk_46, by decide +kernel, by decide, rfl, rfl, ak_w 515 (by decide +kernel) (by decide +kernel), ak_w 516 (by decide +kernel) (by decide +kernel), ak_w 218 (by decide +kernel) (by decide +kernel), ak_w 204 (by decide +kernel) (by decide +kernel), ak_w 503 (by decide +kernel) (by decide +kernel)⟩
theorem rk_RX3_1 : ak_okr RX3 1 (16, 0, 0, 0) := ak_w 196 (by decide +kernel) (by decide +kernel)
theorem rk_RX4_1 : ak_okr RX4 1 (14, 3, 0, 3) := ⟨q_3, (RX3, TX3, 0), rfl, mk_3, rfl, rfl, rfl, rfl, by decide +kernel, ak_w 203 (by decide +kernel) (by decide +kernel), ak_w 194 (by decide +kernel) (by decide +kernel)⟩
theorem rk_RX4_7 : ak_okr RX4 7 (15, 56, 4, 0) := ⟨q_56, rfl, mk_56, by decide +kernel, by decide, ak_w 563 (by decide +kernel) (by decide +kernel), ak_w 546 (by decide +kernel) (by decide +kernel), ak_w 204 (by decide +kernel) (by decide +kernel), ak_w 544 (by decide +kernel) (by decide +kernel)⟩
theorem rk_RX4_11 : ak_okr RX4 11 (13, 45, 1, 0) := ⟨q_45, rfl, mk_45, by decide +kernel, ak_w 564 (by decide +kernel) (by decide +kernel), ak_w 565 (by decide +kernel) (by decide +kernel), ak_w 524 (by decide +kernel) (by decide +kernel)⟩
theorem rk_RX5_3 : ak_okr RX5 3 (16, 0, 0, 0) := ak_w 305 (by decide +kernel) (by decide +kernel)
theorem rk_RX5_9 : ak_okr RX5 9 (1, 5, 2, 1) := ⟨(RX5, TX5, 12), rfl, by decide, ak_w 308 (by decide +kernel) (by decide +kernel), by decide +kernel⟩
theorem rk_RX5_15 : ak_okr RX5 15 (1, 5, 3, 1) := ⟨(RX5, TX5, 12), rfl, by decide, ak_w 309 (by decide +kernel) (by decide +kernel), by decide +kernel⟩
theorem rk_RX5_18 : ak_okr RX5 18 (1, 5, 4, 1) := ⟨(RX5, TX5, 12), rfl, by decide, ak_w 310 (by decide +kernel) (by decide +kernel), by decide +kernel⟩
theorem rk_RX5_22 : ak_okr RX5 22 (1, 5, 5, 1) := ⟨(RX5, TX5, 12), rfl, by decide, ak_w 311 (by decide +kernel) (by decide +kernel), by decide +kernel⟩
theorem rk_RX5_25 : ak_okr RX5 25 (1, 5, 6, 1) := ⟨(RX5, TX5, 12), rfl, by decide, ak_w 312 (by decide +kernel) (by decide +kernel), by decide +kernel⟩
theorem rk_RX5_28 : ak_okr RX5 28 (1, 5, 7, 1) := ⟨(RX5, TX5, 12), rfl, by decide, ak_w 313 (by decide +kernel) (by decide +kernel), by decide +kernel⟩
theorem rk_RX5_31 : ak_okr RX5 31 (1, 5, 8, 1) := ⟨(RX5, TX5, 12), rfl, by decide, ak_w 314 (by decide +kernel) (by decide +kernel), by decide +kernel⟩
theorem rk_RX5_34 : ak_okr RX5 34 (1, 5, 9, 1) := ⟨(RX5, TX5, 12), rfl, by decide, ak_w 315 (by decide +kernel) (by decide +kernel), by decide +kernel⟩
theorem rk_RX5_37 : ak_okr RX5 37 (1, 5, 0, 1) := ⟨(RX5, TX5, 12), rfl, by decide, ak_w 306 (by decide +kernel) (by decide +kernel), by decide +kernel⟩
theorem rk_RX5_41 : ak_okr RX5 41 (1, 5, 1, 0) := ⟨(RX5, TX5, 12), rfl, by decide, ak_w 307 (by decide +kernel) (by decide +kernel), by decide +kernel⟩
theorem rk_RX5_45 : ak_okr RX5 45 (8, 102, 1, 8) := ⟨q_102, (RX8, TX8, 12), rfl, mk_102, rfl, rfl, by decide +kernel, ak_w 773 (by decide +kernel) (by decide +kernel), ak_w 774 (by decide +kernel) (by decide +kernel), ak_w 775 (by decide +kernel) (by decide +kernel)⟩
theorem rk_RX5_51 : ak_okr RX5 51 (1, 8, 4, 0) := ⟨(RX8, TX8, 12), rfl, by decide, ak_w 134 (by decide +kernel) (by decide +kernel), by decide +kernel⟩
theorem rk_RX5_55 : ak_okr RX5 55 (8, 104, 1, 5) := ⟨q_104, (RX5, TX5, 12), rfl, mk_104, rfl, rfl, by decide +kernel, ak_w 784 (by decide +kernel) (by decide +kernel), ak_w 786 (by decide +kernel) (by decide +kernel), ak_w 25 (by decide +kernel) (by decide +kernel)⟩
theorem rk_RX5_59 : ak_okr RX5 59 (8, 106, 0, 5) := ⟨q_106, (RX5, TX5, 12), rfl, mk_106, rfl, rfl, by decide +kernel, ak_w 795 (by decide +kernel) (by decide +kernel), ak_w 797 (by decide +kernel) (by decide +kernel), ak_w 27 (by decide +kernel) (by decide +kernel)⟩
theorem rk_RX5_62 : ak_okr RX5 62 (8, 49, 3, 6) := ⟨q_49, (RX6, TX6, 5), rfl, mk_49, rfl, rfl, by decide +kernel, ak_w 788 (by decide +kernel) (by decide +kernel), ak_w 536 (by decide +kernel) (by decide +kernel), ak_w 537 (by decide +kernel) (by decide +kernel)⟩
theorem rk_RX5_67 : ak_okr RX5 67 (8, 29, 3, 6) := ⟨q_29, (RX6, TX6, 5), rfl, mk_29, rfl, rfl, by decide +kernel, ak_w 789 (by decide +kernel) (by decide +kernel), ak_w 459 (by decide +kernel) (by decide +kernel), ak_w 460 (by decide +kernel) (by decide +kernel)⟩
theorem rk_RX5_71 : ak_okr RX5 71 (8, 28, 2, 8) := ⟨q_28, (RX8, TX8, 12), rfl, mk_28, rfl, rfl, by decide +kernel, ak_w 790 (by decide +kernel) (by decide +kernel), ak_w 454 (by decide +kernel) (by decide +kernel), ak_w 455 (by decide +kernel) (by decide +kernel)⟩
theorem rk_RX5_75 : ak_okr RX5 75 (8, 105, 1, 5) := ⟨q_105, (RX5, TX5, 12), rfl, mk_105, rfl, rfl, by decide +kernel, ak_w 791 (by decide +kernel) (by decide +kernel), ak_w 793 (by decide +kernel) (by decide +kernel), ak_w 26 (by decide +kernel) (by decide +kernel)⟩
theorem rk_RX5_79 : ak_okr RX5 79 (1, 8, 10, 1) := ⟨(RX8, TX8, 12), rfl, by decide, ak_w 152 (by decide +kernel) (by decide +kernel), by decide +kernel⟩
theorem rk_RX5_82 : ak_okr RX5 82 (12, 26, 1, 0) := ⟨q_26, rfl, mk_26, by decide +kernel, by decide +kernel, ak_w 447 (by decide +kernel) (by decide +kernel)⟩
theorem rk_RX5_85 : ak_okr RX5 85 (8, 16, 1, 8) := ⟨q_16, (RX8, TX8, 12), rfl, mk_16, rfl, rfl, by decide +kernel, ak_w 886 (by decide +kernel) (by decide +kernel), ak_w 401 (by decide +kernel) (by decide +kernel), ak_w 402 (by decide +kernel) (by decide +kernel)⟩
theorem rk_RX5_88 : ak_okr RX5 88 (8, 108, 1, 5) := ⟨q_108, (RX5, TX5, 12), rfl, mk_108, rfl, rfl, by decide +kernel, ak_w 804 (by decide +kernel) (by decide +kernel), ak_w 806 (by decide +kernel) (by decide +kernel), ak_w 28 (by decide +kernel) (by decide +kernel)⟩
theorem rk_RX5_91 : ak_okr RX5 91 (11, 36, 2, 0) := ⟨q_36, rfl, mk_36, by decide +kernel, ak_w 865 (by decide +kernel) (by decide +kernel), ak_w 487 (by decide +kernel) (by decide +kernel)⟩
theorem rk_RX5_96 : ak_okr RX5 96 (8, 110, 0, 5) := ⟨q_110, (RX5, TX5, 12), rfl, mk_110, rfl, rfl, by decide +kernel, ak_w 812 (by decide +kernel) (by decide +kernel), ak_w 813 (by decide +kernel) (by decide +kernel), ak_w 814 (by decide +kernel) (by decide +kernel)⟩
theorem rk_RX5_100 : ak_okr RX5 100 (8, 107, 1, 5) := ⟨q_107, (RX5, TX5, 12), rfl, mk_107, rfl, rfl, by decide +kernel, ak_w 816 (by decide +kernel) (by decide +kernel), ak_w 801 (by decide +kernel) (by decide +kernel), ak_w 802 (by decide +kernel) (by decide +kernel)⟩
theorem rk_RX5_103 : ak_okr RX5 103 (1, 5, 10, 0) := ⟨(RX5, TX5, 12), rfl, by decide, ak_w 316 (by decide +kernel) (by decide +kernel), by decide +kernel⟩
theorem rk_RX5_107 : ak_okr RX5 107 (1, 5, 11, 0) := ⟨(RX5, TX5, 12), rfl, by decide, ak_w 317 (by decide +kernel) (by decide +kernel), by decide +kernel⟩
theorem rk_RX5_110 : ak_okr RX5 110 (8, 116, 0, 5) := ⟨q_116, (RX5, TX5, 12), rfl, mk_116, rfl, rfl, by decide +kernel, ak_w 839 (by decide +kernel) (by decide +kernel), ak_w 841 (by decide +kernel) (by decide +kernel), ak_w 29 (by decide +kernel) (by decide +kernel)⟩
theorem rk_RX5_113 : ak_okr RX5 113 (8, 117, 0, 5) := ⟨q_117, (RX5, TX5, 12), rfl, mk_117, rfl, rfl, by decide +kernel, ak_w 843 (by decide +kernel) (by decide +kernel), ak_w 845 (by decide +kernel) (by decide +kernel), ak_w 30 (by decide +kernel) (by decide +kernel)⟩
theorem rk_RX5_118 : ak_okr RX5 118 (4, 0, 0, 2147483647) := ak_w 848 (by decide +kernel) (by decide +kernel)
theorem rk_RX5_119 : ak_okr RX5 119 (8, 118, 3, 5) := ⟨q_118, (RX5, TX5, 12), rfl, mk_118, rfl, rfl, by decide +kernel, ak_w 849 (by decide +kernel) (by decide +kernel), ak_w 851 (by decide +kernel) (by decide +kernel), ak_w 31 (by decide +kernel) (by decide +kernel)⟩
theorem rk_RX5_123 : ak_okr RX5 123 (11, 50, 2, 0) := ⟨q_50, rfl, mk_50, by decide +kernel, ak_w 847 (by decide +kernel) (by decide +kernel), ak_w 541 (by decide +kernel) (by decide +kernel)⟩
theorem rk_RX5_126 : ak_okr RX5 126 (8, 119, 1, 5) := ⟨q_119, (RX5, TX5, 12), rfl, mk_119, rfl, rfl, by decide +kernel, ak_w 853 (by decide +kernel) (by decide +kernel), ak_w 855 (by decide +kernel) (by decide +kernel), ak_w 32 (by decide +kernel) (by decide +kernel)⟩
theorem rk_RX5_129 : ak_okr RX5 129 (8, 120, 1, 5) := ⟨q_120, (RX5, TX5, 12), rfl, mk_120, rfl, rfl, by decide +kernel, ak_w 857 (by decide +kernel) (by decide +kernel), ak_w 859 (by decide +kernel) (by decide +kernel), ak_w 33 (by decide +kernel) (by decide +kernel)⟩
theorem rk_RX5_132 : ak_okr RX5 132 (8, 121, 2, 5) := ⟨q_121, (RX5, TX5, 12), rfl, mk_121, rfl, rfl, by decide +kernel, ak_w 861 (by decide +kernel) (by decide +kernel), ak_w 863 (by decide +kernel) (by decide +kernel), ak_w 34 (by decide +kernel) (by decide +kernel)⟩
theorem rk_RX5_136 : ak_okr RX5 136 (8, 126, 1, 5) := ⟨q_126, (RX5, TX5, 12), rfl, mk_126, rfl, rfl, by decide +kernel, ak_w 882 (by decide +kernel) (by decide +kernel), ak_w 884 (by decide +kernel) (by decide +kernel), ak_w 35 (by decide +kernel) (by decide +kernel)⟩
theorem rk_RX5_139 : ak_okr RX5 139 (8, 127, 1, 5) := ⟨q_127, (RX5, TX5, 12), rfl, mk_127, rfl, rfl, by decide +kernel, ak_w 887 (by decide +kernel) (by decide +kernel), ak_w 889 (by decide +kernel) (by decide +kernel), ak_w 36 (by decide +kernel) (by decide +kernel)⟩
theorem rk_RX5_142 : ak_okr RX5 142 (1, 8, 9, 1) := ⟨(RX8, TX8, 12), rfl, by decide, ak_w 149 (by decide +kernel) (by decide +kernel), by decide +kernel⟩
theorem rk_RX5_145 : ak_okr RX5 145 (8, 111, 0, 5) := ⟨q_111, (RX5, TX5, 12), rfl, mk_111, rfl, rfl, by decide +kernel, ak_w 903 (by decide +kernel) (by decide +kernel), ak_w 818 (by decide +kernel) (by decide +kernel), ak_w 819 (by decide +kernel) (by decide +kernel)⟩
theorem rk_RX5_148 : ak_okr RX5 148 (8, 131, 2, 5) := ⟨q_131, (RX5, TX5, 12), rfl, mk_131, rfl, rfl, by decide +kernel, ak_w 904 (by decide +kernel) (by decide +kernel), ak_w 906 (by decide +kernel) (by decide +kernel), ak_w 37 (by decide +kernel) (by decide +kernel)⟩
theorem rk_RX5_152 : ak_okr RX5 152 (8, 109, 0, 5) := ⟨q_109, (RX5, TX5, 12), rfl, mk_109, rfl, rfl, by decide +kernel, ak_w 908 (by decide +kernel) (by decide +kernel), ak_w 809 (by decide +kernel) (by decide +kernel), ak_w 810 (by decide +kernel) (by decide +kernel)⟩
theorem rk_RX5_156 : ak_okr RX5 156 (8, 134, 1, 5) := ⟨q_134, (RX5, TX5, 12), rfl, mk_134, rfl, rfl, by decide +kernel, ak_w 917 (by decide +kernel) (by decide +kernel), ak_w 919 (by decide +kernel) (by decide +kernel), ak_w 38 (by decide +kernel) (by decide +kernel)⟩
theorem rk_RX6_3 : ak_okr RX6 3 (16, 0, 0, 0) := ak_w 187 (by decide +kernel) (by decide +kernel)
theorem rk_RX6_9 : ak_okr RX6 9 (1, 6, 0, 0) := ⟨(RX6, TX6, 5), rfl, by decide, ak_w 283 (by decide +kernel) (by decide +kernel), by decide +kernel⟩
theorem rk_RX6_15 : ak_okr RX6 15 (7, 10, 2, 0) := ⟨(RX10, TX10, 12), rfl, ak_w 188 (by decide +kernel) (by decide +kernel)⟩
theorem rk_RX6_17 : ak_okr RX6 17 (1, 6, 1, 1) := ⟨(RX6, TX6, 5), rfl, by decide, ak_w 285 (by decide +kernel) (by decide +kernel), by decide +kernel⟩
theorem rk_RX6_21 : ak_okr RX6 21 (7, 3, 3, 0) := ⟨(RX3, TX3, 0), rfl, ak_w 190 (by decide +kernel) (by decide +kernel)⟩
theorem rk_RX6_23 : ak_okr RX6 23 (14, 3, 0, 3) := ⟨q_3, (RX3, TX3, 0), rfl, mk_3, rfl, rfl, rfl, rfl, by decide +kernel, ak_w 193 (by decide +kernel) (by decide +kernel), ak_w 194 (by decide +kernel) (by decide +kernel)⟩
theorem rk_RX6_24 : ak_okr RX6 24 (7, 4, 0, 0) := ⟨(RX4, TX4, 0), rfl, ak_w 198 (by decide +kernel) (by decide +kernel)⟩
theorem rk_RX6_26 : ak_okr RX6 26 (14, 4, 0, 4) := ⟨q_4, (RX4, TX4, 0), rfl, mk_4, rfl, rfl, rfl, rfl, by decide +kernel, ak_w 200 (by decide +kernel) (by decide +kernel), ak_w 201 (by decide +kernel) (by decide +kernel)⟩
theorem rk_RX6_27 : ak_okr RX6 27 (7, 9, 0, 0) := ⟨(RX9, TX9, 0), rfl, ak_w 205 (by decide +kernel) (by decide +kernel)⟩
theorem rk_RX6_29 : ak_okr RX6 29 (14, 5, 0, 9) := ⟨q_5, (RX9, TX9, 0), rfl, mk_5, rfl, rfl, rfl, rfl, by decide +kernel, ak_w 207 (by decide +kernel) (by decide +kernel), ak_w 208 (by decide +kernel) (by decide +kernel)⟩
theorem rk_RX6_30 : ak_okr RX6 30 (7, 2, 0, 0) := ⟨(RX2, TX2, 0), rfl, ak_w 212 (by decide +kernel) (by decide +kernel)⟩
theorem rk_RX6_32 : ak_okr RX6 32 (14, 6, 0, 2) := ⟨q_6, (RX2, TX2, 0), rfl, mk_6, rfl, rfl, rfl, rfl, by decide +kernel, ak_w 214 (by decide +kernel) (by decide +kernel), ak_w 215 (by decide +kernel) (by decide +kernel)⟩
theorem rk_RX6_33 : ak_okr RX6 33 (7, 1, 0, 0) := ⟨(RX1, TX1, 0), rfl, ak_w 219 (by decide +kernel) (by decide +kernel)⟩
theorem rk_RX6_35 : ak_okr RX6 35 (14, 7, 0, 1) := ⟨q_7, (RX1, TX1, 0), rfl, mk_7, rfl, rfl, rfl, rfl, by decide +kernel, ak_w 221 (by decide +kernel) (by decide +kernel), ak_w 222 (by decide +kernel) (by decide +kernel)⟩
theorem rk_RX6_36 : ak_okr RX6 36 (7, 0, 0, 0) := ⟨(RX0, TX0, 0), rfl, ak_w 226 (by decide +kernel) (by decide +kernel)⟩
theorem rk_RX6_38 : ak_okr RX6 38 (14, 8, 0, 0) := ⟨q_8, (RX0, TX0, 0), rfl, mk_8, rfl, rfl, rfl, rfl, by decide +kernel, ak_w 228 (by decide +kernel) (by decide +kernel), ak_w 229 (by decide +kernel) (by decide +kernel)⟩
theorem rk_RX6_39 : ak_okr RX6 39 (1, 6, 2, 1) := ⟨(RX6, TX6, 5), rfl, by decide, ak_w 286 (by decide +kernel) (by decide +kernel), by decide +kernel⟩
theorem rk_RX6_43 : ak_okr RX6 43 (1, 6, 3, 1) := ⟨(RX6, TX6, 5), rfl, by decide, ak_w 287 (by decide +kernel) (by decide +kernel), by decide +kernel⟩
theorem rk_RX6_47 : ak_okr RX6 47 (1, 6, 4, 1) := ⟨(RX6, TX6, 5), rfl, by decide, ak_w 288 (by decide +kernel) (by decide +kernel), by decide +kernel⟩
theorem rk_RX6_50 : ak_okr RX6 50 (14, 9, 1, 10) := ⟨q_9, (RX10, TX10, 12), rfl, mk_9, rfl, rfl, rfl, rfl, by decide +kernel, ak_w 234 (by decide +kernel) (by decide +kernel), ak_w 235 (by decide +kernel) (by decide +kernel)⟩
theorem rk_RX6_53 : ak_okr RX6 53 (8, 10, 1, 10) := ⟨q_10, (RX10, TX10, 12), rfl, mk_10, rfl, rfl, by decide +kernel, ak_w 275 (by decide +kernel) (by decide +kernel), ak_w 276 (by decide +kernel) (by decide +kernel), ak_w 277 (by decide +kernel) (by decide +kernel)⟩
theorem rk_RX6_57 : ak_okr RX6 57 (8, 11, 0, 10) := ⟨q_11, (RX10, TX10, 12), rfl, mk_11, rfl, rfl, by decide +kernel, ak_w 279 (by decide +kernel) (by decide +kernel), ak_w 280 (by decide +kernel) (by decide +kernel), ak_w 281 (by decide +kernel) (by decide +kernel)⟩
theorem rk_RX6_60 : ak_okr RX6 60 (8, 40, 1, 6) := ⟨q_40, (RX6, TX6, 5), rfl, mk_40, rfl, rfl, by decide +kernel, ak_w 498 (by decide +kernel) (by decide +kernel), ak_w 500 (by decide +kernel) (by decide +kernel), ak_w 3 (by decide +kernel) (by decide +kernel)⟩
theorem rk_RX6_64 : ak_okr RX6 64 (8, 30, 3, 6) := ⟨q_30, (RX6, TX6, 5), rfl, mk_30, rfl, rfl, by decide +kernel, ak_w 462 (by decide +kernel) (by decide +kernel), ak_w 464 (by decide +kernel) (by decide +kernel), ak_w 1 (by decide +kernel) (by decide +kernel)⟩
theorem rk_RX6_68 : ak_okr RX6 68 (1, 8, 3, 0) := ⟨(RX8, TX8, 12), rfl, by decide, ak_w 131 (by decide +kernel) (by decide +kernel), by decide +kernel⟩
theorem rk_RX6_73 : ak_okr RX6 73 (8, 34, 1, 6) := ⟨q_34, (RX6, TX6, 5), rfl, mk_34, rfl, rfl, by decide +kernel, ak_w 478 (by decide +kernel) (by decide +kernel), ak_w 479 (by decide +kernel) (by decide +kernel), ak_w 480 (by decide +kernel) (by decide +kernel)⟩
theorem rk_RX6_77 : ak_okr RX6 77 (8, 35, 3, 10) := ⟨q_35, (RX10, TX10, 12), rfl, mk_35, rfl, rfl, by decide +kernel, ak_w 482 (by decide +kernel) (by decide +kernel), ak_w 483 (by decide +kernel) (by decide +kernel), ak_w 484 (by decide +kernel) (by decide +kernel)⟩
theorem rk_RX6_81 : ak_okr RX6 81 (11, 36, 2, 0) := ⟨q_36, rfl, mk_36, by decide +kernel, ak_w 539 (by decide +kernel) (by decide +kernel), ak_w 487 (by decide +kernel) (by decide +kernel)⟩
theorem rk_RX6_87 : ak_okr RX6 87 (11, 50, 2, 0) := ⟨q_50, rfl, mk_50, by decide +kernel, ak_w 540 (by decide +kernel) (by decide +kernel), ak_w 541 (by decide +kernel) (by decide +kernel)⟩
theorem rk_RX6_90 : ak_okr RX6 90 (1, 8, 5, 1) := ⟨(RX8, TX8, 12), rfl, by decide, ak_w 137 (by decide +kernel) (by decide +kernel), by decide +kernel⟩
theorem rk_RX6_92 : ak_okr RX6 92 (8, 32, 2, 8) := ⟨q_32, (RX8, TX8, 12), rfl, mk_32, rfl, rfl, by decide +kernel, ak_w 470 (by decide +kernel) (by decide +kernel), ak_w 471 (by decide +kernel) (by decide +kernel), ak_w 472 (by decide +kernel) (by decide +kernel)⟩
theorem rk_RX6_96 : ak_okr RX6 96 (1, 8, 6, 1) := ⟨(RX8, TX8, 12), rfl, by decide, ak_w 140 (by decide +kernel) (by decide +kernel), by decide +kernel⟩
theorem rk_RX6_99_0 : ∃ (m : ak_Q) (q : vw_C), ak_M[51]? = some m ∧ ak_mok m ∧ vwCl[0]? = some q ∧ Cond.selects q.1 q_56.1 m.1 ∈ ak_Ts ∧ Cond.instanceMethod m.1 ∈ ak_Ts := ⟨q_51, (RX0, TX0, 0), rfl, mk_51, rfl, ak_w 547 (by decide +kernel) (by decide +kernel), ak_w 548 (by decide +kernel) (by decide +kernel)⟩
theorem rk_RX6_99_1 : ∃ (m : ak_Q) (q : vw_C), ak_M[52]? = some m ∧ ak_mok m ∧ vwCl[1]? = some q ∧ Cond.selects q.1 q_56.1 m.1 ∈ ak_Ts ∧ Cond.instanceMethod m.1 ∈ ak_Ts := ⟨q_52, (RX1, TX1, 0), rfl, mk_52, rfl, ak_w 550 (by decide +kernel) (by decide +kernel), ak_w 551 (by decide +kernel) (by decide +kernel)⟩
theorem rk_RX6_99_2 : ∃ (m : ak_Q) (q : vw_C), ak_M[54]? = some m ∧ ak_mok m ∧ vwCl[2]? = some q ∧ Cond.selects q.1 q_56.1 m.1 ∈ ak_Ts ∧ Cond.instanceMethod m.1 ∈ ak_Ts := ⟨q_54, (RX2, TX2, 0), rfl, mk_54, rfl, ak_w 557 (by decide +kernel) (by decide +kernel), ak_w 558 (by decide +kernel) (by decide +kernel)⟩
theorem rk_RX6_99_3 : ∃ (m : ak_Q) (q : vw_C), ak_M[56]? = some m ∧ ak_mok m ∧ vwCl[3]? = some q ∧ Cond.selects q.1 q_56.1 m.1 ∈ ak_Ts ∧ Cond.instanceMethod m.1 ∈ ak_Ts := ⟨q_56, (RX3, TX3, 0), rfl, mk_56, rfl, ak_w 545 (by decide +kernel) (by decide +kernel), ak_w 544 (by decide +kernel) (by decide +kernel)⟩
theorem rk_RX6_99_4 : ∃ (m : ak_Q) (q : vw_C), ak_M[55]? = some m ∧ ak_mok m ∧ vwCl[4]? = some q ∧ Cond.selects q.1 q_56.1 m.1 ∈ ak_Ts ∧ Cond.instanceMethod m.1 ∈ ak_Ts := ⟨q_55, (RX4, TX4, 0), rfl, mk_55, rfl, ak_w 566 (by decide +kernel) (by decide +kernel), ak_w 561 (by decide +kernel) (by decide +kernel)⟩
theorem rk_RX6_99_9 : ∃ (m : ak_Q) (q : vw_C), ak_M[53]? = some m ∧ ak_mok m ∧ vwCl[9]? = some q ∧ Cond.selects q.1 q_56.1 m.1 ∈ ak_Ts ∧ Cond.instanceMethod m.1 ∈ ak_Ts := ⟨q_53, (RX9, TX9, 0), rfl, mk_53, rfl, ak_w 567 (by decide +kernel) (by decide +kernel), ak_w 554 (by decide +kernel) (by decide +kernel)⟩
theorem rk_RX6_99 : ak_okr RX6 99 (10, 0, 4, 0) := ⟨q_56, mk_56, rfl, ak_w 543 (by decide +kernel) (by decide +kernel), ak_w 546 (by decide +kernel) (by decide +kernel), ak_w 544 (by decide +kernel) (by decide +kernel), by decide +kernel, by
    intro c mi h
    match c, h with
    | 0, h => cases h; exact rk_RX6_99_0
    | 1, h => cases h; exact rk_RX6_99_1
    | 2, h => cases h; exact rk_RX6_99_2
    | 3, h => cases h; exact rk_RX6_99_3
    | 4, h => cases h; exact rk_RX6_99_4
    | 9, h => cases h; exact rk_RX6_99_9
    | 5, h => cases h
    | 6, h => cases h
    | 7, h => cases h
    | 8, h => cases h
    | c + 10, h => cases h⟩
theorem rk_RX6_103_0 : ∃ (m : ak_Q) (q : vw_C), ak_M[41]? = some m ∧ ak_mok m ∧ vwCl[0]? = some q ∧ Cond.selects q.1 q_46.1 m.1 ∈ ak_Ts ∧ Cond.instanceMethod m.1 ∈ ak_Ts := ⟨q_41, (RX0, TX0, 0), rfl, mk_41, rfl, ak_w 506 (by decide +kernel) (by decide +kernel), ak_w 507 (by decide +kernel) (by decide +kernel)⟩
theorem rk_RX6_103_1 : ∃ (m : ak_Q) (q : vw_C), ak_M[42]? = some m ∧ ak_mok m ∧ vwCl[1]? = some q ∧ Cond.selects q.1 q_46.1 m.1 ∈ ak_Ts ∧ Cond.instanceMethod m.1 ∈ ak_Ts := ⟨q_42, (RX1, TX1, 0), rfl, mk_42, rfl, ak_w 509 (by decide +kernel) (by decide +kernel), ak_w 510 (by decide +kernel) (by decide +kernel)⟩
theorem rk_RX6_103_2 : ∃ (m : ak_Q) (q : vw_C), ak_M[43]? = some m ∧ ak_mok m ∧ vwCl[2]? = some q ∧ Cond.selects q.1 q_46.1 m.1 ∈ ak_Ts ∧ Cond.instanceMethod m.1 ∈ ak_Ts := ⟨q_43, (RX2, TX2, 0), rfl, mk_43, rfl, ak_w 512 (by decide +kernel) (by decide +kernel), ak_w 513 (by decide +kernel) (by decide +kernel)⟩
theorem rk_RX6_103_3 : ∃ (m : ak_Q) (q : vw_C), ak_M[46]? = some m ∧ ak_mok m ∧ vwCl[3]? = some q ∧ Cond.selects q.1 q_46.1 m.1 ∈ ak_Ts ∧ Cond.instanceMethod m.1 ∈ ak_Ts := ⟨q_46, (RX3, TX3, 0), rfl, mk_46, rfl, ak_w 504 (by decide +kernel) (by decide +kernel), ak_w 503 (by decide +kernel) (by decide +kernel)⟩
theorem rk_RX6_103_4 : ∃ (m : ak_Q) (q : vw_C), ak_M[46]? = some m ∧ ak_mok m ∧ vwCl[4]? = some q ∧ Cond.selects q.1 q_46.1 m.1 ∈ ak_Ts ∧ Cond.instanceMethod m.1 ∈ ak_Ts := ⟨q_46, (RX4, TX4, 0), rfl, mk_46, rfl, ak_w 518 (by decide +kernel) (by decide +kernel), ak_w 503 (by decide +kernel) (by decide +kernel)⟩
theorem rk_RX6_103_9 : ∃ (m : ak_Q) (q : vw_C), ak_M[44]? = some m ∧ ak_mok m ∧ vwCl[9]? = some q ∧ Cond.selects q.1 q_46.1 m.1 ∈ ak_Ts ∧ Cond.instanceMethod m.1 ∈ ak_Ts := ⟨q_44, (RX9, TX9, 0), rfl, mk_44, rfl, ak_w 519 (by decide +kernel) (by decide +kernel), ak_w 520 (by decide +kernel) (by decide +kernel)⟩
theorem rk_RX6_103 : ak_okr RX6 103 (10, 2, 3, 0) := ⟨q_46, mk_46, rfl, ak_w 502 (by decide +kernel) (by decide +kernel), ak_w 505 (by decide +kernel) (by decide +kernel), ak_w 503 (by decide +kernel) (by decide +kernel), by decide +kernel, by
    intro c mi h
    match c, h with
    | 0, h => cases h; exact rk_RX6_103_0
    | 1, h => cases h; exact rk_RX6_103_1
    | 2, h => cases h; exact rk_RX6_103_2
    | 3, h => cases h; exact rk_RX6_103_3
    | 4, h => cases h; exact rk_RX6_103_4
    | 9, h => cases h; exact rk_RX6_103_9
    | 5, h => cases h
    | 6, h => cases h
    | 7, h => cases h
    | 8, h => cases h
    | c + 10, h => cases h⟩
theorem rk_RX6_107 : ak_okr RX6 107 (8, 48, 2, 6) := ⟨q_48, (RX6, TX6, 5), rfl, mk_48, rfl, rfl, by decide +kernel, ak_w 573 (by decide +kernel) (by decide +kernel), ak_w 532 (by decide +kernel) (by decide +kernel), ak_w 533 (by decide +kernel) (by decide +kernel)⟩
theorem rk_RX6_111 : ak_okr RX6 111 (8, 31, 2, 6) := ⟨q_31, (RX6, TX6, 5), rfl, mk_31, rfl, rfl, by decide +kernel, ak_w 466 (by decide +kernel) (by decide +kernel), ak_w 468 (by decide +kernel) (by decide +kernel), ak_w 2 (by decide +kernel) (by decide +kernel)⟩
theorem rk_RX6_115_0 : ∃ (m : ak_Q) (q : vw_C), ak_M[58]? = some m ∧ ak_mok m ∧ vwCl[0]? = some q ∧ Cond.selects q.1 q_62.1 m.1 ∈ ak_Ts ∧ Cond.instanceMethod m.1 ∈ ak_Ts := ⟨q_58, (RX0, TX0, 0), rfl, mk_58, rfl, ak_w 578 (by decide +kernel) (by decide +kernel), ak_w 579 (by decide +kernel) (by decide +kernel)⟩
theorem rk_RX6_115_1 : ∃ (m : ak_Q) (q : vw_C), ak_M[59]? = some m ∧ ak_mok m ∧ vwCl[1]? = some q ∧ Cond.selects q.1 q_62.1 m.1 ∈ ak_Ts ∧ Cond.instanceMethod m.1 ∈ ak_Ts := ⟨q_59, (RX1, TX1, 0), rfl, mk_59, rfl, ak_w 582 (by decide +kernel) (by decide +kernel), ak_w 583 (by decide +kernel) (by decide +kernel)⟩
theorem rk_RX6_115_2 : ∃ (m : ak_Q) (q : vw_C), ak_M[60]? = some m ∧ ak_mok m ∧ vwCl[2]? = some q ∧ Cond.selects q.1 q_62.1 m.1 ∈ ak_Ts ∧ Cond.instanceMethod m.1 ∈ ak_Ts := ⟨q_60, (RX2, TX2, 0), rfl, mk_60, rfl, ak_w 585 (by decide +kernel) (by decide +kernel), ak_w 586 (by decide +kernel) (by decide +kernel)⟩
theorem rk_RX6_115_3 : ∃ (m : ak_Q) (q : vw_C), ak_M[62]? = some m ∧ ak_mok m ∧ vwCl[3]? = some q ∧ Cond.selects q.1 q_62.1 m.1 ∈ ak_Ts ∧ Cond.instanceMethod m.1 ∈ ak_Ts := ⟨q_62, (RX3, TX3, 0), rfl, mk_62, rfl, ak_w 576 (by decide +kernel) (by decide +kernel), ak_w 575 (by decide +kernel) (by decide +kernel)⟩
theorem rk_RX6_115_4 : ∃ (m : ak_Q) (q : vw_C), ak_M[60]? = some m ∧ ak_mok m ∧ vwCl[4]? = some q ∧ Cond.selects q.1 q_62.1 m.1 ∈ ak_Ts ∧ Cond.instanceMethod m.1 ∈ ak_Ts := ⟨q_60, (RX4, TX4, 0), rfl, mk_60, rfl, ak_w 588 (by decide +kernel) (by decide +kernel), ak_w 586 (by decide +kernel) (by decide +kernel)⟩
theorem rk_RX6_115_9 : ∃ (m : ak_Q) (q : vw_C), ak_M[61]? = some m ∧ ak_mok m ∧ vwCl[9]? = some q ∧ Cond.selects q.1 q_62.1 m.1 ∈ ak_Ts ∧ Cond.instanceMethod m.1 ∈ ak_Ts := ⟨q_61, (RX9, TX9, 0), rfl, mk_61, rfl, ak_w 589 (by decide +kernel) (by decide +kernel), ak_w 590 (by decide +kernel) (by decide +kernel)⟩
theorem rk_RX6_115 : ak_okr RX6 115 (10, 1, 2, 0) := ⟨q_62, mk_62, rfl, ak_w 574 (by decide +kernel) (by decide +kernel), ak_w 577 (by decide +kernel) (by decide +kernel), ak_w 575 (by decide +kernel) (by decide +kernel), by decide +kernel, by
    intro c mi h
    match c, h with
    | 0, h => cases h; exact rk_RX6_115_0
    | 1, h => cases h; exact rk_RX6_115_1
    | 2, h => cases h; exact rk_RX6_115_2
    | 3, h => cases h; exact rk_RX6_115_3
    | 4, h => cases h; exact rk_RX6_115_4
    | 9, h => cases h; exact rk_RX6_115_9
    | 5, h => cases h
    | 6, h => cases h
    | 7, h => cases h
    | 8, h => cases h
    | c + 10, h => cases h⟩
theorem rk_RX6_118 : ak_okr RX6 118 (1, 8, 10, 1) := ⟨(RX8, TX8, 12), rfl, by decide, ak_w 153 (by decide +kernel) (by decide +kernel), by decide +kernel⟩
theorem rk_RX6_121 : ak_okr RX6 121 (8, 28, 2, 8) := ⟨q_28, (RX8, TX8, 12), rfl, mk_28, rfl, rfl, by decide +kernel, ak_w 453 (by decide +kernel) (by decide +kernel), ak_w 454 (by decide +kernel) (by decide +kernel), ak_w 455 (by decide +kernel) (by decide +kernel)⟩
theorem rk_RX6_124 : ak_okr RX6 124 (8, 49, 3, 6) := ⟨q_49, (RX6, TX6, 5), rfl, mk_49, rfl, rfl, by decide +kernel, ak_w 535 (by decide +kernel) (by decide +kernel), ak_w 536 (by decide +kernel) (by decide +kernel), ak_w 537 (by decide +kernel) (by decide +kernel)⟩
theorem rk_RX6_127 : ak_okr RX6 127 (8, 29, 3, 6) := ⟨q_29, (RX6, TX6, 5), rfl, mk_29, rfl, rfl, by decide +kernel, ak_w 458 (by decide +kernel) (by decide +kernel), ak_w 459 (by decide +kernel) (by decide +kernel), ak_w 460 (by decide +kernel) (by decide +kernel)⟩
theorem rk_RX6_130 : ak_okr RX6 130 (8, 33, 2, 8) := ⟨q_33, (RX8, TX8, 12), rfl, mk_33, rfl, rfl, by decide +kernel, ak_w 474 (by decide +kernel) (by decide +kernel), ak_w 475 (by decide +kernel) (by decide +kernel), ak_w 476 (by decide +kernel) (by decide +kernel)⟩
theorem rk_RX6_133 : ak_okr RX6 133 (1, 8, 7, 1) := ⟨(RX8, TX8, 12), rfl, by decide, ak_w 143 (by decide +kernel) (by decide +kernel), by decide +kernel⟩
theorem rk_RX6_136 : ak_okr RX6 136 (1, 8, 9, 1) := ⟨(RX8, TX8, 12), rfl, by decide, ak_w 147 (by decide +kernel) (by decide +kernel), by decide +kernel⟩
theorem rk_RX7_3 : ak_okr RX7 3 (16, 0, 0, 0) := ak_w 350 (by decide +kernel) (by decide +kernel)
theorem rk_RX7_9 : ak_okr RX7 9 (1, 7, 0, 0) := ⟨(RX7, TX7, 3), rfl, by decide, ak_w 351 (by decide +kernel) (by decide +kernel), by decide +kernel⟩
theorem rk_RX7_15 : ak_okr RX7 15 (1, 7, 2, 1) := ⟨(RX7, TX7, 3), rfl, by decide, ak_w 355 (by decide +kernel) (by decide +kernel), by decide +kernel⟩
theorem rk_RX7_19 : ak_okr RX7 19 (11, 36, 2, 0) := ⟨q_36, rfl, mk_36, by decide +kernel, ak_w 980 (by decide +kernel) (by decide +kernel), ak_w 487 (by decide +kernel) (by decide +kernel)⟩
theorem rk_RX7_25 : ak_okr RX7 25 (11, 50, 2, 0) := ⟨q_50, rfl, mk_50, by decide +kernel, ak_w 981 (by decide +kernel) (by decide +kernel), ak_w 541 (by decide +kernel) (by decide +kernel)⟩
theorem rk_RX7_28 : ak_okr RX7 28 (1, 7, 1, 0) := ⟨(RX7, TX7, 3), rfl, by decide, ak_w 353 (by decide +kernel) (by decide +kernel), by decide +kernel⟩
theorem rk_RX7_31 : ak_okr RX7 31 (8, 151, 2, 7) := ⟨q_151, (RX7, TX7, 3), rfl, mk_151, rfl, rfl, by decide +kernel, ak_w 986 (by decide +kernel) (by decide +kernel), ak_w 987 (by decide +kernel) (by decide +kernel), ak_w 988 (by decide +kernel) (by decide +kernel)⟩
theorem rk_RX8_3 : ak_okr RX8 3 (16, 0, 0, 0) := ak_w 125 (by decide +kernel) (by decide +kernel)
theorem rk_RX8_9 : ak_okr RX8 9 (1, 8, 1, 0) := ⟨(RX8, TX8, 12), rfl, by decide, ak_w 128 (by decide +kernel) (by decide +kernel), by decide +kernel⟩
theorem rk_RX8_15 : ak_okr RX8 15 (1, 8, 5, 1) := ⟨(RX8, TX8, 12), rfl, by decide, ak_w 136 (by decide +kernel) (by decide +kernel), by decide +kernel⟩
theorem rk_RX8_19 : ak_okr RX8 19 (1, 8, 6, 1) := ⟨(RX8, TX8, 12), rfl, by decide, ak_w 139 (by decide +kernel) (by decide +kernel), by decide +kernel⟩
theorem rk_RX8_22 : ak_okr RX8 22 (1, 8, 7, 1) := ⟨(RX8, TX8, 12), rfl, by decide, ak_w 142 (by decide +kernel) (by decide +kernel), by decide +kernel⟩
theorem rk_RX8_25 : ak_okr RX8 25 (1, 8, 8, 1) := ⟨(RX8, TX8, 12), rfl, by decide, ak_w 144 (by decide +kernel) (by decide +kernel), by decide +kernel⟩
theorem rk_RX8_28 : ak_okr RX8 28 (1, 8, 9, 1) := ⟨(RX8, TX8, 12), rfl, by decide, ak_w 146 (by decide +kernel) (by decide +kernel), by decide +kernel⟩
theorem rk_RX8_31 : ak_okr RX8 31 (1, 8, 10, 1) := ⟨(RX8, TX8, 12), rfl, by decide, ak_w 150 (by decide +kernel) (by decide +kernel), by decide +kernel⟩
theorem rk_RX8_34 : ak_okr RX8 34 (1, 8, 11, 1) := ⟨(RX8, TX8, 12), rfl, by decide, ak_w 154 (by decide +kernel) (by decide +kernel), by decide +kernel⟩
theorem rk_RX8_37 : ak_okr RX8 37 (1, 8, 0, 0) := ⟨(RX8, TX8, 12), rfl, by decide, ak_w 126 (by decide +kernel) (by decide +kernel), by decide +kernel⟩
theorem rk_RX8_40 : ak_okr RX8 40 (1, 8, 2, 0) := ⟨(RX8, TX8, 12), rfl, by decide, ak_w 129 (by decide +kernel) (by decide +kernel), by decide +kernel⟩
theorem rk_RX8_43 : ak_okr RX8 43 (1, 8, 3, 0) := ⟨(RX8, TX8, 12), rfl, by decide, ak_w 130 (by decide +kernel) (by decide +kernel), by decide +kernel⟩
theorem rk_RX8_46 : ak_okr RX8 46 (1, 8, 4, 0) := ⟨(RX8, TX8, 12), rfl, by decide, ak_w 133 (by decide +kernel) (by decide +kernel), by decide +kernel⟩
theorem rk_RX8_49 : ak_okr RX8 49 (8, 16, 1, 8) := ⟨q_16, (RX8, TX8, 12), rfl, mk_16, rfl, rfl, by decide +kernel, ak_w 400 (by decide +kernel) (by decide +kernel), ak_w 401 (by decide +kernel) (by decide +kernel), ak_w 402 (by decide +kernel) (by decide +kernel)⟩
theorem rk_RX8_53 : ak_okr RX8 53 (3, 0, 0, 0) := ⟨_, rfl, ak_w 408 (by decide +kernel) (by decide +kernel)⟩
theorem rk_RX8_56 : ak_okr RX8 56 (3, 1, 0, 0) := ⟨_, rfl, ak_w 410 (by decide +kernel) (by decide +kernel)⟩
theorem rk_RX8_59 : ak_okr RX8 59 (8, 19, 1, 8) := ⟨q_19, (RX8, TX8, 12), rfl, mk_19, rfl, rfl, by decide +kernel, ak_w 416 (by decide +kernel) (by decide +kernel), ak_w 418 (by decide +kernel) (by decide +kernel), ak_w 0 (by decide +kernel) (by decide +kernel)⟩
theorem rk_RX8_63 : ak_okr RX8 63 (8, 23, 3, 8) := ⟨q_23, (RX8, TX8, 12), rfl, mk_23, rfl, rfl, by decide +kernel, ak_w 432 (by decide +kernel) (by decide +kernel), ak_w 433 (by decide +kernel) (by decide +kernel), ak_w 434 (by decide +kernel) (by decide +kernel)⟩
theorem rk_RX8_67 : ak_okr RX8 67 (12, 26, 1, 0) := ⟨q_26, rfl, mk_26, by decide +kernel, by decide +kernel, ak_w 447 (by decide +kernel) (by decide +kernel)⟩
theorem rk_RX8_70 : ak_okr RX8 70 (11, 103, 1, 0) := ⟨q_103, rfl, mk_103, by decide +kernel, ak_w 777 (by decide +kernel) (by decide +kernel), ak_w 778 (by decide +kernel) (by decide +kernel)⟩
theorem rk_RX8_76 : ak_okr RX8 76 (11, 36, 2, 0) := ⟨q_36, rfl, mk_36, by decide +kernel, ak_w 783 (by decide +kernel) (by decide +kernel), ak_w 487 (by decide +kernel) (by decide +kernel)⟩
theorem rk_RX9_1 : ak_okr RX9 1 (14, 3, 0, 3) := ⟨q_3, (RX3, TX3, 0), rfl, mk_3, rfl, rfl, rfl, rfl, by decide +kernel, ak_w 210 (by decide +kernel) (by decide +kernel), ak_w 194 (by decide +kernel) (by decide +kernel)⟩
theorem rk_RX9_7 : ak_okr RX9 7 (15, 56, 4, 0) := ⟨q_56, rfl, mk_56, by decide +kernel, by decide, ak_w 556 (by decide +kernel) (by decide +kernel), ak_w 546 (by decide +kernel) (by decide +kernel), ak_w 211 (by decide +kernel) (by decide +kernel), ak_w 544 (by decide +kernel) (by decide +kernel)⟩
theorem rk_RX9_11 : ak_okr RX9 11 (13, 45, 1, 0) := ⟨q_45, rfl, mk_45, by decide +kernel, ak_w 522 (by decide +kernel) (by decide +kernel), ak_w 523 (by decide +kernel) (by decide +kernel), ak_w 524 (by decide +kernel) (by decide +kernel)⟩
theorem rk_RX10_3 : ak_okr RX10 3 (16, 0, 0, 0) := ak_w 237 (by decide +kernel) (by decide +kernel)
theorem rk_RX10_9 : ak_okr RX10 9 (1, 10, 0, 1) := ⟨(RX10, TX10, 12), rfl, by decide, ak_w 238 (by decide +kernel) (by decide +kernel), by decide +kernel⟩
theorem rk_RX10_15 : ak_okr RX10 15 (1, 10, 1, 1) := ⟨(RX10, TX10, 12), rfl, by decide, ak_w 239 (by decide +kernel) (by decide +kernel), by decide +kernel⟩
theorem rk_RX10_18 : ak_okr RX10 18 (1, 10, 4, 1) := ⟨(RX10, TX10, 12), rfl, by decide, ak_w 242 (by decide +kernel) (by decide +kernel), by decide +kernel⟩
theorem rk_RX10_21 : ak_okr RX10 21 (1, 10, 2, 0) := ⟨(RX10, TX10, 12), rfl, by decide, ak_w 240 (by decide +kernel) (by decide +kernel), by decide +kernel⟩
theorem rk_RX10_25 : ak_okr RX10 25 (8, 10, 1, 10) := ⟨q_10, (RX10, TX10, 12), rfl, mk_10, rfl, rfl, by decide +kernel, ak_w 749 (by decide +kernel) (by decide +kernel), ak_w 276 (by decide +kernel) (by decide +kernel), ak_w 277 (by decide +kernel) (by decide +kernel)⟩
theorem rk_RX10_29 : ak_okr RX10 29 (1, 10, 3, 0) := ⟨(RX10, TX10, 12), rfl, by decide, ak_w 241 (by decide +kernel) (by decide +kernel), by decide +kernel⟩
theorem rk_RX10_32 : ak_okr RX10 32 (11, 36, 2, 0) := ⟨q_36, rfl, mk_36, by decide +kernel, ak_w 486 (by decide +kernel) (by decide +kernel), ak_w 487 (by decide +kernel) (by decide +kernel)⟩
theorem rk_RX10_38 : ak_okr RX10 38 (11, 37, 2, 0) := ⟨q_37, rfl, mk_37, by decide +kernel, ak_w 489 (by decide +kernel) (by decide +kernel), ak_w 490 (by decide +kernel) (by decide +kernel)⟩
theorem rk_RX10_42 : ak_okr RX10 42 (11, 38, 2, 0) := ⟨q_38, rfl, mk_38, by decide +kernel, ak_w 492 (by decide +kernel) (by decide +kernel), ak_w 493 (by decide +kernel) (by decide +kernel)⟩
theorem rk_RX10_45 : ak_okr RX10 45 (11, 39, 3, 0) := ⟨q_39, rfl, mk_39, by decide +kernel, ak_w 495 (by decide +kernel) (by decide +kernel), ak_w 496 (by decide +kernel) (by decide +kernel)⟩
theorem rk_RX10_49 : ak_okr RX10 49 (11, 50, 2, 0) := ⟨q_50, rfl, mk_50, by decide +kernel, ak_w 612 (by decide +kernel) (by decide +kernel), ak_w 541 (by decide +kernel) (by decide +kernel)⟩
theorem rk_RX10_52 : ak_okr RX10 52 (1, 10, 5, 0) := ⟨(RX10, TX10, 12), rfl, by decide, ak_w 243 (by decide +kernel) (by decide +kernel), by decide +kernel⟩
theorem rk_RX10_55 : ak_okr RX10 55 (1, 10, 6, 0) := ⟨(RX10, TX10, 12), rfl, by decide, ak_w 244 (by decide +kernel) (by decide +kernel), by decide +kernel⟩
theorem rk_RX10_58 : ak_okr RX10 58 (1, 10, 10, 0) := ⟨(RX10, TX10, 12), rfl, by decide, ak_w 248 (by decide +kernel) (by decide +kernel), by decide +kernel⟩
theorem rk_RX10_61 : ak_okr RX10 61 (1, 10, 11, 0) := ⟨(RX10, TX10, 12), rfl, by decide, ak_w 249 (by decide +kernel) (by decide +kernel), by decide +kernel⟩
theorem rk_RX10_64 : ak_okr RX10 64 (8, 67, 0, 10) := ⟨q_67, (RX10, TX10, 12), rfl, mk_67, rfl, rfl, by decide +kernel, ak_w 613 (by decide +kernel) (by decide +kernel), ak_w 615 (by decide +kernel) (by decide +kernel), ak_w 5 (by decide +kernel) (by decide +kernel)⟩
theorem rk_RX10_67 : ak_okr RX10 67 (8, 89, 1, 10) := ⟨q_89, (RX10, TX10, 12), rfl, mk_89, rfl, rfl, by decide +kernel, ak_w 717 (by decide +kernel) (by decide +kernel), ak_w 719 (by decide +kernel) (by decide +kernel), ak_w 16 (by decide +kernel) (by decide +kernel)⟩
theorem rk_RX10_70 : ak_okr RX10 70 (8, 90, 0, 10) := ⟨q_90, (RX10, TX10, 12), rfl, mk_90, rfl, rfl, by decide +kernel, ak_w 721 (by decide +kernel) (by decide +kernel), ak_w 723 (by decide +kernel) (by decide +kernel), ak_w 17 (by decide +kernel) (by decide +kernel)⟩
theorem rk_RX10_73 : ak_okr RX10 73 (8, 11, 0, 10) := ⟨q_11, (RX10, TX10, 12), rfl, mk_11, rfl, rfl, by decide +kernel, ak_w 758 (by decide +kernel) (by decide +kernel), ak_w 280 (by decide +kernel) (by decide +kernel), ak_w 281 (by decide +kernel) (by decide +kernel)⟩
theorem rk_RX10_76 : ak_okr RX10 76 (1, 10, 8, 0) := ⟨(RX10, TX10, 12), rfl, by decide, ak_w 246 (by decide +kernel) (by decide +kernel), by decide +kernel⟩
theorem rk_RX10_79 : ak_okr RX10 79 (8, 85, 0, 10) := ⟨q_85, (RX10, TX10, 12), rfl, mk_85, rfl, rfl, by decide +kernel, ak_w 701 (by decide +kernel) (by decide +kernel), ak_w 703 (by decide +kernel) (by decide +kernel), ak_w 12 (by decide +kernel) (by decide +kernel)⟩
theorem rk_RX10_82 : ak_okr RX10 82 (8, 91, 0, 10) := ⟨q_91, (RX10, TX10, 12), rfl, mk_91, rfl, rfl, by decide +kernel, ak_w 725 (by decide +kernel) (by decide +kernel), ak_w 727 (by decide +kernel) (by decide +kernel), ak_w 18 (by decide +kernel) (by decide +kernel)⟩
theorem rk_RX10_85 : ak_okr RX10 85 (8, 92, 0, 10) := ⟨q_92, (RX10, TX10, 12), rfl, mk_92, rfl, rfl, by decide +kernel, ak_w 729 (by decide +kernel) (by decide +kernel), ak_w 731 (by decide +kernel) (by decide +kernel), ak_w 19 (by decide +kernel) (by decide +kernel)⟩
theorem rk_RX10_88 : ak_okr RX10 88 (8, 93, 0, 10) := ⟨q_93, (RX10, TX10, 12), rfl, mk_93, rfl, rfl, by decide +kernel, ak_w 733 (by decide +kernel) (by decide +kernel), ak_w 735 (by decide +kernel) (by decide +kernel), ak_w 20 (by decide +kernel) (by decide +kernel)⟩
theorem rk_RX10_91 : ak_okr RX10 91 (8, 98, 0, 10) := ⟨q_98, (RX10, TX10, 12), rfl, mk_98, rfl, rfl, by decide +kernel, ak_w 754 (by decide +kernel) (by decide +kernel), ak_w 756 (by decide +kernel) (by decide +kernel), ak_w 24 (by decide +kernel) (by decide +kernel)⟩
theorem rk_RX10_95 : ak_okr RX10 95 (8, 94, 0, 10) := ⟨q_94, (RX10, TX10, 12), rfl, mk_94, rfl, rfl, by decide +kernel, ak_w 737 (by decide +kernel) (by decide +kernel), ak_w 739 (by decide +kernel) (by decide +kernel), ak_w 21 (by decide +kernel) (by decide +kernel)⟩
theorem rk_RX10_98 : ak_okr RX10 98 (8, 95, 0, 10) := ⟨q_95, (RX10, TX10, 12), rfl, mk_95, rfl, rfl, by decide +kernel, ak_w 741 (by decide +kernel) (by decide +kernel), ak_w 743 (by decide +kernel) (by decide +kernel), ak_w 22 (by decide +kernel) (by decide +kernel)⟩
theorem rk_RX10_101 : ak_okr RX10 101 (8, 96, 0, 10) := ⟨q_96, (RX10, TX10, 12), rfl, mk_96, rfl, rfl, by decide +kernel, ak_w 745 (by decide +kernel) (by decide +kernel), ak_w 747 (by decide +kernel) (by decide +kernel), ak_w 23 (by decide +kernel) (by decide +kernel)⟩
theorem rk_RX10_104 : ak_okr RX10 104 (1, 10, 9, 0) := ⟨(RX10, TX10, 12), rfl, by decide, ak_w 247 (by decide +kernel) (by decide +kernel), by decide +kernel⟩
theorem rk_RX10_107 : ak_okr RX10 107 (8, 97, 1, 10) := ⟨q_97, (RX10, TX10, 12), rfl, mk_97, rfl, rfl, by decide +kernel, ak_w 750 (by decide +kernel) (by decide +kernel), ak_w 751 (by decide +kernel) (by decide +kernel), ak_w 752 (by decide +kernel) (by decide +kernel)⟩
theorem rk_RX10_110 : ak_okr RX10 110 (1, 10, 7, 0) := ⟨(RX10, TX10, 12), rfl, by decide, ak_w 245 (by decide +kernel) (by decide +kernel), by decide +kernel⟩
theorem rk_RX10_113 : ak_okr RX10 113 (8, 68, 1, 10) := ⟨q_68, (RX10, TX10, 12), rfl, mk_68, rfl, rfl, by decide +kernel, ak_w 617 (by decide +kernel) (by decide +kernel), ak_w 619 (by decide +kernel) (by decide +kernel), ak_w 6 (by decide +kernel) (by decide +kernel)⟩
theorem rk_RX10_117 : ak_okr RX10 117 (8, 69, 1, 10) := ⟨q_69, (RX10, TX10, 12), rfl, mk_69, rfl, rfl, by decide +kernel, ak_w 621 (by decide +kernel) (by decide +kernel), ak_w 623 (by decide +kernel) (by decide +kernel), ak_w 7 (by decide +kernel) (by decide +kernel)⟩
theorem rk_RX10_120 : ak_okr RX10 120 (8, 70, 0, 10) := ⟨q_70, (RX10, TX10, 12), rfl, mk_70, rfl, rfl, by decide +kernel, ak_w 625 (by decide +kernel) (by decide +kernel), ak_w 627 (by decide +kernel) (by decide +kernel), ak_w 8 (by decide +kernel) (by decide +kernel)⟩
theorem rk_RX10_123 : ak_okr RX10 123 (8, 86, 1, 10) := ⟨q_86, (RX10, TX10, 12), rfl, mk_86, rfl, rfl, by decide +kernel, ak_w 705 (by decide +kernel) (by decide +kernel), ak_w 707 (by decide +kernel) (by decide +kernel), ak_w 13 (by decide +kernel) (by decide +kernel)⟩
theorem rk_RX10_126 : ak_okr RX10 126 (8, 87, 0, 10) := ⟨q_87, (RX10, TX10, 12), rfl, mk_87, rfl, rfl, by decide +kernel, ak_w 709 (by decide +kernel) (by decide +kernel), ak_w 711 (by decide +kernel) (by decide +kernel), ak_w 14 (by decide +kernel) (by decide +kernel)⟩
theorem rk_RX10_129 : ak_okr RX10 129 (8, 88, 1, 10) := ⟨q_88, (RX10, TX10, 12), rfl, mk_88, rfl, rfl, by decide +kernel, ak_w 713 (by decide +kernel) (by decide +kernel), ak_w 715 (by decide +kernel) (by decide +kernel), ak_w 15 (by decide +kernel) (by decide +kernel)⟩
theorem rk_RX10_132 : ak_okr RX10 132 (8, 71, 0, 10) := ⟨q_71, (RX10, TX10, 12), rfl, mk_71, rfl, rfl, by decide +kernel, ak_w 629 (by decide +kernel) (by decide +kernel), ak_w 631 (by decide +kernel) (by decide +kernel), ak_w 9 (by decide +kernel) (by decide +kernel)⟩
theorem rk_RX10_136 : ak_okr RX10 136 (8, 84, 0, 10) := ⟨q_84, (RX10, TX10, 12), rfl, mk_84, rfl, rfl, by decide +kernel, ak_w 691 (by decide +kernel) (by decide +kernel), ak_w 693 (by decide +kernel) (by decide +kernel), ak_w 11 (by decide +kernel) (by decide +kernel)⟩
theorem rk_RX10_139 : ak_okr RX10 139 (5, 0, 0, 0) := ⟨rfl, _, rfl⟩
theorem rk_RX10_141 : ak_okr RX10 141 (8, 72, 1, 10) := ⟨q_72, (RX10, TX10, 12), rfl, mk_72, rfl, rfl, by decide +kernel, ak_w 634 (by decide +kernel) (by decide +kernel), ak_w 636 (by decide +kernel) (by decide +kernel), ak_w 10 (by decide +kernel) (by decide +kernel)⟩
theorem rk_RX10_145 : ak_okr RX10 145 (5, 1, 0, 0) := ⟨rfl, _, rfl⟩
theorem rk_RX10_147 : ak_okr RX10 147 (5, 2, 0, 0) := ⟨rfl, _, rfl⟩
theorem rk_RX10_149 : ak_okr RX10 149 (5, 3, 0, 0) := ⟨rfl, _, rfl⟩
theorem rk_RX10_151 : ak_okr RX10 151 (5, 4, 0, 0) := ⟨rfl, _, rfl⟩
theorem rk_RX10_153 : ak_okr RX10 153 (5, 5, 0, 0) := ⟨rfl, _, rfl⟩
theorem rk_RX10_155 : ak_okr RX10 155 (5, 6, 0, 0) := ⟨rfl, _, rfl⟩
theorem rk_RX10_157 : ak_okr RX10 157 (5, 7, 0, 0) := ⟨rfl, _, rfl⟩
theorem rk_RX10_159 : ak_okr RX10 159 (5, 8, 0, 0) := ⟨rfl, _, rfl⟩
theorem rk_RX10_161 : ak_okr RX10 161 (5, 9, 0, 0) := ⟨rfl, _, rfl⟩
theorem rk_RX10_163 : ak_okr RX10 163 (5, 10, 0, 0) := ⟨rfl, _, rfl⟩
theorem rk_RX10_165 : ak_okr RX10 165 (5, 11, 0, 0) := ⟨rfl, _, rfl⟩
theorem rk_RX10_167 : ak_okr RX10 167 (9, 73, 0, 0) := ⟨q_73, rfl, mk_73, rfl, by decide +kernel, ak_w 638 (by decide +kernel) (by decide +kernel), ak_w 639 (by decide +kernel) (by decide +kernel), ak_w 640 (by decide +kernel) (by decide +kernel)⟩
theorem rk_RX10_171 : ak_okr RX10 171 (9, 75, 1, 0) := ⟨q_75, rfl, mk_75, rfl, by decide +kernel, ak_w 648 (by decide +kernel) (by decide +kernel), ak_w 649 (by decide +kernel) (by decide +kernel), ak_w 650 (by decide +kernel) (by decide +kernel)⟩
theorem rk_RL_7 : ak_okr RL 7 (7, 11, 0, 0) := ⟨(RX11, TX11, 9), rfl, ak_w 112 (by decide +kernel) (by decide +kernel)⟩
theorem rk_RL_9 : ak_okr RL 9 (14, 0, 0, 11) := ⟨q_0, (RX11, TX11, 9), rfl, mk_0, rfl, rfl, rfl, rfl, by decide +kernel, ak_w 114 (by decide +kernel) (by decide +kernel), ak_w 115 (by decide +kernel) (by decide +kernel)⟩
theorem rk_RL_10 : ak_okr RL 10 (7, 12, 0, 0) := ⟨(RX12, TX12, 44), rfl, ak_w 1059 (by decide +kernel) (by decide +kernel)⟩
theorem rk_RL_12 : ak_okr RL 12 (14, 168, 0, 12) := ⟨q_168, (RX12, TX12, 44), rfl, mk_168, rfl, rfl, rfl, rfl, by decide +kernel, ak_w 1061 (by decide +kernel) (by decide +kernel), ak_w 1062 (by decide +kernel) (by decide +kernel)⟩
theorem rk_RL_13 : ak_okr RL 13 (8, 14, 3, 11) := ⟨q_14, (RX11, TX11, 9), rfl, mk_14, rfl, rfl, by decide +kernel, ak_w 392 (by decide +kernel) (by decide +kernel), ak_w 393 (by decide +kernel) (by decide +kernel), ak_w 394 (by decide +kernel) (by decide +kernel)⟩
theorem rk_RL_17 : ak_okr RL 17 (8, 170, 3, 12) := ⟨q_170, (RX12, TX12, 44), rfl, mk_170, rfl, rfl, by decide +kernel, ak_w 1201 (by decide +kernel) (by decide +kernel), ak_w 1202 (by decide +kernel) (by decide +kernel), ak_w 1203 (by decide +kernel) (by decide +kernel)⟩
theorem rk_RL_18 : ak_okr RL 18 (8, 21, 3, 11) := ⟨q_21, (RX11, TX11, 9), rfl, mk_21, rfl, rfl, by decide +kernel, ak_w 424 (by decide +kernel) (by decide +kernel), ak_w 425 (by decide +kernel) (by decide +kernel), ak_w 426 (by decide +kernel) (by decide +kernel)⟩
theorem rk_RL_21 : ak_okr RL 21 (8, 200, 3, 12) := ⟨q_200, (RX12, TX12, 44), rfl, mk_200, rfl, rfl, by decide +kernel, ak_w 1332 (by decide +kernel) (by decide +kernel), ak_w 1333 (by decide +kernel) (by decide +kernel), ak_w 1334 (by decide +kernel) (by decide +kernel)⟩
theorem rk_RL_22 : ak_okr RL 22 (8, 24, 3, 11) := ⟨q_24, (RX11, TX11, 9), rfl, mk_24, rfl, rfl, by decide +kernel, ak_w 436 (by decide +kernel) (by decide +kernel), ak_w 437 (by decide +kernel) (by decide +kernel), ak_w 438 (by decide +kernel) (by decide +kernel)⟩
theorem rk_RL_25 : ak_okr RL 25 (8, 202, 3, 12) := ⟨q_202, (RX12, TX12, 44), rfl, mk_202, rfl, rfl, by decide +kernel, ak_w 1342 (by decide +kernel) (by decide +kernel), ak_w 1343 (by decide +kernel) (by decide +kernel), ak_w 1344 (by decide +kernel) (by decide +kernel)⟩
theorem rk_RL_26 : ak_okr RL 26 (8, 25, 2, 11) := ⟨q_25, (RX11, TX11, 9), rfl, mk_25, rfl, rfl, by decide +kernel, ak_w 442 (by decide +kernel) (by decide +kernel), ak_w 443 (by decide +kernel) (by decide +kernel), ak_w 444 (by decide +kernel) (by decide +kernel)⟩
theorem rk_RL_30 : ak_okr RL 30 (8, 203, 2, 12) := ⟨q_203, (RX12, TX12, 44), rfl, mk_203, rfl, rfl, by decide +kernel, ak_w 1346 (by decide +kernel) (by decide +kernel), ak_w 1347 (by decide +kernel) (by decide +kernel), ak_w 1348 (by decide +kernel) (by decide +kernel)⟩
theorem rk_RL_31 : ak_okr RL 31 (8, 47, 2, 11) := ⟨q_47, (RX11, TX11, 9), rfl, mk_47, rfl, rfl, by decide +kernel, ak_w 527 (by decide +kernel) (by decide +kernel), ak_w 528 (by decide +kernel) (by decide +kernel), ak_w 529 (by decide +kernel) (by decide +kernel)⟩
theorem rk_RL_34 : ak_okr RL 34 (8, 174, 2, 12) := ⟨q_174, (RX12, TX12, 44), rfl, mk_174, rfl, rfl, by decide +kernel, ak_w 1358 (by decide +kernel) (by decide +kernel), ak_w 1217 (by decide +kernel) (by decide +kernel), ak_w 1218 (by decide +kernel) (by decide +kernel)⟩
theorem rk_RL_35 : ak_okr RL 35 (8, 64, 1, 11) := ⟨q_64, (RX11, TX11, 9), rfl, mk_64, rfl, rfl, by decide +kernel, ak_w 599 (by decide +kernel) (by decide +kernel), ak_w 600 (by decide +kernel) (by decide +kernel), ak_w 601 (by decide +kernel) (by decide +kernel)⟩
theorem rk_RL_39 : ak_okr RL 39 (8, 206, 1, 12) := ⟨q_206, (RX12, TX12, 44), rfl, mk_206, rfl, rfl, by decide +kernel, ak_w 1359 (by decide +kernel) (by decide +kernel), ak_w 1360 (by decide +kernel) (by decide +kernel), ak_w 1361 (by decide +kernel) (by decide +kernel)⟩
theorem rk_RL_40 : ak_okr RL 40 (8, 65, 0, 11) := ⟨q_65, (RX11, TX11, 9), rfl, mk_65, rfl, rfl, by decide +kernel, ak_w 603 (by decide +kernel) (by decide +kernel), ak_w 604 (by decide +kernel) (by decide +kernel), ak_w 605 (by decide +kernel) (by decide +kernel)⟩
theorem rk_RL_44 : ak_okr RL 44 (8, 207, 0, 12) := ⟨q_207, (RX12, TX12, 44), rfl, mk_207, rfl, rfl, by decide +kernel, ak_w 1364 (by decide +kernel) (by decide +kernel), ak_w 1365 (by decide +kernel) (by decide +kernel), ak_w 1366 (by decide +kernel) (by decide +kernel)⟩
theorem rk_RL_45 : ak_okr RL 45 (8, 99, 1, 11) := ⟨q_99, (RX11, TX11, 9), rfl, mk_99, rfl, rfl, by decide +kernel, ak_w 760 (by decide +kernel) (by decide +kernel), ak_w 761 (by decide +kernel) (by decide +kernel), ak_w 762 (by decide +kernel) (by decide +kernel)⟩
theorem rk_RL_48 : ak_okr RL 48 (8, 208, 1, 12) := ⟨q_208, (RX12, TX12, 44), rfl, mk_208, rfl, rfl, by decide +kernel, ak_w 1368 (by decide +kernel) (by decide +kernel), ak_w 1369 (by decide +kernel) (by decide +kernel), ak_w 1370 (by decide +kernel) (by decide +kernel)⟩
theorem rk_RL_49 : ak_okr RL 49 (8, 100, 1, 11) := ⟨q_100, (RX11, TX11, 9), rfl, mk_100, rfl, rfl, by decide +kernel, ak_w 764 (by decide +kernel) (by decide +kernel), ak_w 765 (by decide +kernel) (by decide +kernel), ak_w 766 (by decide +kernel) (by decide +kernel)⟩
theorem rk_RL_52 : ak_okr RL 52 (8, 209, 1, 12) := ⟨q_209, (RX12, TX12, 44), rfl, mk_209, rfl, rfl, by decide +kernel, ak_w 1372 (by decide +kernel) (by decide +kernel), ak_w 1373 (by decide +kernel) (by decide +kernel), ak_w 1374 (by decide +kernel) (by decide +kernel)⟩
theorem rk_RL_53 : ak_okr RL 53 (8, 112, 0, 11) := ⟨q_112, (RX11, TX11, 9), rfl, mk_112, rfl, rfl, by decide +kernel, ak_w 822 (by decide +kernel) (by decide +kernel), ak_w 823 (by decide +kernel) (by decide +kernel), ak_w 824 (by decide +kernel) (by decide +kernel)⟩
theorem rk_RL_56 : ak_okr RL 56 (8, 218, 0, 12) := ⟨q_218, (RX12, TX12, 44), rfl, mk_218, rfl, rfl, by decide +kernel, ak_w 1410 (by decide +kernel) (by decide +kernel), ak_w 1411 (by decide +kernel) (by decide +kernel), ak_w 1412 (by decide +kernel) (by decide +kernel)⟩
theorem rk_RL_57 : ak_okr RL 57 (8, 114, 1, 11) := ⟨q_114, (RX11, TX11, 9), rfl, mk_114, rfl, rfl, by decide +kernel, ak_w 831 (by decide +kernel) (by decide +kernel), ak_w 832 (by decide +kernel) (by decide +kernel), ak_w 833 (by decide +kernel) (by decide +kernel)⟩
theorem rk_RL_60 : ak_okr RL 60 (8, 219, 1, 12) := ⟨q_219, (RX12, TX12, 44), rfl, mk_219, rfl, rfl, by decide +kernel, ak_w 1414 (by decide +kernel) (by decide +kernel), ak_w 1415 (by decide +kernel) (by decide +kernel), ak_w 1416 (by decide +kernel) (by decide +kernel)⟩
theorem rk_RL_61 : ak_okr RL 61 (8, 124, 1, 11) := ⟨q_124, (RX11, TX11, 9), rfl, mk_124, rfl, rfl, by decide +kernel, ak_w 874 (by decide +kernel) (by decide +kernel), ak_w 875 (by decide +kernel) (by decide +kernel), ak_w 876 (by decide +kernel) (by decide +kernel)⟩
theorem rk_RL_64 : ak_okr RL 64 (8, 223, 1, 12) := ⟨q_223, (RX12, TX12, 44), rfl, mk_223, rfl, rfl, by decide +kernel, ak_w 1430 (by decide +kernel) (by decide +kernel), ak_w 1431 (by decide +kernel) (by decide +kernel), ak_w 1432 (by decide +kernel) (by decide +kernel)⟩
theorem rk_RL_65 : ak_okr RL 65 (8, 129, 1, 11) := ⟨q_129, (RX11, TX11, 9), rfl, mk_129, rfl, rfl, by decide +kernel, ak_w 895 (by decide +kernel) (by decide +kernel), ak_w 896 (by decide +kernel) (by decide +kernel), ak_w 897 (by decide +kernel) (by decide +kernel)⟩
theorem rk_RL_68 : ak_okr RL 68 (8, 229, 1, 12) := ⟨q_229, (RX12, TX12, 44), rfl, mk_229, rfl, rfl, by decide +kernel, ak_w 1454 (by decide +kernel) (by decide +kernel), ak_w 1455 (by decide +kernel) (by decide +kernel), ak_w 1456 (by decide +kernel) (by decide +kernel)⟩
theorem rk_RL_69 : ak_okr RL 69 (8, 132, 2, 11) := ⟨q_132, (RX11, TX11, 9), rfl, mk_132, rfl, rfl, by decide +kernel, ak_w 909 (by decide +kernel) (by decide +kernel), ak_w 910 (by decide +kernel) (by decide +kernel), ak_w 911 (by decide +kernel) (by decide +kernel)⟩
theorem rk_RL_72 : ak_okr RL 72 (8, 230, 2, 12) := ⟨q_230, (RX12, TX12, 44), rfl, mk_230, rfl, rfl, by decide +kernel, ak_w 1458 (by decide +kernel) (by decide +kernel), ak_w 1459 (by decide +kernel) (by decide +kernel), ak_w 1460 (by decide +kernel) (by decide +kernel)⟩
theorem rk_RL_73 : ak_okr RL 73 (8, 135, 0, 11) := ⟨q_135, (RX11, TX11, 9), rfl, mk_135, rfl, rfl, by decide +kernel, ak_w 921 (by decide +kernel) (by decide +kernel), ak_w 922 (by decide +kernel) (by decide +kernel), ak_w 923 (by decide +kernel) (by decide +kernel)⟩
theorem rk_RL_76 : ak_okr RL 76 (8, 228, 0, 12) := ⟨q_228, (RX12, TX12, 44), rfl, mk_228, rfl, rfl, by decide +kernel, ak_w 1450 (by decide +kernel) (by decide +kernel), ak_w 1451 (by decide +kernel) (by decide +kernel), ak_w 1452 (by decide +kernel) (by decide +kernel)⟩
theorem rk_RL_77 : ak_okr RL 77 (8, 137, 3, 11) := ⟨q_137, (RX11, TX11, 9), rfl, mk_137, rfl, rfl, by decide +kernel, ak_w 929 (by decide +kernel) (by decide +kernel), ak_w 930 (by decide +kernel) (by decide +kernel), ak_w 931 (by decide +kernel) (by decide +kernel)⟩
theorem rk_RL_80 : ak_okr RL 80 (8, 231, 3, 12) := ⟨q_231, (RX12, TX12, 44), rfl, mk_231, rfl, rfl, by decide +kernel, ak_w 1462 (by decide +kernel) (by decide +kernel), ak_w 1463 (by decide +kernel) (by decide +kernel), ak_w 1464 (by decide +kernel) (by decide +kernel)⟩
theorem rk_RL_81 : ak_okr RL 81 (8, 148, 2, 11) := ⟨q_148, (RX11, TX11, 9), rfl, mk_148, rfl, rfl, by decide +kernel, ak_w 972 (by decide +kernel) (by decide +kernel), ak_w 973 (by decide +kernel) (by decide +kernel), ak_w 974 (by decide +kernel) (by decide +kernel)⟩
theorem rk_RL_84 : ak_okr RL 84 (8, 234, 2, 12) := ⟨q_234, (RX12, TX12, 44), rfl, mk_234, rfl, rfl, by decide +kernel, ak_w 1473 (by decide +kernel) (by decide +kernel), ak_w 1474 (by decide +kernel) (by decide +kernel), ak_w 1475 (by decide +kernel) (by decide +kernel)⟩
theorem rk_RL_85 : ak_okr RL 85 (8, 152, 1, 11) := ⟨q_152, (RX11, TX11, 9), rfl, mk_152, rfl, rfl, by decide +kernel, ak_w 990 (by decide +kernel) (by decide +kernel), ak_w 991 (by decide +kernel) (by decide +kernel), ak_w 992 (by decide +kernel) (by decide +kernel)⟩
theorem rk_RL_88 : ak_okr RL 88 (8, 236, 1, 12) := ⟨q_236, (RX12, TX12, 44), rfl, mk_236, rfl, rfl, by decide +kernel, ak_w 1482 (by decide +kernel) (by decide +kernel), ak_w 1483 (by decide +kernel) (by decide +kernel), ak_w 1484 (by decide +kernel) (by decide +kernel)⟩
theorem rk_RL_89 : ak_okr RL 89 (8, 154, 3, 11) := ⟨q_154, (RX11, TX11, 9), rfl, mk_154, rfl, rfl, by decide +kernel, ak_w 999 (by decide +kernel) (by decide +kernel), ak_w 1000 (by decide +kernel) (by decide +kernel), ak_w 1001 (by decide +kernel) (by decide +kernel)⟩
theorem rk_RL_93 : ak_okr RL 93 (8, 238, 3, 12) := ⟨q_238, (RX12, TX12, 44), rfl, mk_238, rfl, rfl, by decide +kernel, ak_w 1491 (by decide +kernel) (by decide +kernel), ak_w 1492 (by decide +kernel) (by decide +kernel), ak_w 1493 (by decide +kernel) (by decide +kernel)⟩
theorem rk_RL_94 : ak_okr RL 94 (8, 156, 0, 11) := ⟨q_156, (RX11, TX11, 9), rfl, mk_156, rfl, rfl, by decide +kernel, ak_w 1007 (by decide +kernel) (by decide +kernel), ak_w 1008 (by decide +kernel) (by decide +kernel), ak_w 1009 (by decide +kernel) (by decide +kernel)⟩
theorem rk_RL_97 : ak_okr RL 97 (8, 239, 0, 12) := ⟨q_239, (RX12, TX12, 44), rfl, mk_239, rfl, rfl, by decide +kernel, ak_w 1496 (by decide +kernel) (by decide +kernel), ak_w 1497 (by decide +kernel) (by decide +kernel), ak_w 1498 (by decide +kernel) (by decide +kernel)⟩
theorem rk_RL_98 : ak_okr RL 98 (8, 157, 0, 11) := ⟨q_157, (RX11, TX11, 9), rfl, mk_157, rfl, rfl, by decide +kernel, ak_w 1011 (by decide +kernel) (by decide +kernel), ak_w 1012 (by decide +kernel) (by decide +kernel), ak_w 1013 (by decide +kernel) (by decide +kernel)⟩
theorem rk_RL_101 : ak_okr RL 101 (8, 240, 0, 12) := ⟨q_240, (RX12, TX12, 44), rfl, mk_240, rfl, rfl, by decide +kernel, ak_w 1500 (by decide +kernel) (by decide +kernel), ak_w 1501 (by decide +kernel) (by decide +kernel), ak_w 1502 (by decide +kernel) (by decide +kernel)⟩
theorem rk_RL_102 : ak_okr RL 102 (8, 158, 1, 11) := ⟨q_158, (RX11, TX11, 9), rfl, mk_158, rfl, rfl, by decide +kernel, ak_w 1015 (by decide +kernel) (by decide +kernel), ak_w 1016 (by decide +kernel) (by decide +kernel), ak_w 1017 (by decide +kernel) (by decide +kernel)⟩
theorem rk_RL_105 : ak_okr RL 105 (8, 241, 1, 12) := ⟨q_241, (RX12, TX12, 44), rfl, mk_241, rfl, rfl, by decide +kernel, ak_w 1504 (by decide +kernel) (by decide +kernel), ak_w 1505 (by decide +kernel) (by decide +kernel), ak_w 1506 (by decide +kernel) (by decide +kernel)⟩
theorem rk_RL_106 : ak_okr RL 106 (8, 161, 3, 11) := ⟨q_161, (RX11, TX11, 9), rfl, mk_161, rfl, rfl, by decide +kernel, ak_w 1027 (by decide +kernel) (by decide +kernel), ak_w 1028 (by decide +kernel) (by decide +kernel), ak_w 1029 (by decide +kernel) (by decide +kernel)⟩
theorem rk_RL_109 : ak_okr RL 109 (8, 235, 3, 12) := ⟨q_235, (RX12, TX12, 44), rfl, mk_235, rfl, rfl, by decide +kernel, ak_w 1508 (by decide +kernel) (by decide +kernel), ak_w 1478 (by decide +kernel) (by decide +kernel), ak_w 1479 (by decide +kernel) (by decide +kernel)⟩
theorem rk_RL_110 : ak_okr RL 110 (8, 163, 3, 11) := ⟨q_163, (RX11, TX11, 9), rfl, mk_163, rfl, rfl, by decide +kernel, ak_w 1034 (by decide +kernel) (by decide +kernel), ak_w 1035 (by decide +kernel) (by decide +kernel), ak_w 1036 (by decide +kernel) (by decide +kernel)⟩
theorem rk_RL_113 : ak_okr RL 113 (8, 242, 3, 12) := ⟨q_242, (RX12, TX12, 44), rfl, mk_242, rfl, rfl, by decide +kernel, ak_w 1509 (by decide +kernel) (by decide +kernel), ak_w 1510 (by decide +kernel) (by decide +kernel), ak_w 1511 (by decide +kernel) (by decide +kernel)⟩
theorem rk_RL_114 : ak_okr RL 114 (8, 164, 5, 11) := ⟨q_164, (RX11, TX11, 9), rfl, mk_164, rfl, rfl, by decide +kernel, ak_w 1039 (by decide +kernel) (by decide +kernel), ak_w 1040 (by decide +kernel) (by decide +kernel), ak_w 1041 (by decide +kernel) (by decide +kernel)⟩
theorem rk_RL_118 : ak_okr RL 118 (8, 243, 5, 12) := ⟨q_243, (RX12, TX12, 44), rfl, mk_243, rfl, rfl, by decide +kernel, ak_w 1513 (by decide +kernel) (by decide +kernel), ak_w 1514 (by decide +kernel) (by decide +kernel), ak_w 1515 (by decide +kernel) (by decide +kernel)⟩
theorem rk_RL_119 : ak_okr RL 119 (8, 165, 4, 11) := ⟨q_165, (RX11, TX11, 9), rfl, mk_165, rfl, rfl, by decide +kernel, ak_w 1046 (by decide +kernel) (by decide +kernel), ak_w 1047 (by decide +kernel) (by decide +kernel), ak_w 1048 (by decide +kernel) (by decide +kernel)⟩
theorem rk_RL_123 : ak_okr RL 123 (8, 244, 4, 12) := ⟨q_244, (RX12, TX12, 44), rfl, mk_244, rfl, rfl, by decide +kernel, ak_w 1517 (by decide +kernel) (by decide +kernel), ak_w 1518 (by decide +kernel) (by decide +kernel), ak_w 1519 (by decide +kernel) (by decide +kernel)⟩
theorem rk_RL_124 : ak_okr RL 124 (8, 166, 2, 11) := ⟨q_166, (RX11, TX11, 9), rfl, mk_166, rfl, rfl, by decide +kernel, ak_w 1051 (by decide +kernel) (by decide +kernel), ak_w 1052 (by decide +kernel) (by decide +kernel), ak_w 1053 (by decide +kernel) (by decide +kernel)⟩
theorem rk_RL_127 : ak_okr RL 127 (8, 245, 2, 12) := ⟨q_245, (RX12, TX12, 44), rfl, mk_245, rfl, rfl, by decide +kernel, ak_w 1522 (by decide +kernel) (by decide +kernel), ak_w 1523 (by decide +kernel) (by decide +kernel), ak_w 1524 (by decide +kernel) (by decide +kernel)⟩
theorem rk_RX12_7 : ak_okr RX12 7 (16, 0, 0, 0) := ak_w 1064 (by decide +kernel) (by decide +kernel)
theorem rk_RX12_13 : ak_okr RX12 13 (1, 12, 1, 1) := ⟨(RX12, TX12, 44), rfl, by decide, ak_w 1069 (by decide +kernel) (by decide +kernel), by decide +kernel⟩
theorem rk_RX12_17 : ak_okr RX12 17 (1, 12, 2, 1) := ⟨(RX12, TX12, 44), rfl, by decide, ak_w 1070 (by decide +kernel) (by decide +kernel), by decide +kernel⟩
theorem rk_RX12_20 : ak_okr RX12 20 (1, 12, 5, 1) := ⟨(RX12, TX12, 44), rfl, by decide, ak_w 1073 (by decide +kernel) (by decide +kernel), by decide +kernel⟩
theorem rk_RX12_23 : ak_okr RX12 23 (1, 12, 7, 1) := ⟨(RX12, TX12, 44), rfl, by decide, ak_w 1075 (by decide +kernel) (by decide +kernel), by decide +kernel⟩
theorem rk_RX12_26 : ak_okr RX12 26 (1, 12, 8, 1) := ⟨(RX12, TX12, 44), rfl, by decide, ak_w 1076 (by decide +kernel) (by decide +kernel), by decide +kernel⟩
theorem rk_RX12_29 : ak_okr RX12 29 (1, 12, 9, 1) := ⟨(RX12, TX12, 44), rfl, by decide, ak_w 1077 (by decide +kernel) (by decide +kernel), by decide +kernel⟩
theorem rk_RX12_32 : ak_okr RX12 32 (1, 12, 10, 1) := ⟨(RX12, TX12, 44), rfl, by decide, ak_w 1078 (by decide +kernel) (by decide +kernel), by decide +kernel⟩
theorem rk_RX12_35 : ak_okr RX12 35 (1, 12, 27, 1) := ⟨(RX12, TX12, 44), rfl, by decide, ak_w 1095 (by decide +kernel) (by decide +kernel), by decide +kernel⟩
theorem rk_RX12_39 : ak_okr RX12 39 (1, 12, 28, 1) := ⟨(RX12, TX12, 44), rfl, by decide, ak_w 1096 (by decide +kernel) (by decide +kernel), by decide +kernel⟩
theorem rk_RX12_42 : ak_okr RX12 42 (1, 12, 29, 1) := ⟨(RX12, TX12, 44), rfl, by decide, ak_w 1097 (by decide +kernel) (by decide +kernel), by decide +kernel⟩
theorem rk_RX12_45 : ak_okr RX12 45 (1, 12, 30, 1) := ⟨(RX12, TX12, 44), rfl, by decide, ak_w 1098 (by decide +kernel) (by decide +kernel), by decide +kernel⟩
theorem rk_RX12_48 : ak_okr RX12 48 (1, 12, 34, 1) := ⟨(RX12, TX12, 44), rfl, by decide, ak_w 1102 (by decide +kernel) (by decide +kernel), by decide +kernel⟩
theorem rk_RX12_51 : ak_okr RX12 51 (1, 12, 35, 1) := ⟨(RX12, TX12, 44), rfl, by decide, ak_w 1103 (by decide +kernel) (by decide +kernel), by decide +kernel⟩
theorem rk_RX12_54 : ak_okr RX12 54 (1, 12, 36, 1) := ⟨(RX12, TX12, 44), rfl, by decide, ak_w 1104 (by decide +kernel) (by decide +kernel), by decide +kernel⟩
theorem rk_RX12_57 : ak_okr RX12 57 (1, 12, 37, 1) := ⟨(RX12, TX12, 44), rfl, by decide, ak_w 1105 (by decide +kernel) (by decide +kernel), by decide +kernel⟩
theorem rk_RX12_60 : ak_okr RX12 60 (1, 12, 38, 0) := ⟨(RX12, TX12, 44), rfl, by decide, ak_w 1106 (by decide +kernel) (by decide +kernel), by decide +kernel⟩
theorem rk_RX12_63 : ak_okr RX12 63 (1, 12, 40, 1) := ⟨(RX12, TX12, 44), rfl, by decide, ak_w 1108 (by decide +kernel) (by decide +kernel), by decide +kernel⟩
theorem rk_RX12_66 : ak_okr RX12 66 (1, 12, 41, 1) := ⟨(RX12, TX12, 44), rfl, by decide, ak_w 1109 (by decide +kernel) (by decide +kernel), by decide +kernel⟩
theorem rk_RX12_69 : ak_okr RX12 69 (1, 12, 42, 1) := ⟨(RX12, TX12, 44), rfl, by decide, ak_w 1110 (by decide +kernel) (by decide +kernel), by decide +kernel⟩
theorem rk_RX12_72 : ak_okr RX12 72 (1, 12, 43, 1) := ⟨(RX12, TX12, 44), rfl, by decide, ak_w 1111 (by decide +kernel) (by decide +kernel), by decide +kernel⟩
theorem rk_RX12_75 : ak_okr RX12 75 (8, 169, 9, 12) := ⟨q_169, (RX12, TX12, 44), rfl, mk_169, rfl, rfl, by decide +kernel, ak_w 1065 (by decide +kernel) (by decide +kernel), ak_w 1067 (by decide +kernel) (by decide +kernel), ak_w 47 (by decide +kernel) (by decide +kernel)⟩
theorem rk_RX12_79 : ak_okr RX12 79 (1, 12, 3, 0) := ⟨(RX12, TX12, 44), rfl, by decide, ak_w 1071 (by decide +kernel) (by decide +kernel), by decide +kernel⟩
theorem rk_RX12_82 : ak_okr RX12 82 (1, 12, 11, 0) := ⟨(RX12, TX12, 44), rfl, by decide, ak_w 1079 (by decide +kernel) (by decide +kernel), by decide +kernel⟩
theorem rk_RX12_85 : ak_okr RX12 85 (11, 171, 3, 0) := ⟨q_171, rfl, mk_171, by decide +kernel, ak_w 1206 (by decide +kernel) (by decide +kernel), ak_w 1207 (by decide +kernel) (by decide +kernel)⟩
theorem rk_RX12_89 : ak_okr RX12 89 (6, 0, 0, 7) := ak_w 1353 (by decide +kernel) (by decide +kernel)
theorem rk_RX12_91 : ak_okr RX12 91 (6, 0, 0, 6) := ak_w 1205 (by decide +kernel) (by decide +kernel)
theorem rk_RX12_93 : ak_okr RX12 93 (8, 172, 1, 12) := ⟨q_172, (RX12, TX12, 44), rfl, mk_172, rfl, rfl, by decide +kernel, ak_w 1209 (by decide +kernel) (by decide +kernel), ak_w 1211 (by decide +kernel) (by decide +kernel), ak_w 48 (by decide +kernel) (by decide +kernel)⟩
theorem rk_RX12_97 : ak_okr RX12 97 (11, 173, 1, 0) := ⟨q_173, rfl, mk_173, by decide +kernel, ak_w 1213 (by decide +kernel) (by decide +kernel), ak_w 1214 (by decide +kernel) (by decide +kernel)⟩
theorem rk_RX12_101 : ak_okr RX12 101 (8, 174, 2, 12) := ⟨q_174, (RX12, TX12, 44), rfl, mk_174, rfl, rfl, by decide +kernel, ak_w 1216 (by decide +kernel) (by decide +kernel), ak_w 1217 (by decide +kernel) (by decide +kernel), ak_w 1218 (by decide +kernel) (by decide +kernel)⟩
theorem rk_RX12_105 : ak_okr RX12 105 (8, 199, 3, 12) := ⟨q_199, (RX12, TX12, 44), rfl, mk_199, rfl, rfl, by decide +kernel, ak_w 1328 (by decide +kernel) (by decide +kernel), ak_w 1330 (by decide +kernel) (by decide +kernel), ak_w 72 (by decide +kernel) (by decide +kernel)⟩
theorem rk_RX12_109 : ak_okr RX12 109 (1, 12, 4, 0) := ⟨(RX12, TX12, 44), rfl, by decide, ak_w 1072 (by decide +kernel) (by decide +kernel), by decide +kernel⟩
theorem rk_RX12_112 : ak_okr RX12 112 (6, 0, 0, 5) := ak_w 1311 (by decide +kernel) (by decide +kernel)
theorem rk_RX12_114 : ak_okr RX12 114 (6, 0, 0, 9) := ak_w 1336 (by decide +kernel) (by decide +kernel)
theorem rk_RX12_116 : ak_okr RX12 116 (6, 0, 0, 4) := ak_w 1337 (by decide +kernel) (by decide +kernel)
theorem rk_RX12_118 : ak_okr RX12 118 (8, 201, 3, 12) := ⟨q_201, (RX12, TX12, 44), rfl, mk_201, rfl, rfl, by decide +kernel, ak_w 1338 (by decide +kernel) (by decide +kernel), ak_w 1340 (by decide +kernel) (by decide +kernel), ak_w 73 (by decide +kernel) (by decide +kernel)⟩
theorem rk_RX12_121 : ak_okr RX12 121 (11, 204, 1, 0) := ⟨q_204, rfl, mk_204, by decide +kernel, ak_w 1350 (by decide +kernel) (by decide +kernel), ak_w 1351 (by decide +kernel) (by decide +kernel)⟩
theorem rk_RX12_124 : ak_okr RX12 124 (8, 205, 2, 12) := ⟨q_205, (RX12, TX12, 44), rfl, mk_205, rfl, rfl, by decide +kernel, ak_w 1354 (by decide +kernel) (by decide +kernel), ak_w 1356 (by decide +kernel) (by decide +kernel), ak_w 74 (by decide +kernel) (by decide +kernel)⟩
theorem rk_RX12_128 : ak_okr RX12 128 (6, 0, 0, 20) := ak_w 1220 (by decide +kernel) (by decide +kernel)
theorem rk_RX12_130 : ak_okr RX12 130 (6, 0, 0, 27) := ak_w 1221 (by decide +kernel) (by decide +kernel)
theorem rk_RX12_132 : ak_okr RX12 132 (6, 0, 0, 30) := ak_w 1222 (by decide +kernel) (by decide +kernel)
theorem rk_RX12_134 : ak_okr RX12 134 (6, 0, 0, 37) := ak_w 1223 (by decide +kernel) (by decide +kernel)
theorem rk_RX12_136 : ak_okr RX12 136 (6, 0, 0, 10) := ak_w 1224 (by decide +kernel) (by decide +kernel)
theorem rk_RX12_138 : ak_okr RX12 138 (8, 175, 2, 12) := ⟨q_175, (RX12, TX12, 44), rfl, mk_175, rfl, rfl, by decide +kernel, ak_w 1225 (by decide +kernel) (by decide +kernel), ak_w 1227 (by decide +kernel) (by decide +kernel), ak_w 49 (by decide +kernel) (by decide +kernel)⟩
theorem rk_RX12_141 : ak_okr RX12 141 (8, 195, 2, 12) := ⟨q_195, (RX12, TX12, 44), rfl, mk_195, rfl, rfl, by decide +kernel, ak_w 1312 (by decide +kernel) (by decide +kernel), ak_w 1314 (by decide +kernel) (by decide +kernel), ak_w 68 (by decide +kernel) (by decide +kernel)⟩
theorem rk_RX12_144 : ak_okr RX12 144 (8, 196, 2, 12) := ⟨q_196, (RX12, TX12, 44), rfl, mk_196, rfl, rfl, by decide +kernel, ak_w 1316 (by decide +kernel) (by decide +kernel), ak_w 1318 (by decide +kernel) (by decide +kernel), ak_w 69 (by decide +kernel) (by decide +kernel)⟩
theorem rk_RX12_147 : ak_okr RX12 147 (8, 198, 1, 12) := ⟨q_198, (RX12, TX12, 44), rfl, mk_198, rfl, rfl, by decide +kernel, ak_w 1324 (by decide +kernel) (by decide +kernel), ak_w 1326 (by decide +kernel) (by decide +kernel), ak_w 71 (by decide +kernel) (by decide +kernel)⟩
theorem rk_RX12_150 : ak_okr RX12 150 (6, 0, 0, 255) := ak_w 1363 (by decide +kernel) (by decide +kernel)
theorem rk_RX12_152 : ak_okr RX12 152 (1, 12, 6, 0) := ⟨(RX12, TX12, 44), rfl, by decide, ak_w 1074 (by decide +kernel) (by decide +kernel), by decide +kernel⟩
theorem rk_RX12_155 : ak_okr RX12 155 (1, 12, 19, 0) := ⟨(RX12, TX12, 44), rfl, by decide, ak_w 1087 (by decide +kernel) (by decide +kernel), by decide +kernel⟩
theorem rk_RX12_158 : ak_okr RX12 158 (1, 12, 18, 0) := ⟨(RX12, TX12, 44), rfl, by decide, ak_w 1086 (by decide +kernel) (by decide +kernel), by decide +kernel⟩
theorem rk_RX12_161 : ak_okr RX12 161 (1, 12, 20, 0) := ⟨(RX12, TX12, 44), rfl, by decide, ak_w 1088 (by decide +kernel) (by decide +kernel), by decide +kernel⟩
theorem rk_RX12_164 : ak_okr RX12 164 (8, 180, 1, 12) := ⟨q_180, (RX12, TX12, 44), rfl, mk_180, rfl, rfl, by decide +kernel, ak_w 1245 (by decide +kernel) (by decide +kernel), ak_w 1247 (by decide +kernel) (by decide +kernel), ak_w 54 (by decide +kernel) (by decide +kernel)⟩
theorem rk_RX12_167 : ak_okr RX12 167 (1, 12, 22, 0) := ⟨(RX12, TX12, 44), rfl, by decide, ak_w 1090 (by decide +kernel) (by decide +kernel), by decide +kernel⟩
theorem rk_RX12_170 : ak_okr RX12 170 (1, 12, 21, 0) := ⟨(RX12, TX12, 44), rfl, by decide, ak_w 1089 (by decide +kernel) (by decide +kernel), by decide +kernel⟩
theorem rk_RX12_173 : ak_okr RX12 173 (6, 0, 0, 97) := ak_w 1249 (by decide +kernel) (by decide +kernel)
theorem rk_RX12_175 : ak_okr RX12 175 (6, 0, 0, 122) := ak_w 1250 (by decide +kernel) (by decide +kernel)
theorem rk_RX12_177 : ak_okr RX12 177 (6, 0, 0, 48) := ak_w 1251 (by decide +kernel) (by decide +kernel)
theorem rk_RX12_179 : ak_okr RX12 179 (6, 0, 0, 57) := ak_w 1252 (by decide +kernel) (by decide +kernel)
theorem rk_RX12_181 : ak_okr RX12 181 (1, 12, 23, 0) := ⟨(RX12, TX12, 44), rfl, by decide, ak_w 1091 (by decide +kernel) (by decide +kernel), by decide +kernel⟩
theorem rk_RX12_185 : ak_okr RX12 185 (1, 12, 25, 0) := ⟨(RX12, TX12, 44), rfl, by decide, ak_w 1093 (by decide +kernel) (by decide +kernel), by decide +kernel⟩
theorem rk_RX12_189 : ak_okr RX12 189 (1, 12, 26, 0) := ⟨(RX12, TX12, 44), rfl, by decide, ak_w 1094 (by decide +kernel) (by decide +kernel), by decide +kernel⟩
theorem rk_RX12_192 : ak_okr RX12 192 (8, 182, 2, 12) := ⟨q_182, (RX12, TX12, 44), rfl, mk_182, rfl, rfl, by decide +kernel, ak_w 1257 (by decide +kernel) (by decide +kernel), ak_w 1259 (by decide +kernel) (by decide +kernel), ak_w 56 (by decide +kernel) (by decide +kernel)⟩
theorem rk_RX12_195 : ak_okr RX12 195 (1, 12, 24, 0) := ⟨(RX12, TX12, 44), rfl, by decide, ak_w 1092 (by decide +kernel) (by decide +kernel), by decide +kernel⟩
theorem rk_RX12_198 : ak_okr RX12 198 (8, 184, 0, 12) := ⟨q_184, (RX12, TX12, 44), rfl, mk_184, rfl, rfl, by decide +kernel, ak_w 1265 (by decide +kernel) (by decide +kernel), ak_w 1267 (by decide +kernel) (by decide +kernel), ak_w 58 (by decide +kernel) (by decide +kernel)⟩
theorem rk_RX12_201 : ak_okr RX12 201 (8, 179, 0, 12) := ⟨q_179, (RX12, TX12, 44), rfl, mk_179, rfl, rfl, by decide +kernel, ak_w 1241 (by decide +kernel) (by decide +kernel), ak_w 1243 (by decide +kernel) (by decide +kernel), ak_w 53 (by decide +kernel) (by decide +kernel)⟩
theorem rk_RX12_204 : ak_okr RX12 204 (8, 181, 8, 12) := ⟨q_181, (RX12, TX12, 44), rfl, mk_181, rfl, rfl, by decide +kernel, ak_w 1253 (by decide +kernel) (by decide +kernel), ak_w 1255 (by decide +kernel) (by decide +kernel), ak_w 55 (by decide +kernel) (by decide +kernel)⟩
theorem rk_RX12_208 : ak_okr RX12 208 (1, 12, 12, 0) := ⟨(RX12, TX12, 44), rfl, by decide, ak_w 1080 (by decide +kernel) (by decide +kernel), by decide +kernel⟩
theorem rk_RX12_211 : ak_okr RX12 211 (1, 12, 13, 0) := ⟨(RX12, TX12, 44), rfl, by decide, ak_w 1081 (by decide +kernel) (by decide +kernel), by decide +kernel⟩
theorem rk_RX12_214 : ak_okr RX12 214 (1, 12, 14, 0) := ⟨(RX12, TX12, 44), rfl, by decide, ak_w 1082 (by decide +kernel) (by decide +kernel), by decide +kernel⟩
theorem rk_RX12_217 : ak_okr RX12 217 (1, 12, 15, 0) := ⟨(RX12, TX12, 44), rfl, by decide, ak_w 1083 (by decide +kernel) (by decide +kernel), by decide +kernel⟩
theorem rk_RX12_220 : ak_okr RX12 220 (1, 12, 16, 0) := ⟨(RX12, TX12, 44), rfl, by decide, ak_w 1084 (by decide +kernel) (by decide +kernel), by decide +kernel⟩
theorem rk_RX12_223 : ak_okr RX12 223 (1, 12, 17, 0) := ⟨(RX12, TX12, 44), rfl, by decide, ak_w 1085 (by decide +kernel) (by decide +kernel), by decide +kernel⟩
theorem rk_RX12_226 : ak_okr RX12 226 (8, 192, 1, 12) := ⟨q_192, (RX12, TX12, 44), rfl, mk_192, rfl, rfl, by decide +kernel, ak_w 1297 (by decide +kernel) (by decide +kernel), ak_w 1299 (by decide +kernel) (by decide +kernel), ak_w 66 (by decide +kernel) (by decide +kernel)⟩
theorem rk_RX12_229 : ak_okr RX12 229 (8, 188, 0, 12) := ⟨q_188, (RX12, TX12, 44), rfl, mk_188, rfl, rfl, by decide +kernel, ak_w 1281 (by decide +kernel) (by decide +kernel), ak_w 1283 (by decide +kernel) (by decide +kernel), ak_w 62 (by decide +kernel) (by decide +kernel)⟩
theorem rk_RX12_233 : ak_okr RX12 233 (8, 191, 0, 12) := ⟨q_191, (RX12, TX12, 44), rfl, mk_191, rfl, rfl, by decide +kernel, ak_w 1293 (by decide +kernel) (by decide +kernel), ak_w 1295 (by decide +kernel) (by decide +kernel), ak_w 65 (by decide +kernel) (by decide +kernel)⟩
theorem rk_RX12_237 : ak_okr RX12 237 (8, 185, 0, 12) := ⟨q_185, (RX12, TX12, 44), rfl, mk_185, rfl, rfl, by decide +kernel, ak_w 1269 (by decide +kernel) (by decide +kernel), ak_w 1271 (by decide +kernel) (by decide +kernel), ak_w 59 (by decide +kernel) (by decide +kernel)⟩
theorem rk_RX12_240 : ak_okr RX12 240 (8, 193, 0, 12) := ⟨q_193, (RX12, TX12, 44), rfl, mk_193, rfl, rfl, by decide +kernel, ak_w 1301 (by decide +kernel) (by decide +kernel), ak_w 1303 (by decide +kernel) (by decide +kernel), ak_w 67 (by decide +kernel) (by decide +kernel)⟩
theorem rk_RX12_243 : ak_okr RX12 243 (8, 190, 0, 12) := ⟨q_190, (RX12, TX12, 44), rfl, mk_190, rfl, rfl, by decide +kernel, ak_w 1289 (by decide +kernel) (by decide +kernel), ak_w 1291 (by decide +kernel) (by decide +kernel), ak_w 64 (by decide +kernel) (by decide +kernel)⟩
theorem rk_RX12_246 : ak_okr RX12 246 (6, 0, 0, 43) := ak_w 1305 (by decide +kernel) (by decide +kernel)
theorem rk_RX12_248 : ak_okr RX12 248 (8, 187, 0, 12) := ⟨q_187, (RX12, TX12, 44), rfl, mk_187, rfl, rfl, by decide +kernel, ak_w 1277 (by decide +kernel) (by decide +kernel), ak_w 1279 (by decide +kernel) (by decide +kernel), ak_w 61 (by decide +kernel) (by decide +kernel)⟩
theorem rk_RX12_251 : ak_okr RX12 251 (8, 189, 0, 12) := ⟨q_189, (RX12, TX12, 44), rfl, mk_189, rfl, rfl, by decide +kernel, ak_w 1285 (by decide +kernel) (by decide +kernel), ak_w 1287 (by decide +kernel) (by decide +kernel), ak_w 63 (by decide +kernel) (by decide +kernel)⟩
theorem rk_RX12_254 : ak_okr RX12 254 (6, 0, 0, 60) := ak_w 1306 (by decide +kernel) (by decide +kernel)
theorem rk_RX12_256 : ak_okr RX12 256 (8, 186, 0, 12) := ⟨q_186, (RX12, TX12, 44), rfl, mk_186, rfl, rfl, by decide +kernel, ak_w 1273 (by decide +kernel) (by decide +kernel), ak_w 1275 (by decide +kernel) (by decide +kernel), ak_w 60 (by decide +kernel) (by decide +kernel)⟩
theorem rk_RX12_259 : ak_okr RX12 259 (8, 183, 1, 12) := ⟨q_183, (RX12, TX12, 44), rfl, mk_183, rfl, rfl, by decide +kernel, ak_w 1261 (by decide +kernel) (by decide +kernel), ak_w 1263 (by decide +kernel) (by decide +kernel), ak_w 57 (by decide +kernel) (by decide +kernel)⟩
theorem rk_RX12_263 : ak_okr RX12 263 (8, 178, 2, 12) := ⟨q_178, (RX12, TX12, 44), rfl, mk_178, rfl, rfl, by decide +kernel, ak_w 1237 (by decide +kernel) (by decide +kernel), ak_w 1239 (by decide +kernel) (by decide +kernel), ak_w 52 (by decide +kernel) (by decide +kernel)⟩
theorem rk_RX12_266 : ak_okr RX12 266 (8, 176, 2, 12) := ⟨q_176, (RX12, TX12, 44), rfl, mk_176, rfl, rfl, by decide +kernel, ak_w 1229 (by decide +kernel) (by decide +kernel), ak_w 1231 (by decide +kernel) (by decide +kernel), ak_w 50 (by decide +kernel) (by decide +kernel)⟩
theorem rk_RX12_269 : ak_okr RX12 269 (11, 194, 3, 0) := ⟨q_194, rfl, mk_194, by decide +kernel, ak_w 1307 (by decide +kernel) (by decide +kernel), ak_w 1308 (by decide +kernel) (by decide +kernel)⟩
theorem rk_RX12_273 : ak_okr RX12 273 (8, 177, 3, 12) := ⟨q_177, (RX12, TX12, 44), rfl, mk_177, rfl, rfl, by decide +kernel, ak_w 1233 (by decide +kernel) (by decide +kernel), ak_w 1235 (by decide +kernel) (by decide +kernel), ak_w 51 (by decide +kernel) (by decide +kernel)⟩
theorem rk_RX12_276 : ak_okr RX12 276 (6, 0, 0, 3) := ak_w 1310 (by decide +kernel) (by decide +kernel)
theorem rk_RX12_278 : ak_okr RX12 278 (8, 197, 2, 12) := ⟨q_197, (RX12, TX12, 44), rfl, mk_197, rfl, rfl, by decide +kernel, ak_w 1320 (by decide +kernel) (by decide +kernel), ak_w 1322 (by decide +kernel) (by decide +kernel), ak_w 70 (by decide +kernel) (by decide +kernel)⟩
theorem rk_RX12_281 : ak_okr RX12 281 (8, 215, 1, 12) := ⟨q_215, (RX12, TX12, 44), rfl, mk_215, rfl, rfl, by decide +kernel, ak_w 1399 (by decide +kernel) (by decide +kernel), ak_w 1401 (by decide +kernel) (by decide +kernel), ak_w 80 (by decide +kernel) (by decide +kernel)⟩
theorem rk_RX12_284 : ak_okr RX12 284 (11, 216, 1, 0) := ⟨q_216, rfl, mk_216, by decide +kernel, ak_w 1403 (by decide +kernel) (by decide +kernel), ak_w 1404 (by decide +kernel) (by decide +kernel)⟩
theorem rk_RX12_287 : ak_okr RX12 287 (8, 214, 1, 12) := ⟨q_214, (RX12, TX12, 44), rfl, mk_214, rfl, rfl, by decide +kernel, ak_w 1395 (by decide +kernel) (by decide +kernel), ak_w 1397 (by decide +kernel) (by decide +kernel), ak_w 79 (by decide +kernel) (by decide +kernel)⟩
theorem rk_RX12_290 : ak_okr RX12 290 (8, 213, 0, 12) := ⟨q_213, (RX12, TX12, 44), rfl, mk_213, rfl, rfl, by decide +kernel, ak_w 1391 (by decide +kernel) (by decide +kernel), ak_w 1393 (by decide +kernel) (by decide +kernel), ak_w 78 (by decide +kernel) (by decide +kernel)⟩
theorem rk_RX12_293 : ak_okr RX12 293 (6, 0, 0, 2) := ak_w 1376 (by decide +kernel) (by decide +kernel)
theorem rk_RX12_295 : ak_okr RX12 295 (6, 0, 0, 17) := ak_w 1377 (by decide +kernel) (by decide +kernel)
theorem rk_RX12_297 : ak_okr RX12 297 (4, 0, 0, -100000) := ak_w 1378 (by decide +kernel) (by decide +kernel)
theorem rk_RX12_298 : ak_okr RX12 298 (8, 210, 0, 12) := ⟨q_210, (RX12, TX12, 44), rfl, mk_210, rfl, rfl, by decide +kernel, ak_w 1379 (by decide +kernel) (by decide +kernel), ak_w 1381 (by decide +kernel) (by decide +kernel), ak_w 75 (by decide +kernel) (by decide +kernel)⟩
theorem rk_RX12_301 : ak_okr RX12 301 (8, 211, 0, 12) := ⟨q_211, (RX12, TX12, 44), rfl, mk_211, rfl, rfl, by decide +kernel, ak_w 1383 (by decide +kernel) (by decide +kernel), ak_w 1385 (by decide +kernel) (by decide +kernel), ak_w 76 (by decide +kernel) (by decide +kernel)⟩
theorem rk_RX12_304 : ak_okr RX12 304 (8, 212, 0, 12) := ⟨q_212, (RX12, TX12, 44), rfl, mk_212, rfl, rfl, by decide +kernel, ak_w 1387 (by decide +kernel) (by decide +kernel), ak_w 1389 (by decide +kernel) (by decide +kernel), ak_w 77 (by decide +kernel) (by decide +kernel)⟩
theorem rk_RX12_307 : ak_okr RX12 307 (8, 217, 0, 12) := ⟨q_217, (RX12, TX12, 44), rfl, mk_217, rfl, rfl, by decide +kernel, ak_w 1406 (by decide +kernel) (by decide +kernel), ak_w 1408 (by decide +kernel) (by decide +kernel), ak_w 81 (by decide +kernel) (by decide +kernel)⟩
theorem rk_RX12_310 : ak_okr RX12 310 (8, 221, 0, 12) := ⟨q_221, (RX12, TX12, 44), rfl, mk_221, rfl, rfl, by decide +kernel, ak_w 1422 (by decide +kernel) (by decide +kernel), ak_w 1424 (by decide +kernel) (by decide +kernel), ak_w 83 (by decide +kernel) (by decide +kernel)⟩
theorem rk_RX12_313 : ak_okr RX12 313 (1, 12, 31, 0) := ⟨(RX12, TX12, 44), rfl, by decide, ak_w 1099 (by decide +kernel) (by decide +kernel), by decide +kernel⟩
theorem rk_RX12_316 : ak_okr RX12 316 (1, 12, 33, 0) := ⟨(RX12, TX12, 44), rfl, by decide, ak_w 1101 (by decide +kernel) (by decide +kernel), by decide +kernel⟩
theorem rk_RX12_319 : ak_okr RX12 319 (8, 222, 0, 12) := ⟨q_222, (RX12, TX12, 44), rfl, mk_222, rfl, rfl, by decide +kernel, ak_w 1426 (by decide +kernel) (by decide +kernel), ak_w 1428 (by decide +kernel) (by decide +kernel), ak_w 84 (by decide +kernel) (by decide +kernel)⟩
theorem rk_RX12_322 : ak_okr RX12 322 (1, 12, 32, 0) := ⟨(RX12, TX12, 44), rfl, by decide, ak_w 1100 (by decide +kernel) (by decide +kernel), by decide +kernel⟩
theorem rk_RX12_325 : ak_okr RX12 325 (8, 220, 2, 12) := ⟨q_220, (RX12, TX12, 44), rfl, mk_220, rfl, rfl, by decide +kernel, ak_w 1418 (by decide +kernel) (by decide +kernel), ak_w 1420 (by decide +kernel) (by decide +kernel), ak_w 82 (by decide +kernel) (by decide +kernel)⟩
theorem rk_RX12_329 : ak_okr RX12 329 (8, 225, 1, 12) := ⟨q_225, (RX12, TX12, 44), rfl, mk_225, rfl, rfl, by decide +kernel, ak_w 1438 (by decide +kernel) (by decide +kernel), ak_w 1440 (by decide +kernel) (by decide +kernel), ak_w 86 (by decide +kernel) (by decide +kernel)⟩
theorem rk_RX12_332 : ak_okr RX12 332 (8, 226, 1, 12) := ⟨q_226, (RX12, TX12, 44), rfl, mk_226, rfl, rfl, by decide +kernel, ak_w 1442 (by decide +kernel) (by decide +kernel), ak_w 1444 (by decide +kernel) (by decide +kernel), ak_w 87 (by decide +kernel) (by decide +kernel)⟩
theorem rk_RX12_336 : ak_okr RX12 336 (8, 224, 0, 12) := ⟨q_224, (RX12, TX12, 44), rfl, mk_224, rfl, rfl, by decide +kernel, ak_w 1434 (by decide +kernel) (by decide +kernel), ak_w 1436 (by decide +kernel) (by decide +kernel), ak_w 85 (by decide +kernel) (by decide +kernel)⟩
theorem rk_RX12_339 : ak_okr RX12 339 (8, 227, 0, 12) := ⟨q_227, (RX12, TX12, 44), rfl, mk_227, rfl, rfl, by decide +kernel, ak_w 1446 (by decide +kernel) (by decide +kernel), ak_w 1448 (by decide +kernel) (by decide +kernel), ak_w 88 (by decide +kernel) (by decide +kernel)⟩
theorem rk_RX12_342 : ak_okr RX12 342 (11, 232, 1, 0) := ⟨q_232, rfl, mk_232, by decide +kernel, ak_w 1466 (by decide +kernel) (by decide +kernel), ak_w 1467 (by decide +kernel) (by decide +kernel)⟩
theorem rk_RX12_345 : ak_okr RX12 345 (8, 233, 2, 12) := ⟨q_233, (RX12, TX12, 44), rfl, mk_233, rfl, rfl, by decide +kernel, ak_w 1469 (by decide +kernel) (by decide +kernel), ak_w 1471 (by decide +kernel) (by decide +kernel), ak_w 89 (by decide +kernel) (by decide +kernel)⟩
theorem rk_RX12_348 : ak_okr RX12 348 (8, 235, 3, 12) := ⟨q_235, (RX12, TX12, 44), rfl, mk_235, rfl, rfl, by decide +kernel, ak_w 1477 (by decide +kernel) (by decide +kernel), ak_w 1478 (by decide +kernel) (by decide +kernel), ak_w 1479 (by decide +kernel) (by decide +kernel)⟩
theorem rk_RX12_351 : ak_okr RX12 351 (4, 0, 0, 1103515245) := ak_w 1490 (by decide +kernel) (by decide +kernel)
theorem rk_RX12_352 : ak_okr RX12 352 (8, 237, 1, 12) := ⟨q_237, (RX12, TX12, 44), rfl, mk_237, rfl, rfl, by decide +kernel, ak_w 1486 (by decide +kernel) (by decide +kernel), ak_w 1488 (by decide +kernel) (by decide +kernel), ak_w 90 (by decide +kernel) (by decide +kernel)⟩
theorem rk_RX12_355 : ak_okr RX12 355 (6, 0, 0, -4611686018427387904) := ak_w 1495 (by decide +kernel) (by decide +kernel)
theorem rk_RX12_357 : ak_okr RX12 357 (1, 12, 39, 0) := ⟨(RX12, TX12, 44), rfl, by decide, ak_w 1107 (by decide +kernel) (by decide +kernel), by decide +kernel⟩
theorem rk_RX12_360 : ak_okr RX12 360 (6, 0, 0, -1) := ak_w 1481 (by decide +kernel) (by decide +kernel)
theorem rk_RX12_362 : ak_okr RX12 362 (8, 200, 3, 12) := ⟨q_200, (RX12, TX12, 44), rfl, mk_200, rfl, rfl, by decide +kernel, ak_w 1521 (by decide +kernel) (by decide +kernel), ak_w 1333 (by decide +kernel) (by decide +kernel), ak_w 1334 (by decide +kernel) (by decide +kernel)⟩
theorem rk_RX12_365 : ak_okr RX12 365 (11, 246, 1, 0) := ⟨q_246, rfl, mk_246, by decide +kernel, ak_w 1526 (by decide +kernel) (by decide +kernel), ak_w 1527 (by decide +kernel) (by decide +kernel)⟩
theorem rk_RJ6_265 : ak_okr RJ6 265 (4, 0, 0, 1431655765) := ak_w 780 (by decide +kernel) (by decide +kernel)
theorem rk_RJ6_266 : ak_okr RJ6 266 (4, 0, 0, 858993459) := ak_w 781 (by decide +kernel) (by decide +kernel)
theorem rk_RJ6_267 : ak_okr RJ6 267 (4, 0, 0, 252645135) := ak_w 782 (by decide +kernel) (by decide +kernel)
theorem rk_RJ0_9 : ak_okr RJ0 9 (2, 0, 0, 0) := ak_w 1538 (by decide +kernel) (by decide +kernel)
theorem rk_RJ0_15 : ak_okr RJ0 15 (2, 1, 0, 0) := ak_w 1539 (by decide +kernel) (by decide +kernel)
theorem rk_RJ0_38 : ak_okr RJ0 38 (3, 2, 0, 0) := ⟨_, rfl, ak_w 646 (by decide +kernel) (by decide +kernel)⟩
theorem rk_RJ0_335 : ak_okr RJ0 335 (9, 74, 0, 0) := ⟨q_74, rfl, mk_74, rfl, by decide +kernel, ak_w 642 (by decide +kernel) (by decide +kernel), ak_w 643 (by decide +kernel) (by decide +kernel), ak_w 644 (by decide +kernel) (by decide +kernel)⟩
theorem rk_RJ0_492 : ak_okr RJ0 492 (9, 76, 0, 0) := ⟨q_76, rfl, mk_76, rfl, by decide +kernel, ak_w 652 (by decide +kernel) (by decide +kernel), ak_w 653 (by decide +kernel) (by decide +kernel), ak_w 654 (by decide +kernel) (by decide +kernel)⟩
theorem rk_RJ0_495 : ak_okr RJ0 495 (11, 77, 2, 0) := ⟨q_77, rfl, mk_77, by decide +kernel, ak_w 656 (by decide +kernel) (by decide +kernel), ak_w 657 (by decide +kernel) (by decide +kernel)⟩
theorem rk_RJ0_498 : ak_okr RJ0 498 (11, 80, 2, 0) := ⟨q_80, rfl, mk_80, by decide +kernel, ak_w 667 (by decide +kernel) (by decide +kernel), ak_w 668 (by decide +kernel) (by decide +kernel)⟩
theorem rk_RJ0_1053 : ak_okr RJ0 1053 (3, 3, 0, 0) := ⟨_, rfl, ak_w 662 (by decide +kernel) (by decide +kernel)⟩
theorem rk_RJ0_1059 : ak_okr RJ0 1059 (11, 79, 3, 0) := ⟨q_79, rfl, mk_79, by decide +kernel, ak_w 664 (by decide +kernel) (by decide +kernel), ak_w 665 (by decide +kernel) (by decide +kernel)⟩
theorem rk_RJ1_9 : ak_okr RJ1 9 (11, 78, 2, 0) := ⟨q_78, rfl, mk_78, by decide +kernel, ak_w 659 (by decide +kernel) (by decide +kernel), ak_w 660 (by decide +kernel) (by decide +kernel)⟩
theorem rk_RJ2_44 : ak_okr RJ2 44 (0, 0, 0, 0) := trivial
theorem rk_RJ2_48 : ak_okr RJ2 48 (11, 82, 1, 0) := ⟨q_82, rfl, mk_82, by decide +kernel, ak_w 673 (by decide +kernel) (by decide +kernel), ak_w 674 (by decide +kernel) (by decide +kernel)⟩
theorem rk_RJ2_59 : ak_okr RJ2 59 (0, 0, 0, 0) := trivial
theorem rk_RJ2_63 : ak_okr RJ2 63 (0, 0, 0, 0) := trivial
theorem rk_RJ2_67 : ak_okr RJ2 67 (11, 81, 2, 0) := ⟨q_81, rfl, mk_81, by decide +kernel, ak_w 670 (by decide +kernel) (by decide +kernel), ak_w 671 (by decide +kernel) (by decide +kernel)⟩
theorem rk_RJ2_71 : ak_okr RJ2 71 (11, 83, 2, 0) := ⟨q_83, rfl, mk_83, by decide +kernel, ak_w 677 (by decide +kernel) (by decide +kernel), ak_w 678 (by decide +kernel) (by decide +kernel)⟩
theorem rk_RJ2_414 : ak_okr RJ2 414 (11, 78, 2, 0) := ⟨q_78, rfl, mk_78, by decide +kernel, ak_w 676 (by decide +kernel) (by decide +kernel), ak_w 660 (by decide +kernel) (by decide +kernel)⟩
def rt_RX11 : List (Nat × ak_X) := [(3, (16, 0, 0, 0)), (9, (7, 8, 0, 0)), (11, (14, 1, 0, 8)), (12, (1, 11, 0, 1)), (16, (1, 11, 1, 1)), (19, (1, 11, 2, 1)), (22, (1, 11, 4, 1)), (26, (7, 6, 0, 0)), (28, (14, 2, 1, 6)), (31, (1, 11, 6, 1)), (35, (7, 5, 0, 0)), (37, (14, 12, 2, 5)), (40, (1, 11, 7, 1)), (44, (7, 7, 4, 0)), (46, (1, 11, 8, 1)), (50, (14, 13, 0, 7)), (51, (8, 15, 2, 8)), (55, (8, 17, 2, 8)), (58, (8, 18, 2, 8)), (62, (8, 20, 3, 8)), (66, (8, 22, 3, 8)), (70, (8, 16, 1, 8)), (74, (1, 8, 11, 1)), (77, (8, 23, 3, 8)), (81, (11, 26, 1, 0)), (84, (8, 27, 3, 6)), (88, (1, 8, 10, 1)), (91, (1, 8, 5, 1)), (94, (8, 48, 2, 6)), (98, (8, 57, 2, 6)), (101, (8, 63, 2, 11)), (104, (8, 49, 3, 6)), (108, (8, 29, 3, 6)), (111, (1, 11, 5, 0)), (115, (1, 6, 0, 0)), (118, (8, 34, 1, 6)), (122, (8, 66, 1, 10)), (128, (1, 8, 3, 0)), (131, (4, 0, 0, -100000)), (132, (8, 101, 1, 5)), (136, (8, 107, 1, 5)), (139, (8, 109, 0, 5)), (143, (8, 111, 0, 5)), (147, (8, 110, 0, 5)), (150, (1, 8, 0, 0)), (153, (1, 8, 4, 0)), (156, (1, 8, 9, 1)), (159, (11, 36, 2, 0)), (164, (8, 113, 0, 8)), (167, (8, 115, 1, 5)), (171, (8, 122, 0, 5)), (174, (8, 123, 0, 5)), (177, (8, 125, 0, 5)), (180, (8, 128, 0, 5)), (183, (8, 130, 0, 5)), (186, (8, 133, 2, 5)), (189, (8, 136, 1, 5)), (192, (11, 138, 1, 0)), (195, (8, 139, 0, 7)), (198, (1, 7, 1, 0)), (199, (8, 140, 1, 8)), (202, (8, 141, 2, 11)), (206, (8, 142, 2, 11)), (209, (8, 143, 2, 11)), (212, (8, 144, 2, 11)), (215, (8, 146, 2, 11)), (218, (8, 147, 2, 11)), (221, (8, 149, 2, 7)), (225, (8, 150, 2, 7)), (227, (8, 153, 1, 11)), (231, (6, 0, 0, -4611686018427387904)), (233, (11, 155, 2, 0)), (236, (1, 11, 3, 0)), (240, (8, 159, 0, 8)), (243, (8, 160, 0, 8)), (246, (4, 0, 0, 1103515245)), (247, (1, 8, 8, 1)), (250, (1, 7, 2, 1)), (253, (1, 8, 6, 1)), (256, (8, 145, 4, 11)), (260, (11, 162, 1, 0)), (263, (8, 151, 2, 7)), (266, (1, 7, 0, 0)), (269, (17, 0, 0, 0)), (275, (8, 21, 3, 11)), (278, (8, 167, 2, 6))]
set_option maxRecDepth 100000 in
theorem rt_RX11_ok : ∀ e ∈ rt_RX11, ak_okr RX11 e.1 e.2 := List.forall_mem_cons.mpr ⟨rk_RX11_3, List.forall_mem_cons.mpr ⟨rk_RX11_9, List.forall_mem_cons.mpr ⟨rk_RX11_11, List.forall_mem_cons.mpr ⟨rk_RX11_12, List.forall_mem_cons.mpr ⟨rk_RX11_16, List.forall_mem_cons.mpr ⟨rk_RX11_19, List.forall_mem_cons.mpr ⟨rk_RX11_22, List.forall_mem_cons.mpr ⟨rk_RX11_26, List.forall_mem_cons.mpr ⟨rk_RX11_28, List.forall_mem_cons.mpr ⟨rk_RX11_31, List.forall_mem_cons.mpr ⟨rk_RX11_35, List.forall_mem_cons.mpr ⟨rk_RX11_37, List.forall_mem_cons.mpr ⟨rk_RX11_40, List.forall_mem_cons.mpr ⟨rk_RX11_44, List.forall_mem_cons.mpr ⟨rk_RX11_46, List.forall_mem_cons.mpr ⟨rk_RX11_50, List.forall_mem_cons.mpr ⟨rk_RX11_51, List.forall_mem_cons.mpr ⟨rk_RX11_55, List.forall_mem_cons.mpr ⟨rk_RX11_58, List.forall_mem_cons.mpr ⟨rk_RX11_62, List.forall_mem_cons.mpr ⟨rk_RX11_66, List.forall_mem_cons.mpr ⟨rk_RX11_70, List.forall_mem_cons.mpr ⟨rk_RX11_74, List.forall_mem_cons.mpr ⟨rk_RX11_77, List.forall_mem_cons.mpr ⟨rk_RX11_81, List.forall_mem_cons.mpr ⟨rk_RX11_84, List.forall_mem_cons.mpr ⟨rk_RX11_88, List.forall_mem_cons.mpr ⟨rk_RX11_91, List.forall_mem_cons.mpr ⟨rk_RX11_94, List.forall_mem_cons.mpr ⟨rk_RX11_98, List.forall_mem_cons.mpr ⟨rk_RX11_101, List.forall_mem_cons.mpr ⟨rk_RX11_104, List.forall_mem_cons.mpr ⟨rk_RX11_108, List.forall_mem_cons.mpr ⟨rk_RX11_111, List.forall_mem_cons.mpr ⟨rk_RX11_115, List.forall_mem_cons.mpr ⟨rk_RX11_118, List.forall_mem_cons.mpr ⟨rk_RX11_122, List.forall_mem_cons.mpr ⟨rk_RX11_128, List.forall_mem_cons.mpr ⟨rk_RX11_131, List.forall_mem_cons.mpr ⟨rk_RX11_132, List.forall_mem_cons.mpr ⟨rk_RX11_136, List.forall_mem_cons.mpr ⟨rk_RX11_139, List.forall_mem_cons.mpr ⟨rk_RX11_143, List.forall_mem_cons.mpr ⟨rk_RX11_147, List.forall_mem_cons.mpr ⟨rk_RX11_150, List.forall_mem_cons.mpr ⟨rk_RX11_153, List.forall_mem_cons.mpr ⟨rk_RX11_156, List.forall_mem_cons.mpr ⟨rk_RX11_159, List.forall_mem_cons.mpr ⟨rk_RX11_164, List.forall_mem_cons.mpr ⟨rk_RX11_167, List.forall_mem_cons.mpr ⟨rk_RX11_171, List.forall_mem_cons.mpr ⟨rk_RX11_174, List.forall_mem_cons.mpr ⟨rk_RX11_177, List.forall_mem_cons.mpr ⟨rk_RX11_180, List.forall_mem_cons.mpr ⟨rk_RX11_183, List.forall_mem_cons.mpr ⟨rk_RX11_186, List.forall_mem_cons.mpr ⟨rk_RX11_189, List.forall_mem_cons.mpr ⟨rk_RX11_192, List.forall_mem_cons.mpr ⟨rk_RX11_195, List.forall_mem_cons.mpr ⟨rk_RX11_198, List.forall_mem_cons.mpr ⟨rk_RX11_199, List.forall_mem_cons.mpr ⟨rk_RX11_202, List.forall_mem_cons.mpr ⟨rk_RX11_206, List.forall_mem_cons.mpr ⟨rk_RX11_209, List.forall_mem_cons.mpr ⟨rk_RX11_212, List.forall_mem_cons.mpr ⟨rk_RX11_215, List.forall_mem_cons.mpr ⟨rk_RX11_218, List.forall_mem_cons.mpr ⟨rk_RX11_221, List.forall_mem_cons.mpr ⟨rk_RX11_225, List.forall_mem_cons.mpr ⟨rk_RX11_227, List.forall_mem_cons.mpr ⟨rk_RX11_231, List.forall_mem_cons.mpr ⟨rk_RX11_233, List.forall_mem_cons.mpr ⟨rk_RX11_236, List.forall_mem_cons.mpr ⟨rk_RX11_240, List.forall_mem_cons.mpr ⟨rk_RX11_243, List.forall_mem_cons.mpr ⟨rk_RX11_246, List.forall_mem_cons.mpr ⟨rk_RX11_247, List.forall_mem_cons.mpr ⟨rk_RX11_250, List.forall_mem_cons.mpr ⟨rk_RX11_253, List.forall_mem_cons.mpr ⟨rk_RX11_256, List.forall_mem_cons.mpr ⟨rk_RX11_260, List.forall_mem_cons.mpr ⟨rk_RX11_263, List.forall_mem_cons.mpr ⟨rk_RX11_266, List.forall_mem_cons.mpr ⟨rk_RX11_269, List.forall_mem_cons.mpr ⟨rk_RX11_275, List.forall_mem_cons.mpr ⟨rk_RX11_278, List.forall_mem_nil _⟩⟩⟩⟩⟩⟩⟩⟩⟩⟩⟩⟩⟩⟩⟩⟩⟩⟩⟩⟩⟩⟩⟩⟩⟩⟩⟩⟩⟩⟩⟩⟩⟩⟩⟩⟩⟩⟩⟩⟩⟩⟩⟩⟩⟩⟩⟩⟩⟩⟩⟩⟩⟩⟩⟩⟩⟩⟩⟩⟩⟩⟩⟩⟩⟩⟩⟩⟩⟩⟩⟩⟩⟩⟩⟩⟩⟩⟩⟩⟩⟩⟩⟩⟩⟩⟩
def rt_RX0 : List (Nat × ak_X) := [(1, (14, 3, 0, 3)), (7, (15, 62, 2, 0))]
set_option maxRecDepth 100000 in
theorem rt_RX0_ok : ∀ e ∈ rt_RX0, ak_okr RX0 e.1 e.2 := List.forall_mem_cons.mpr ⟨rk_RX0_1, List.forall_mem_cons.mpr ⟨rk_RX0_7, List.forall_mem_nil _⟩⟩
def rt_RX1 : List (Nat × ak_X) := [(1, (14, 5, 0, 9)), (7, (15, 53, 4, 0))]
set_option maxRecDepth 100000 in
theorem rt_RX1_ok : ∀ e ∈ rt_RX1, ak_okr RX1 e.1 e.2 := List.forall_mem_cons.mpr ⟨rk_RX1_1, List.forall_mem_cons.mpr ⟨rk_RX1_7, List.forall_mem_nil _⟩⟩
def rt_RX2 : List (Nat × ak_X) := [(3, (14, 4, 0, 4)), (9, (15, 55, 4, 0)), (13, (18, 46, 3, 0))]
set_option maxRecDepth 100000 in
theorem rt_RX2_ok : ∀ e ∈ rt_RX2, ak_okr RX2 e.1 e.2 := List.forall_mem_cons.mpr ⟨rk_RX2_3, List.forall_mem_cons.mpr ⟨rk_RX2_9, List.forall_mem_cons.mpr ⟨rk_RX2_13, List.forall_mem_nil _⟩⟩⟩
def rt_RX3 : List (Nat × ak_X) := [(1, (16, 0, 0, 0))]
set_option maxRecDepth 100000 in
theorem rt_RX3_ok : ∀ e ∈ rt_RX3, ak_okr RX3 e.1 e.2 := List.forall_mem_cons.mpr ⟨rk_RX3_1, List.forall_mem_nil _⟩
def rt_RX4 : List (Nat × ak_X) := [(1, (14, 3, 0, 3)), (7, (15, 56, 4, 0)), (11, (13, 45, 1, 0))]
set_option maxRecDepth 100000 in
theorem rt_RX4_ok : ∀ e ∈ rt_RX4, ak_okr RX4 e.1 e.2 := List.forall_mem_cons.mpr ⟨rk_RX4_1, List.forall_mem_cons.mpr ⟨rk_RX4_7, List.forall_mem_cons.mpr ⟨rk_RX4_11, List.forall_mem_nil _⟩⟩⟩
def rt_RX5 : List (Nat × ak_X) := [(3, (16, 0, 0, 0)), (9, (1, 5, 2, 1)), (15, (1, 5, 3, 1)), (18, (1, 5, 4, 1)), (22, (1, 5, 5, 1)), (25, (1, 5, 6, 1)), (28, (1, 5, 7, 1)), (31, (1, 5, 8, 1)), (34, (1, 5, 9, 1)), (37, (1, 5, 0, 1)), (41, (1, 5, 1, 0)), (45, (8, 102, 1, 8)), (51, (1, 8, 4, 0)), (55, (8, 104, 1, 5)), (59, (8, 106, 0, 5)), (62, (8, 49, 3, 6)), (67, (8, 29, 3, 6)), (71, (8, 28, 2, 8)), (75, (8, 105, 1, 5)), (79, (1, 8, 10, 1)), (82, (12, 26, 1, 0)), (85, (8, 16, 1, 8)), (88, (8, 108, 1, 5)), (91, (11, 36, 2, 0)), (96, (8, 110, 0, 5)), (100, (8, 107, 1, 5)), (103, (1, 5, 10, 0)), (107, (1, 5, 11, 0)), (110, (8, 116, 0, 5)), (113, (8, 117, 0, 5)), (118, (4, 0, 0, 2147483647)), (119, (8, 118, 3, 5)), (123, (11, 50, 2, 0)), (126, (8, 119, 1, 5)), (129, (8, 120, 1, 5)), (132, (8, 121, 2, 5)), (136, (8, 126, 1, 5)), (139, (8, 127, 1, 5)), (142, (1, 8, 9, 1)), (145, (8, 111, 0, 5)), (148, (8, 131, 2, 5)), (152, (8, 109, 0, 5)), (156, (8, 134, 1, 5))]
set_option maxRecDepth 100000 in
theorem rt_RX5_ok : ∀ e ∈ rt_RX5, ak_okr RX5 e.1 e.2 := List.forall_mem_cons.mpr ⟨rk_RX5_3, List.forall_mem_cons.mpr ⟨rk_RX5_9, List.forall_mem_cons.mpr ⟨rk_RX5_15, List.forall_mem_cons.mpr ⟨rk_RX5_18, List.forall_mem_cons.mpr ⟨rk_RX5_22, List.forall_mem_cons.mpr ⟨rk_RX5_25, List.forall_mem_cons.mpr ⟨rk_RX5_28, List.forall_mem_cons.mpr ⟨rk_RX5_31, List.forall_mem_cons.mpr ⟨rk_RX5_34, List.forall_mem_cons.mpr ⟨rk_RX5_37, List.forall_mem_cons.mpr ⟨rk_RX5_41, List.forall_mem_cons.mpr ⟨rk_RX5_45, List.forall_mem_cons.mpr ⟨rk_RX5_51, List.forall_mem_cons.mpr ⟨rk_RX5_55, List.forall_mem_cons.mpr ⟨rk_RX5_59, List.forall_mem_cons.mpr ⟨rk_RX5_62, List.forall_mem_cons.mpr ⟨rk_RX5_67, List.forall_mem_cons.mpr ⟨rk_RX5_71, List.forall_mem_cons.mpr ⟨rk_RX5_75, List.forall_mem_cons.mpr ⟨rk_RX5_79, List.forall_mem_cons.mpr ⟨rk_RX5_82, List.forall_mem_cons.mpr ⟨rk_RX5_85, List.forall_mem_cons.mpr ⟨rk_RX5_88, List.forall_mem_cons.mpr ⟨rk_RX5_91, List.forall_mem_cons.mpr ⟨rk_RX5_96, List.forall_mem_cons.mpr ⟨rk_RX5_100, List.forall_mem_cons.mpr ⟨rk_RX5_103, List.forall_mem_cons.mpr ⟨rk_RX5_107, List.forall_mem_cons.mpr ⟨rk_RX5_110, List.forall_mem_cons.mpr ⟨rk_RX5_113, List.forall_mem_cons.mpr ⟨rk_RX5_118, List.forall_mem_cons.mpr ⟨rk_RX5_119, List.forall_mem_cons.mpr ⟨rk_RX5_123, List.forall_mem_cons.mpr ⟨rk_RX5_126, List.forall_mem_cons.mpr ⟨rk_RX5_129, List.forall_mem_cons.mpr ⟨rk_RX5_132, List.forall_mem_cons.mpr ⟨rk_RX5_136, List.forall_mem_cons.mpr ⟨rk_RX5_139, List.forall_mem_cons.mpr ⟨rk_RX5_142, List.forall_mem_cons.mpr ⟨rk_RX5_145, List.forall_mem_cons.mpr ⟨rk_RX5_148, List.forall_mem_cons.mpr ⟨rk_RX5_152, List.forall_mem_cons.mpr ⟨rk_RX5_156, List.forall_mem_nil _⟩⟩⟩⟩⟩⟩⟩⟩⟩⟩⟩⟩⟩⟩⟩⟩⟩⟩⟩⟩⟩⟩⟩⟩⟩⟩⟩⟩⟩⟩⟩⟩⟩⟩⟩⟩⟩⟩⟩⟩⟩⟩⟩
def rt_RX6 : List (Nat × ak_X) := [(3, (16, 0, 0, 0)), (9, (1, 6, 0, 0)), (15, (7, 10, 2, 0)), (17, (1, 6, 1, 1)), (21, (7, 3, 3, 0)), (23, (14, 3, 0, 3)), (24, (7, 4, 0, 0)), (26, (14, 4, 0, 4)), (27, (7, 9, 0, 0)), (29, (14, 5, 0, 9)), (30, (7, 2, 0, 0)), (32, (14, 6, 0, 2)), (33, (7, 1, 0, 0)), (35, (14, 7, 0, 1)), (36, (7, 0, 0, 0)), (38, (14, 8, 0, 0)), (39, (1, 6, 2, 1)), (43, (1, 6, 3, 1)), (47, (1, 6, 4, 1)), (50, (14, 9, 1, 10)), (53, (8, 10, 1, 10)), (57, (8, 11, 0, 10)), (60, (8, 40, 1, 6)), (64, (8, 30, 3, 6)), (68, (1, 8, 3, 0)), (73, (8, 34, 1, 6)), (77, (8, 35, 3, 10)), (81, (11, 36, 2, 0)), (87, (11, 50, 2, 0)), (90, (1, 8, 5, 1)), (92, (8, 32, 2, 8)), (96, (1, 8, 6, 1)), (99, (10, 0, 4, 0)), (103, (10, 2, 3, 0)), (107, (8, 48, 2, 6)), (111, (8, 31, 2, 6)), (115, (10, 1, 2, 0)), (118, (1, 8, 10, 1)), (121, (8, 28, 2, 8)), (124, (8, 49, 3, 6)), (127, (8, 29, 3, 6)), (130, (8, 33, 2, 8)), (133, (1, 8, 7, 1)), (136, (1, 8, 9, 1))]
set_option maxRecDepth 100000 in
theorem rt_RX6_ok : ∀ e ∈ rt_RX6, ak_okr RX6 e.1 e.2 := List.forall_mem_cons.mpr ⟨rk_RX6_3, List.forall_mem_cons.mpr ⟨rk_RX6_9, List.forall_mem_cons.mpr ⟨rk_RX6_15, List.forall_mem_cons.mpr ⟨rk_RX6_17, List.forall_mem_cons.mpr ⟨rk_RX6_21, List.forall_mem_cons.mpr ⟨rk_RX6_23, List.forall_mem_cons.mpr ⟨rk_RX6_24, List.forall_mem_cons.mpr ⟨rk_RX6_26, List.forall_mem_cons.mpr ⟨rk_RX6_27, List.forall_mem_cons.mpr ⟨rk_RX6_29, List.forall_mem_cons.mpr ⟨rk_RX6_30, List.forall_mem_cons.mpr ⟨rk_RX6_32, List.forall_mem_cons.mpr ⟨rk_RX6_33, List.forall_mem_cons.mpr ⟨rk_RX6_35, List.forall_mem_cons.mpr ⟨rk_RX6_36, List.forall_mem_cons.mpr ⟨rk_RX6_38, List.forall_mem_cons.mpr ⟨rk_RX6_39, List.forall_mem_cons.mpr ⟨rk_RX6_43, List.forall_mem_cons.mpr ⟨rk_RX6_47, List.forall_mem_cons.mpr ⟨rk_RX6_50, List.forall_mem_cons.mpr ⟨rk_RX6_53, List.forall_mem_cons.mpr ⟨rk_RX6_57, List.forall_mem_cons.mpr ⟨rk_RX6_60, List.forall_mem_cons.mpr ⟨rk_RX6_64, List.forall_mem_cons.mpr ⟨rk_RX6_68, List.forall_mem_cons.mpr ⟨rk_RX6_73, List.forall_mem_cons.mpr ⟨rk_RX6_77, List.forall_mem_cons.mpr ⟨rk_RX6_81, List.forall_mem_cons.mpr ⟨rk_RX6_87, List.forall_mem_cons.mpr ⟨rk_RX6_90, List.forall_mem_cons.mpr ⟨rk_RX6_92, List.forall_mem_cons.mpr ⟨rk_RX6_96, List.forall_mem_cons.mpr ⟨rk_RX6_99, List.forall_mem_cons.mpr ⟨rk_RX6_103, List.forall_mem_cons.mpr ⟨rk_RX6_107, List.forall_mem_cons.mpr ⟨rk_RX6_111, List.forall_mem_cons.mpr ⟨rk_RX6_115, List.forall_mem_cons.mpr ⟨rk_RX6_118, List.forall_mem_cons.mpr ⟨rk_RX6_121, List.forall_mem_cons.mpr ⟨rk_RX6_124, List.forall_mem_cons.mpr ⟨rk_RX6_127, List.forall_mem_cons.mpr ⟨rk_RX6_130, List.forall_mem_cons.mpr ⟨rk_RX6_133, List.forall_mem_cons.mpr ⟨rk_RX6_136, List.forall_mem_nil _⟩⟩⟩⟩⟩⟩⟩⟩⟩⟩⟩⟩⟩⟩⟩⟩⟩⟩⟩⟩⟩⟩⟩⟩⟩⟩⟩⟩⟩⟩⟩⟩⟩⟩⟩⟩⟩⟩⟩⟩⟩⟩⟩⟩
def rt_RX7 : List (Nat × ak_X) := [(3, (16, 0, 0, 0)), (9, (1, 7, 0, 0)), (15, (1, 7, 2, 1)), (19, (11, 36, 2, 0)), (25, (11, 50, 2, 0)), (28, (1, 7, 1, 0)), (31, (8, 151, 2, 7))]
set_option maxRecDepth 100000 in
theorem rt_RX7_ok : ∀ e ∈ rt_RX7, ak_okr RX7 e.1 e.2 := List.forall_mem_cons.mpr ⟨rk_RX7_3, List.forall_mem_cons.mpr ⟨rk_RX7_9, List.forall_mem_cons.mpr ⟨rk_RX7_15, List.forall_mem_cons.mpr ⟨rk_RX7_19, List.forall_mem_cons.mpr ⟨rk_RX7_25, List.forall_mem_cons.mpr ⟨rk_RX7_28, List.forall_mem_cons.mpr ⟨rk_RX7_31, List.forall_mem_nil _⟩⟩⟩⟩⟩⟩⟩
def rt_RX8 : List (Nat × ak_X) := [(3, (16, 0, 0, 0)), (9, (1, 8, 1, 0)), (15, (1, 8, 5, 1)), (19, (1, 8, 6, 1)), (22, (1, 8, 7, 1)), (25, (1, 8, 8, 1)), (28, (1, 8, 9, 1)), (31, (1, 8, 10, 1)), (34, (1, 8, 11, 1)), (37, (1, 8, 0, 0)), (40, (1, 8, 2, 0)), (43, (1, 8, 3, 0)), (46, (1, 8, 4, 0)), (49, (8, 16, 1, 8)), (53, (3, 0, 0, 0)), (56, (3, 1, 0, 0)), (59, (8, 19, 1, 8)), (63, (8, 23, 3, 8)), (67, (12, 26, 1, 0)), (70, (11, 103, 1, 0)), (76, (11, 36, 2, 0))]
set_option maxRecDepth 100000 in
theorem rt_RX8_ok : ∀ e ∈ rt_RX8, ak_okr RX8 e.1 e.2 := List.forall_mem_cons.mpr ⟨rk_RX8_3, List.forall_mem_cons.mpr ⟨rk_RX8_9, List.forall_mem_cons.mpr ⟨rk_RX8_15, List.forall_mem_cons.mpr ⟨rk_RX8_19, List.forall_mem_cons.mpr ⟨rk_RX8_22, List.forall_mem_cons.mpr ⟨rk_RX8_25, List.forall_mem_cons.mpr ⟨rk_RX8_28, List.forall_mem_cons.mpr ⟨rk_RX8_31, List.forall_mem_cons.mpr ⟨rk_RX8_34, List.forall_mem_cons.mpr ⟨rk_RX8_37, List.forall_mem_cons.mpr ⟨rk_RX8_40, List.forall_mem_cons.mpr ⟨rk_RX8_43, List.forall_mem_cons.mpr ⟨rk_RX8_46, List.forall_mem_cons.mpr ⟨rk_RX8_49, List.forall_mem_cons.mpr ⟨rk_RX8_53, List.forall_mem_cons.mpr ⟨rk_RX8_56, List.forall_mem_cons.mpr ⟨rk_RX8_59, List.forall_mem_cons.mpr ⟨rk_RX8_63, List.forall_mem_cons.mpr ⟨rk_RX8_67, List.forall_mem_cons.mpr ⟨rk_RX8_70, List.forall_mem_cons.mpr ⟨rk_RX8_76, List.forall_mem_nil _⟩⟩⟩⟩⟩⟩⟩⟩⟩⟩⟩⟩⟩⟩⟩⟩⟩⟩⟩⟩⟩
def rt_RX9 : List (Nat × ak_X) := [(1, (14, 3, 0, 3)), (7, (15, 56, 4, 0)), (11, (13, 45, 1, 0))]
set_option maxRecDepth 100000 in
theorem rt_RX9_ok : ∀ e ∈ rt_RX9, ak_okr RX9 e.1 e.2 := List.forall_mem_cons.mpr ⟨rk_RX9_1, List.forall_mem_cons.mpr ⟨rk_RX9_7, List.forall_mem_cons.mpr ⟨rk_RX9_11, List.forall_mem_nil _⟩⟩⟩
def rt_RX10 : List (Nat × ak_X) := [(3, (16, 0, 0, 0)), (9, (1, 10, 0, 1)), (15, (1, 10, 1, 1)), (18, (1, 10, 4, 1)), (21, (1, 10, 2, 0)), (25, (8, 10, 1, 10)), (29, (1, 10, 3, 0)), (32, (11, 36, 2, 0)), (38, (11, 37, 2, 0)), (42, (11, 38, 2, 0)), (45, (11, 39, 3, 0)), (49, (11, 50, 2, 0)), (52, (1, 10, 5, 0)), (55, (1, 10, 6, 0)), (58, (1, 10, 10, 0)), (61, (1, 10, 11, 0)), (64, (8, 67, 0, 10)), (67, (8, 89, 1, 10)), (70, (8, 90, 0, 10)), (73, (8, 11, 0, 10)), (76, (1, 10, 8, 0)), (79, (8, 85, 0, 10)), (82, (8, 91, 0, 10)), (85, (8, 92, 0, 10)), (88, (8, 93, 0, 10)), (91, (8, 98, 0, 10)), (95, (8, 94, 0, 10)), (98, (8, 95, 0, 10)), (101, (8, 96, 0, 10)), (104, (1, 10, 9, 0)), (107, (8, 97, 1, 10)), (110, (1, 10, 7, 0)), (113, (8, 68, 1, 10)), (117, (8, 69, 1, 10)), (120, (8, 70, 0, 10)), (123, (8, 86, 1, 10)), (126, (8, 87, 0, 10)), (129, (8, 88, 1, 10)), (132, (8, 71, 0, 10)), (136, (8, 84, 0, 10)), (139, (5, 0, 0, 0)), (141, (8, 72, 1, 10)), (145, (5, 1, 0, 0)), (147, (5, 2, 0, 0)), (149, (5, 3, 0, 0)), (151, (5, 4, 0, 0)), (153, (5, 5, 0, 0)), (155, (5, 6, 0, 0)), (157, (5, 7, 0, 0)), (159, (5, 8, 0, 0)), (161, (5, 9, 0, 0)), (163, (5, 10, 0, 0)), (165, (5, 11, 0, 0)), (167, (9, 73, 0, 0)), (171, (9, 75, 1, 0))]
set_option maxRecDepth 100000 in
theorem rt_RX10_ok : ∀ e ∈ rt_RX10, ak_okr RX10 e.1 e.2 := List.forall_mem_cons.mpr ⟨rk_RX10_3, List.forall_mem_cons.mpr ⟨rk_RX10_9, List.forall_mem_cons.mpr ⟨rk_RX10_15, List.forall_mem_cons.mpr ⟨rk_RX10_18, List.forall_mem_cons.mpr ⟨rk_RX10_21, List.forall_mem_cons.mpr ⟨rk_RX10_25, List.forall_mem_cons.mpr ⟨rk_RX10_29, List.forall_mem_cons.mpr ⟨rk_RX10_32, List.forall_mem_cons.mpr ⟨rk_RX10_38, List.forall_mem_cons.mpr ⟨rk_RX10_42, List.forall_mem_cons.mpr ⟨rk_RX10_45, List.forall_mem_cons.mpr ⟨rk_RX10_49, List.forall_mem_cons.mpr ⟨rk_RX10_52, List.forall_mem_cons.mpr ⟨rk_RX10_55, List.forall_mem_cons.mpr ⟨rk_RX10_58, List.forall_mem_cons.mpr ⟨rk_RX10_61, List.forall_mem_cons.mpr ⟨rk_RX10_64, List.forall_mem_cons.mpr ⟨rk_RX10_67, List.forall_mem_cons.mpr ⟨rk_RX10_70, List.forall_mem_cons.mpr ⟨rk_RX10_73, List.forall_mem_cons.mpr ⟨rk_RX10_76, List.forall_mem_cons.mpr ⟨rk_RX10_79, List.forall_mem_cons.mpr ⟨rk_RX10_82, List.forall_mem_cons.mpr ⟨rk_RX10_85, List.forall_mem_cons.mpr ⟨rk_RX10_88, List.forall_mem_cons.mpr ⟨rk_RX10_91, List.forall_mem_cons.mpr ⟨rk_RX10_95, List.forall_mem_cons.mpr ⟨rk_RX10_98, List.forall_mem_cons.mpr ⟨rk_RX10_101, List.forall_mem_cons.mpr ⟨rk_RX10_104, List.forall_mem_cons.mpr ⟨rk_RX10_107, List.forall_mem_cons.mpr ⟨rk_RX10_110, List.forall_mem_cons.mpr ⟨rk_RX10_113, List.forall_mem_cons.mpr ⟨rk_RX10_117, List.forall_mem_cons.mpr ⟨rk_RX10_120, List.forall_mem_cons.mpr ⟨rk_RX10_123, List.forall_mem_cons.mpr ⟨rk_RX10_126, List.forall_mem_cons.mpr ⟨rk_RX10_129, List.forall_mem_cons.mpr ⟨rk_RX10_132, List.forall_mem_cons.mpr ⟨rk_RX10_136, List.forall_mem_cons.mpr ⟨rk_RX10_139, List.forall_mem_cons.mpr ⟨rk_RX10_141, List.forall_mem_cons.mpr ⟨rk_RX10_145, List.forall_mem_cons.mpr ⟨rk_RX10_147, List.forall_mem_cons.mpr ⟨rk_RX10_149, List.forall_mem_cons.mpr ⟨rk_RX10_151, List.forall_mem_cons.mpr ⟨rk_RX10_153, List.forall_mem_cons.mpr ⟨rk_RX10_155, List.forall_mem_cons.mpr ⟨rk_RX10_157, List.forall_mem_cons.mpr ⟨rk_RX10_159, List.forall_mem_cons.mpr ⟨rk_RX10_161, List.forall_mem_cons.mpr ⟨rk_RX10_163, List.forall_mem_cons.mpr ⟨rk_RX10_165, List.forall_mem_cons.mpr ⟨rk_RX10_167, List.forall_mem_cons.mpr ⟨rk_RX10_171, List.forall_mem_nil _⟩⟩⟩⟩⟩⟩⟩⟩⟩⟩⟩⟩⟩⟩⟩⟩⟩⟩⟩⟩⟩⟩⟩⟩⟩⟩⟩⟩⟩⟩⟩⟩⟩⟩⟩⟩⟩⟩⟩⟩⟩⟩⟩⟩⟩⟩⟩⟩⟩⟩⟩⟩⟩⟩⟩
def rt_RL : List (Nat × ak_X) := [(7, (7, 11, 0, 0)), (9, (14, 0, 0, 11)), (10, (7, 12, 0, 0)), (12, (14, 168, 0, 12)), (13, (8, 14, 3, 11)), (17, (8, 170, 3, 12)), (18, (8, 21, 3, 11)), (21, (8, 200, 3, 12)), (22, (8, 24, 3, 11)), (25, (8, 202, 3, 12)), (26, (8, 25, 2, 11)), (30, (8, 203, 2, 12)), (31, (8, 47, 2, 11)), (34, (8, 174, 2, 12)), (35, (8, 64, 1, 11)), (39, (8, 206, 1, 12)), (40, (8, 65, 0, 11)), (44, (8, 207, 0, 12)), (45, (8, 99, 1, 11)), (48, (8, 208, 1, 12)), (49, (8, 100, 1, 11)), (52, (8, 209, 1, 12)), (53, (8, 112, 0, 11)), (56, (8, 218, 0, 12)), (57, (8, 114, 1, 11)), (60, (8, 219, 1, 12)), (61, (8, 124, 1, 11)), (64, (8, 223, 1, 12)), (65, (8, 129, 1, 11)), (68, (8, 229, 1, 12)), (69, (8, 132, 2, 11)), (72, (8, 230, 2, 12)), (73, (8, 135, 0, 11)), (76, (8, 228, 0, 12)), (77, (8, 137, 3, 11)), (80, (8, 231, 3, 12)), (81, (8, 148, 2, 11)), (84, (8, 234, 2, 12)), (85, (8, 152, 1, 11)), (88, (8, 236, 1, 12)), (89, (8, 154, 3, 11)), (93, (8, 238, 3, 12)), (94, (8, 156, 0, 11)), (97, (8, 239, 0, 12)), (98, (8, 157, 0, 11)), (101, (8, 240, 0, 12)), (102, (8, 158, 1, 11)), (105, (8, 241, 1, 12)), (106, (8, 161, 3, 11)), (109, (8, 235, 3, 12)), (110, (8, 163, 3, 11)), (113, (8, 242, 3, 12)), (114, (8, 164, 5, 11)), (118, (8, 243, 5, 12)), (119, (8, 165, 4, 11)), (123, (8, 244, 4, 12)), (124, (8, 166, 2, 11)), (127, (8, 245, 2, 12))]
set_option maxRecDepth 100000 in
theorem rt_RL_ok : ∀ e ∈ rt_RL, ak_okr RL e.1 e.2 := List.forall_mem_cons.mpr ⟨rk_RL_7, List.forall_mem_cons.mpr ⟨rk_RL_9, List.forall_mem_cons.mpr ⟨rk_RL_10, List.forall_mem_cons.mpr ⟨rk_RL_12, List.forall_mem_cons.mpr ⟨rk_RL_13, List.forall_mem_cons.mpr ⟨rk_RL_17, List.forall_mem_cons.mpr ⟨rk_RL_18, List.forall_mem_cons.mpr ⟨rk_RL_21, List.forall_mem_cons.mpr ⟨rk_RL_22, List.forall_mem_cons.mpr ⟨rk_RL_25, List.forall_mem_cons.mpr ⟨rk_RL_26, List.forall_mem_cons.mpr ⟨rk_RL_30, List.forall_mem_cons.mpr ⟨rk_RL_31, List.forall_mem_cons.mpr ⟨rk_RL_34, List.forall_mem_cons.mpr ⟨rk_RL_35, List.forall_mem_cons.mpr ⟨rk_RL_39, List.forall_mem_cons.mpr ⟨rk_RL_40, List.forall_mem_cons.mpr ⟨rk_RL_44, List.forall_mem_cons.mpr ⟨rk_RL_45, List.forall_mem_cons.mpr ⟨rk_RL_48, List.forall_mem_cons.mpr ⟨rk_RL_49, List.forall_mem_cons.mpr ⟨rk_RL_52, List.forall_mem_cons.mpr ⟨rk_RL_53, List.forall_mem_cons.mpr ⟨rk_RL_56, List.forall_mem_cons.mpr ⟨rk_RL_57, List.forall_mem_cons.mpr ⟨rk_RL_60, List.forall_mem_cons.mpr ⟨rk_RL_61, List.forall_mem_cons.mpr ⟨rk_RL_64, List.forall_mem_cons.mpr ⟨rk_RL_65, List.forall_mem_cons.mpr ⟨rk_RL_68, List.forall_mem_cons.mpr ⟨rk_RL_69, List.forall_mem_cons.mpr ⟨rk_RL_72, List.forall_mem_cons.mpr ⟨rk_RL_73, List.forall_mem_cons.mpr ⟨rk_RL_76, List.forall_mem_cons.mpr ⟨rk_RL_77, List.forall_mem_cons.mpr ⟨rk_RL_80, List.forall_mem_cons.mpr ⟨rk_RL_81, List.forall_mem_cons.mpr ⟨rk_RL_84, List.forall_mem_cons.mpr ⟨rk_RL_85, List.forall_mem_cons.mpr ⟨rk_RL_88, List.forall_mem_cons.mpr ⟨rk_RL_89, List.forall_mem_cons.mpr ⟨rk_RL_93, List.forall_mem_cons.mpr ⟨rk_RL_94, List.forall_mem_cons.mpr ⟨rk_RL_97, List.forall_mem_cons.mpr ⟨rk_RL_98, List.forall_mem_cons.mpr ⟨rk_RL_101, List.forall_mem_cons.mpr ⟨rk_RL_102, List.forall_mem_cons.mpr ⟨rk_RL_105, List.forall_mem_cons.mpr ⟨rk_RL_106, List.forall_mem_cons.mpr ⟨rk_RL_109, List.forall_mem_cons.mpr ⟨rk_RL_110, List.forall_mem_cons.mpr ⟨rk_RL_113, List.forall_mem_cons.mpr ⟨rk_RL_114, List.forall_mem_cons.mpr ⟨rk_RL_118, List.forall_mem_cons.mpr ⟨rk_RL_119, List.forall_mem_cons.mpr ⟨rk_RL_123, List.forall_mem_cons.mpr ⟨rk_RL_124, List.forall_mem_cons.mpr ⟨rk_RL_127, List.forall_mem_nil _⟩⟩⟩⟩⟩⟩⟩⟩⟩⟩⟩⟩⟩⟩⟩⟩⟩⟩⟩⟩⟩⟩⟩⟩⟩⟩⟩⟩⟩⟩⟩⟩⟩⟩⟩⟩⟩⟩⟩⟩⟩⟩⟩⟩⟩⟩⟩⟩⟩⟩⟩⟩⟩⟩⟩⟩⟩⟩
def rt_RX12 : List (Nat × ak_X) := [(7, (16, 0, 0, 0)), (13, (1, 12, 1, 1)), (17, (1, 12, 2, 1)), (20, (1, 12, 5, 1)), (23, (1, 12, 7, 1)), (26, (1, 12, 8, 1)), (29, (1, 12, 9, 1)), (32, (1, 12, 10, 1)), (35, (1, 12, 27, 1)), (39, (1, 12, 28, 1)), (42, (1, 12, 29, 1)), (45, (1, 12, 30, 1)), (48, (1, 12, 34, 1)), (51, (1, 12, 35, 1)), (54, (1, 12, 36, 1)), (57, (1, 12, 37, 1)), (60, (1, 12, 38, 0)), (63, (1, 12, 40, 1)), (66, (1, 12, 41, 1)), (69, (1, 12, 42, 1)), (72, (1, 12, 43, 1)), (75, (8, 169, 9, 12)), (79, (1, 12, 3, 0)), (82, (1, 12, 11, 0)), (85, (11, 171, 3, 0)), (89, (6, 0, 0, 7)), (91, (6, 0, 0, 6)), (93, (8, 172, 1, 12)), (97, (11, 173, 1, 0)), (101, (8, 174, 2, 12)), (105, (8, 199, 3, 12)), (109, (1, 12, 4, 0)), (112, (6, 0, 0, 5)), (114, (6, 0, 0, 9)), (116, (6, 0, 0, 4)), (118, (8, 201, 3, 12)), (121, (11, 204, 1, 0)), (124, (8, 205, 2, 12)), (128, (6, 0, 0, 20)), (130, (6, 0, 0, 27)), (132, (6, 0, 0, 30)), (134, (6, 0, 0, 37)), (136, (6, 0, 0, 10)), (138, (8, 175, 2, 12)), (141, (8, 195, 2, 12)), (144, (8, 196, 2, 12)), (147, (8, 198, 1, 12)), (150, (6, 0, 0, 255)), (152, (1, 12, 6, 0)), (155, (1, 12, 19, 0)), (158, (1, 12, 18, 0)), (161, (1, 12, 20, 0)), (164, (8, 180, 1, 12)), (167, (1, 12, 22, 0)), (170, (1, 12, 21, 0)), (173, (6, 0, 0, 97)), (175, (6, 0, 0, 122)), (177, (6, 0, 0, 48)), (179, (6, 0, 0, 57)), (181, (1, 12, 23, 0)), (185, (1, 12, 25, 0)), (189, (1, 12, 26, 0)), (192, (8, 182, 2, 12)), (195, (1, 12, 24, 0)), (198, (8, 184, 0, 12)), (201, (8, 179, 0, 12)), (204, (8, 181, 8, 12)), (208, (1, 12, 12, 0)), (211, (1, 12, 13, 0)), (214, (1, 12, 14, 0)), (217, (1, 12, 15, 0)), (220, (1, 12, 16, 0)), (223, (1, 12, 17, 0)), (226, (8, 192, 1, 12)), (229, (8, 188, 0, 12)), (233, (8, 191, 0, 12)), (237, (8, 185, 0, 12)), (240, (8, 193, 0, 12)), (243, (8, 190, 0, 12)), (246, (6, 0, 0, 43)), (248, (8, 187, 0, 12)), (251, (8, 189, 0, 12)), (254, (6, 0, 0, 60)), (256, (8, 186, 0, 12)), (259, (8, 183, 1, 12)), (263, (8, 178, 2, 12)), (266, (8, 176, 2, 12)), (269, (11, 194, 3, 0)), (273, (8, 177, 3, 12)), (276, (6, 0, 0, 3)), (278, (8, 197, 2, 12)), (281, (8, 215, 1, 12)), (284, (11, 216, 1, 0)), (287, (8, 214, 1, 12)), (290, (8, 213, 0, 12)), (293, (6, 0, 0, 2)), (295, (6, 0, 0, 17)), (297, (4, 0, 0, -100000)), (298, (8, 210, 0, 12)), (301, (8, 211, 0, 12)), (304, (8, 212, 0, 12)), (307, (8, 217, 0, 12)), (310, (8, 221, 0, 12)), (313, (1, 12, 31, 0)), (316, (1, 12, 33, 0)), (319, (8, 222, 0, 12)), (322, (1, 12, 32, 0)), (325, (8, 220, 2, 12)), (329, (8, 225, 1, 12)), (332, (8, 226, 1, 12)), (336, (8, 224, 0, 12)), (339, (8, 227, 0, 12)), (342, (11, 232, 1, 0)), (345, (8, 233, 2, 12)), (348, (8, 235, 3, 12)), (351, (4, 0, 0, 1103515245)), (352, (8, 237, 1, 12)), (355, (6, 0, 0, -4611686018427387904)), (357, (1, 12, 39, 0)), (360, (6, 0, 0, -1)), (362, (8, 200, 3, 12)), (365, (11, 246, 1, 0))]
set_option maxRecDepth 100000 in
theorem rt_RX12_ok : ∀ e ∈ rt_RX12, ak_okr RX12 e.1 e.2 := List.forall_mem_cons.mpr ⟨rk_RX12_7, List.forall_mem_cons.mpr ⟨rk_RX12_13, List.forall_mem_cons.mpr ⟨rk_RX12_17, List.forall_mem_cons.mpr ⟨rk_RX12_20, List.forall_mem_cons.mpr ⟨rk_RX12_23, List.forall_mem_cons.mpr ⟨rk_RX12_26, List.forall_mem_cons.mpr ⟨rk_RX12_29, List.forall_mem_cons.mpr ⟨rk_RX12_32, List.forall_mem_cons.mpr ⟨rk_RX12_35, List.forall_mem_cons.mpr ⟨rk_RX12_39, List.forall_mem_cons.mpr ⟨rk_RX12_42, List.forall_mem_cons.mpr ⟨rk_RX12_45, List.forall_mem_cons.mpr ⟨rk_RX12_48, List.forall_mem_cons.mpr ⟨rk_RX12_51, List.forall_mem_cons.mpr ⟨rk_RX12_54, List.forall_mem_cons.mpr ⟨rk_RX12_57, List.forall_mem_cons.mpr ⟨rk_RX12_60, List.forall_mem_cons.mpr ⟨rk_RX12_63, List.forall_mem_cons.mpr ⟨rk_RX12_66, List.forall_mem_cons.mpr ⟨rk_RX12_69, List.forall_mem_cons.mpr ⟨rk_RX12_72, List.forall_mem_cons.mpr ⟨rk_RX12_75, List.forall_mem_cons.mpr ⟨rk_RX12_79, List.forall_mem_cons.mpr ⟨rk_RX12_82, List.forall_mem_cons.mpr ⟨rk_RX12_85, List.forall_mem_cons.mpr ⟨rk_RX12_89, List.forall_mem_cons.mpr ⟨rk_RX12_91, List.forall_mem_cons.mpr ⟨rk_RX12_93, List.forall_mem_cons.mpr ⟨rk_RX12_97, List.forall_mem_cons.mpr ⟨rk_RX12_101, List.forall_mem_cons.mpr ⟨rk_RX12_105, List.forall_mem_cons.mpr ⟨rk_RX12_109, List.forall_mem_cons.mpr ⟨rk_RX12_112, List.forall_mem_cons.mpr ⟨rk_RX12_114, List.forall_mem_cons.mpr ⟨rk_RX12_116, List.forall_mem_cons.mpr ⟨rk_RX12_118, List.forall_mem_cons.mpr ⟨rk_RX12_121, List.forall_mem_cons.mpr ⟨rk_RX12_124, List.forall_mem_cons.mpr ⟨rk_RX12_128, List.forall_mem_cons.mpr ⟨rk_RX12_130, List.forall_mem_cons.mpr ⟨rk_RX12_132, List.forall_mem_cons.mpr ⟨rk_RX12_134, List.forall_mem_cons.mpr ⟨rk_RX12_136, List.forall_mem_cons.mpr ⟨rk_RX12_138, List.forall_mem_cons.mpr ⟨rk_RX12_141, List.forall_mem_cons.mpr ⟨rk_RX12_144, List.forall_mem_cons.mpr ⟨rk_RX12_147, List.forall_mem_cons.mpr ⟨rk_RX12_150, List.forall_mem_cons.mpr ⟨rk_RX12_152, List.forall_mem_cons.mpr ⟨rk_RX12_155, List.forall_mem_cons.mpr ⟨rk_RX12_158, List.forall_mem_cons.mpr ⟨rk_RX12_161, List.forall_mem_cons.mpr ⟨rk_RX12_164, List.forall_mem_cons.mpr ⟨rk_RX12_167, List.forall_mem_cons.mpr ⟨rk_RX12_170, List.forall_mem_cons.mpr ⟨rk_RX12_173, List.forall_mem_cons.mpr ⟨rk_RX12_175, List.forall_mem_cons.mpr ⟨rk_RX12_177, List.forall_mem_cons.mpr ⟨rk_RX12_179, List.forall_mem_cons.mpr ⟨rk_RX12_181, List.forall_mem_cons.mpr ⟨rk_RX12_185, List.forall_mem_cons.mpr ⟨rk_RX12_189, List.forall_mem_cons.mpr ⟨rk_RX12_192, List.forall_mem_cons.mpr ⟨rk_RX12_195, List.forall_mem_cons.mpr ⟨rk_RX12_198, List.forall_mem_cons.mpr ⟨rk_RX12_201, List.forall_mem_cons.mpr ⟨rk_RX12_204, List.forall_mem_cons.mpr ⟨rk_RX12_208, List.forall_mem_cons.mpr ⟨rk_RX12_211, List.forall_mem_cons.mpr ⟨rk_RX12_214, List.forall_mem_cons.mpr ⟨rk_RX12_217, List.forall_mem_cons.mpr ⟨rk_RX12_220, List.forall_mem_cons.mpr ⟨rk_RX12_223, List.forall_mem_cons.mpr ⟨rk_RX12_226, List.forall_mem_cons.mpr ⟨rk_RX12_229, List.forall_mem_cons.mpr ⟨rk_RX12_233, List.forall_mem_cons.mpr ⟨rk_RX12_237, List.forall_mem_cons.mpr ⟨rk_RX12_240, List.forall_mem_cons.mpr ⟨rk_RX12_243, List.forall_mem_cons.mpr ⟨rk_RX12_246, List.forall_mem_cons.mpr ⟨rk_RX12_248, List.forall_mem_cons.mpr ⟨rk_RX12_251, List.forall_mem_cons.mpr ⟨rk_RX12_254, List.forall_mem_cons.mpr ⟨rk_RX12_256, List.forall_mem_cons.mpr ⟨rk_RX12_259, List.forall_mem_cons.mpr ⟨rk_RX12_263, List.forall_mem_cons.mpr ⟨rk_RX12_266, List.forall_mem_cons.mpr ⟨rk_RX12_269, List.forall_mem_cons.mpr ⟨rk_RX12_273, List.forall_mem_cons.mpr ⟨rk_RX12_276, List.forall_mem_cons.mpr ⟨rk_RX12_278, List.forall_mem_cons.mpr ⟨rk_RX12_281, List.forall_mem_cons.mpr ⟨rk_RX12_284, List.forall_mem_cons.mpr ⟨rk_RX12_287, List.forall_mem_cons.mpr ⟨rk_RX12_290, List.forall_mem_cons.mpr ⟨rk_RX12_293, List.forall_mem_cons.mpr ⟨rk_RX12_295, List.forall_mem_cons.mpr ⟨rk_RX12_297, List.forall_mem_cons.mpr ⟨rk_RX12_298, List.forall_mem_cons.mpr ⟨rk_RX12_301, List.forall_mem_cons.mpr ⟨rk_RX12_304, List.forall_mem_cons.mpr ⟨rk_RX12_307, List.forall_mem_cons.mpr ⟨rk_RX12_310, List.forall_mem_cons.mpr ⟨rk_RX12_313, List.forall_mem_cons.mpr ⟨rk_RX12_316, List.forall_mem_cons.mpr ⟨rk_RX12_319, List.forall_mem_cons.mpr ⟨rk_RX12_322, List.forall_mem_cons.mpr ⟨rk_RX12_325, List.forall_mem_cons.mpr ⟨rk_RX12_329, List.forall_mem_cons.mpr ⟨rk_RX12_332, List.forall_mem_cons.mpr ⟨rk_RX12_336, List.forall_mem_cons.mpr ⟨rk_RX12_339, List.forall_mem_cons.mpr ⟨rk_RX12_342, List.forall_mem_cons.mpr ⟨rk_RX12_345, List.forall_mem_cons.mpr ⟨rk_RX12_348, List.forall_mem_cons.mpr ⟨rk_RX12_351, List.forall_mem_cons.mpr ⟨rk_RX12_352, List.forall_mem_cons.mpr ⟨rk_RX12_355, List.forall_mem_cons.mpr ⟨rk_RX12_357, List.forall_mem_cons.mpr ⟨rk_RX12_360, List.forall_mem_cons.mpr ⟨rk_RX12_362, List.forall_mem_cons.mpr ⟨rk_RX12_365, List.forall_mem_nil _⟩⟩⟩⟩⟩⟩⟩⟩⟩⟩⟩⟩⟩⟩⟩⟩⟩⟩⟩⟩⟩⟩⟩⟩⟩⟩⟩⟩⟩⟩⟩⟩⟩⟩⟩⟩⟩⟩⟩⟩⟩⟩⟩⟩⟩⟩⟩⟩⟩⟩⟩⟩⟩⟩⟩⟩⟩⟩⟩⟩⟩⟩⟩⟩⟩⟩⟩⟩⟩⟩⟩⟩⟩⟩⟩⟩⟩⟩⟩⟩⟩⟩⟩⟩⟩⟩⟩⟩⟩⟩⟩⟩⟩⟩⟩⟩⟩⟩⟩⟩⟩⟩⟩⟩⟩⟩⟩⟩⟩⟩⟩⟩⟩⟩⟩⟩⟩⟩⟩⟩⟩⟩
def rt_RJ6 : List (Nat × ak_X) := [(265, (4, 0, 0, 1431655765)), (266, (4, 0, 0, 858993459)), (267, (4, 0, 0, 252645135))]
set_option maxRecDepth 100000 in
theorem rt_RJ6_ok : ∀ e ∈ rt_RJ6, ak_okr RJ6 e.1 e.2 := List.forall_mem_cons.mpr ⟨rk_RJ6_265, List.forall_mem_cons.mpr ⟨rk_RJ6_266, List.forall_mem_cons.mpr ⟨rk_RJ6_267, List.forall_mem_nil _⟩⟩⟩
def rt_RJ0 : List (Nat × ak_X) := [(9, (2, 0, 0, 0)), (15, (2, 1, 0, 0)), (38, (3, 2, 0, 0)), (335, (9, 74, 0, 0)), (492, (9, 76, 0, 0)), (495, (11, 77, 2, 0)), (498, (11, 80, 2, 0)), (1053, (3, 3, 0, 0)), (1059, (11, 79, 3, 0))]
set_option maxRecDepth 100000 in
theorem rt_RJ0_ok : ∀ e ∈ rt_RJ0, ak_okr RJ0 e.1 e.2 := List.forall_mem_cons.mpr ⟨rk_RJ0_9, List.forall_mem_cons.mpr ⟨rk_RJ0_15, List.forall_mem_cons.mpr ⟨rk_RJ0_38, List.forall_mem_cons.mpr ⟨rk_RJ0_335, List.forall_mem_cons.mpr ⟨rk_RJ0_492, List.forall_mem_cons.mpr ⟨rk_RJ0_495, List.forall_mem_cons.mpr ⟨rk_RJ0_498, List.forall_mem_cons.mpr ⟨rk_RJ0_1053, List.forall_mem_cons.mpr ⟨rk_RJ0_1059, List.forall_mem_nil _⟩⟩⟩⟩⟩⟩⟩⟩⟩
def rt_RJ1 : List (Nat × ak_X) := [(9, (11, 78, 2, 0))]
set_option maxRecDepth 100000 in
theorem rt_RJ1_ok : ∀ e ∈ rt_RJ1, ak_okr RJ1 e.1 e.2 := List.forall_mem_cons.mpr ⟨rk_RJ1_9, List.forall_mem_nil _⟩
def rt_RJ2 : List (Nat × ak_X) := [(44, (0, 0, 0, 0)), (48, (11, 82, 1, 0)), (59, (0, 0, 0, 0)), (63, (0, 0, 0, 0)), (67, (11, 81, 2, 0)), (71, (11, 83, 2, 0)), (414, (11, 78, 2, 0))]
set_option maxRecDepth 100000 in
theorem rt_RJ2_ok : ∀ e ∈ rt_RJ2, ak_okr RJ2 e.1 e.2 := List.forall_mem_cons.mpr ⟨rk_RJ2_44, List.forall_mem_cons.mpr ⟨rk_RJ2_48, List.forall_mem_cons.mpr ⟨rk_RJ2_59, List.forall_mem_cons.mpr ⟨rk_RJ2_63, List.forall_mem_cons.mpr ⟨rk_RJ2_67, List.forall_mem_cons.mpr ⟨rk_RJ2_71, List.forall_mem_cons.mpr ⟨rk_RJ2_414, List.forall_mem_nil _⟩⟩⟩⟩⟩⟩⟩
/-- a method's table speaks of its class's pool as that stands -/
def ak_coh (rt : List (Nat × ak_X)) : List ak_I → Bool
  | [] => true
  | none :: t => ak_coh rt t
  | some q :: t => (match ak_idx q.1 with
    | none => true
    | some i => match q.2.2.1 with
      | 0 => true
      | _ => rt.any (fun e => decide (e = (i, q.2.2)))) && ak_coh rt t
theorem ak_coh_at {rt : List (Nat × ak_X)} {own : String} (hr : ∀ e ∈ rt, ak_okr own e.1 e.2) : ∀ (l : List ak_I), ak_coh rt l = true → ∀ (k : Nat) (q : Instr × Nat × ak_X) (i : Nat), l[k]? = some (some q) → ak_idx q.1 = some i → ak_okr own i q.2.2
  | [], _, k, q, i, h, _ => by simp at h
  | a :: t, hc, k, q, i, h, hi => by
    cases k with
    | zero =>
      rw [List.getElem?_cons_zero] at h
      cases h
      simp only [ak_coh, Bool.and_eq_true, hi] at hc
      obtain ⟨ins, w, x⟩ := q
      obtain ⟨x0, x1, x2, x3⟩ := x
      have h1 := hc.1
      split at h1
      · rename_i e
        change x0 = 0 at e
        subst e
        trivial
      · obtain ⟨e, he, hd⟩ := List.any_eq_true.mp h1
        have hd := of_decide_eq_true hd
        have := hr e he
        rw [hd] at this
        exact this
    | succ k =>
      rw [List.getElem?_cons_succ] at h
      refine ak_coh_at hr t ?_ k q i h hi
      cases a with
      | none => exact hc
      | some a => simp only [ak_coh, Bool.and_eq_true] at hc; exact hc.2
/-- what is known of each method -/
def ak_mall (q : ak_Q) : Prop := ak_chk q.2.1 0 q.2.2.2.2.1 = true ∧ (∀ (k : Nat) (e : Instr × Nat × ak_X) (i : Nat), q.2.2.2.2.1[k]? = some (some e) → ak_idx e.1 = some i → ak_okr q.1.cls i e.2.2) ∧ (∀ r : vw_C, vwCl[q.2.2.2.2.2]? = some r → r.1 = q.1.cls)
set_option maxRecDepth 100000 in
theorem ma_0 : ak_mall q_0 := ⟨kd_0, ak_coh_at rt_RX11_ok _ (by decide +kernel), fun r h => by cases h; rfl⟩
set_option maxRecDepth 100000 in
theorem ma_1 : ak_mall q_1 := ⟨kd_1, ak_coh_at rt_RX8_ok _ (by decide +kernel), fun r h => by cases h; rfl⟩
set_option maxRecDepth 100000 in
theorem ma_2 : ak_mall q_2 := ⟨kd_2, ak_coh_at rt_RX6_ok _ (by decide +kernel), fun r h => by cases h; rfl⟩
set_option maxRecDepth 100000 in
theorem ma_3 : ak_mall q_3 := ⟨kd_3, ak_coh_at rt_RX3_ok _ (by decide +kernel), fun r h => by cases h; rfl⟩
set_option maxRecDepth 100000 in
theorem ma_4 : ak_mall q_4 := ⟨kd_4, ak_coh_at rt_RX4_ok _ (by decide +kernel), fun r h => by cases h; rfl⟩
set_option maxRecDepth 100000 in
theorem ma_5 : ak_mall q_5 := ⟨kd_5, ak_coh_at rt_RX9_ok _ (by decide +kernel), fun r h => by cases h; rfl⟩
set_option maxRecDepth 100000 in
theorem ma_6 : ak_mall q_6 := ⟨kd_6, ak_coh_at rt_RX2_ok _ (by decide +kernel), fun r h => by cases h; rfl⟩
set_option maxRecDepth 100000 in
theorem ma_7 : ak_mall q_7 := ⟨kd_7, ak_coh_at rt_RX1_ok _ (by decide +kernel), fun r h => by cases h; rfl⟩
set_option maxRecDepth 100000 in
theorem ma_8 : ak_mall q_8 := ⟨kd_8, ak_coh_at rt_RX0_ok _ (by decide +kernel), fun r h => by cases h; rfl⟩
set_option maxRecDepth 100000 in
theorem ma_9 : ak_mall q_9 := ⟨kd_9, ak_coh_at rt_RX10_ok _ (by decide +kernel), fun r h => by cases h; rfl⟩
set_option maxRecDepth 100000 in
theorem ma_10 : ak_mall q_10 := ⟨kd_10, ak_coh_at rt_RX10_ok _ (by decide +kernel), fun r h => by cases h; rfl⟩
set_option maxRecDepth 100000 in
theorem ma_11 : ak_mall q_11 := ⟨kd_11, ak_coh_at rt_RX10_ok _ (by decide +kernel), fun r h => by cases h; rfl⟩
set_option maxRecDepth 100000 in
theorem ma_12 : ak_mall q_12 := ⟨kd_12, ak_coh_at rt_RX5_ok _ (by decide +kernel), fun r h => by cases h; rfl⟩
set_option maxRecDepth 100000 in
theorem ma_13 : ak_mall q_13 := ⟨kd_13, ak_coh_at rt_RX7_ok _ (by decide +kernel), fun r h => by cases h; rfl⟩
set_option maxRecDepth 100000 in
theorem ma_14 : ak_mall q_14 := ⟨kd_14, ak_coh_at rt_RX11_ok _ (by decide +kernel), fun r h => by cases h; rfl⟩
set_option maxRecDepth 100000 in
theorem ma_15 : ak_mall q_15 := ⟨kd_15, ak_coh_at rt_RX8_ok _ (by decide +kernel), fun r h => by cases h; rfl⟩
set_option maxRecDepth 100000 in
theorem ma_16 : ak_mall q_16 := ⟨kd_16, ak_coh_at rt_RX8_ok _ (by decide +kernel), fun r h => by cases h; rfl⟩
set_option maxRecDepth 100000 in
theorem ma_17 : ak_mall q_17 := ⟨kd_17, ak_coh_at rt_RX8_ok _ (by decide +kernel), fun r h => by cases h; rfl⟩
set_option maxRecDepth 100000 in
theorem ma_18 : ak_mall q_18 := ⟨kd_18, ak_coh_at rt_RX8_ok _ (by decide +kernel), fun r h => by cases h; rfl⟩
set_option maxRecDepth 100000 in
theorem ma_19 : ak_mall q_19 := ⟨kd_19, ak_coh_at rt_RX8_ok _ (by decide +kernel), fun r h => by cases h; rfl⟩
set_option maxRecDepth 100000 in
theorem ma_20 : ak_mall q_20 := ⟨kd_20, ak_coh_at rt_RX8_ok _ (by decide +kernel), fun r h => by cases h; rfl⟩
set_option maxRecDepth 100000 in
theorem ma_21 : ak_mall q_21 := ⟨kd_21, ak_coh_at rt_RX11_ok _ (by decide +kernel), fun r h => by cases h; rfl⟩
set_option maxRecDepth 100000 in
theorem ma_22 : ak_mall q_22 := ⟨kd_22, ak_coh_at rt_RX8_ok _ (by decide +kernel), fun r h => by cases h; rfl⟩
set_option maxRecDepth 100000 in
theorem ma_23 : ak_mall q_23 := ⟨kd_23, ak_coh_at rt_RX8_ok _ (by decide +kernel), fun r h => by cases h; rfl⟩
set_option maxRecDepth 100000 in
theorem ma_24 : ak_mall q_24 := ⟨kd_24, ak_coh_at rt_RX11_ok _ (by decide +kernel), fun r h => by cases h; rfl⟩
set_option maxRecDepth 100000 in
theorem ma_25 : ak_mall q_25 := ⟨kd_25, ak_coh_at rt_RX11_ok _ (by decide +kernel), fun r h => by cases h; rfl⟩
set_option maxRecDepth 100000 in
theorem ma_26 : ak_mall q_26 := ⟨kd_26, ak_coh_at rt_RX11_ok _ (by decide +kernel), fun r h => by cases h; rfl⟩
set_option maxRecDepth 100000 in
theorem ma_27 : ak_mall q_27 := ⟨kd_27, ak_coh_at rt_RX6_ok _ (by decide +kernel), fun r h => by cases h; rfl⟩
set_option maxRecDepth 100000 in
theorem ma_28 : ak_mall q_28 := ⟨kd_28, ak_coh_at rt_RX8_ok _ (by decide +kernel), fun r h => by cases h; rfl⟩
set_option maxRecDepth 100000 in
theorem ma_29 : ak_mall q_29 := ⟨kd_29, ak_coh_at rt_RX6_ok _ (by decide +kernel), fun r h => by cases h; rfl⟩
set_option maxRecDepth 100000 in
theorem ma_30 : ak_mall q_30 := ⟨kd_30, ak_coh_at rt_RX6_ok _ (by decide +kernel), fun r h => by cases h; rfl⟩
set_option maxRecDepth 100000 in
theorem ma_31 : ak_mall q_31 := ⟨kd_31, ak_coh_at rt_RX6_ok _ (by decide +kernel), fun r h => by cases h; rfl⟩
set_option maxRecDepth 100000 in
theorem ma_32 : ak_mall q_32 := ⟨kd_32, ak_coh_at rt_RX8_ok _ (by decide +kernel), fun r h => by cases h; rfl⟩
set_option maxRecDepth 100000 in
theorem ma_33 : ak_mall q_33 := ⟨kd_33, ak_coh_at rt_RX8_ok _ (by decide +kernel), fun r h => by cases h; rfl⟩
set_option maxRecDepth 100000 in
theorem ma_34 : ak_mall q_34 := ⟨kd_34, ak_coh_at rt_RX6_ok _ (by decide +kernel), fun r h => by cases h; rfl⟩
set_option maxRecDepth 100000 in
theorem ma_35 : ak_mall q_35 := ⟨kd_35, ak_coh_at rt_RX10_ok _ (by decide +kernel), fun r h => by cases h; rfl⟩
set_option maxRecDepth 100000 in
theorem ma_36 : ak_mall q_36 := ⟨kd_36, ak_coh_at (rt := []) (List.forall_mem_nil _) _ (by decide +kernel), fun r h => by cases h⟩
set_option maxRecDepth 100000 in
theorem ma_37 : ak_mall q_37 := ⟨kd_37, ak_coh_at rt_RX10_ok _ (by decide +kernel), fun r h => by cases h; rfl⟩
set_option maxRecDepth 100000 in
theorem ma_38 : ak_mall q_38 := ⟨kd_38, ak_coh_at rt_RX10_ok _ (by decide +kernel), fun r h => by cases h; rfl⟩
set_option maxRecDepth 100000 in
theorem ma_39 : ak_mall q_39 := ⟨kd_39, ak_coh_at rt_RX10_ok _ (by decide +kernel), fun r h => by cases h; rfl⟩
set_option maxRecDepth 100000 in
theorem ma_40 : ak_mall q_40 := ⟨kd_40, ak_coh_at rt_RX6_ok _ (by decide +kernel), fun r h => by cases h; rfl⟩
set_option maxRecDepth 100000 in
theorem ma_41 : ak_mall q_41 := ⟨kd_41, ak_coh_at rt_RX0_ok _ (by decide +kernel), fun r h => by cases h; rfl⟩
set_option maxRecDepth 100000 in
theorem ma_42 : ak_mall q_42 := ⟨kd_42, ak_coh_at rt_RX1_ok _ (by decide +kernel), fun r h => by cases h; rfl⟩
set_option maxRecDepth 100000 in
theorem ma_43 : ak_mall q_43 := ⟨kd_43, ak_coh_at rt_RX2_ok _ (by decide +kernel), fun r h => by cases h; rfl⟩
set_option maxRecDepth 100000 in
theorem ma_44 : ak_mall q_44 := ⟨kd_44, ak_coh_at rt_RX9_ok _ (by decide +kernel), fun r h => by cases h; rfl⟩
set_option maxRecDepth 100000 in
theorem ma_45 : ak_mall q_45 := ⟨kd_45, ak_coh_at rt_RX3_ok _ (by decide +kernel), fun r h => by cases h; rfl⟩
set_option maxRecDepth 100000 in
theorem ma_46 : ak_mall q_46 := ⟨kd_46, ak_coh_at rt_RX3_ok _ (by decide +kernel), fun r h => by cases h; rfl⟩
set_option maxRecDepth 100000 in
theorem ma_47 : ak_mall q_47 := ⟨kd_47, ak_coh_at rt_RX11_ok _ (by decide +kernel), fun r h => by cases h; rfl⟩
set_option maxRecDepth 100000 in
theorem ma_48 : ak_mall q_48 := ⟨kd_48, ak_coh_at rt_RX6_ok _ (by decide +kernel), fun r h => by cases h; rfl⟩
set_option maxRecDepth 100000 in
theorem ma_49 : ak_mall q_49 := ⟨kd_49, ak_coh_at rt_RX6_ok _ (by decide +kernel), fun r h => by cases h; rfl⟩
set_option maxRecDepth 100000 in
theorem ma_50 : ak_mall q_50 := ⟨kd_50, ak_coh_at (rt := []) (List.forall_mem_nil _) _ (by decide +kernel), fun r h => by cases h⟩
set_option maxRecDepth 100000 in
theorem ma_51 : ak_mall q_51 := ⟨kd_51, ak_coh_at rt_RX0_ok _ (by decide +kernel), fun r h => by cases h; rfl⟩
set_option maxRecDepth 100000 in
theorem ma_52 : ak_mall q_52 := ⟨kd_52, ak_coh_at rt_RX1_ok _ (by decide +kernel), fun r h => by cases h; rfl⟩
set_option maxRecDepth 100000 in
theorem ma_53 : ak_mall q_53 := ⟨kd_53, ak_coh_at rt_RX9_ok _ (by decide +kernel), fun r h => by cases h; rfl⟩
set_option maxRecDepth 100000 in
theorem ma_54 : ak_mall q_54 := ⟨kd_54, ak_coh_at rt_RX2_ok _ (by decide +kernel), fun r h => by cases h; rfl⟩
set_option maxRecDepth 100000 in
theorem ma_55 : ak_mall q_55 := ⟨kd_55, ak_coh_at rt_RX4_ok _ (by decide +kernel), fun r h => by cases h; rfl⟩
set_option maxRecDepth 100000 in
theorem ma_56 : ak_mall q_56 := ⟨kd_56, ak_coh_at rt_RX3_ok _ (by decide +kernel), fun r h => by cases h; rfl⟩
set_option maxRecDepth 100000 in
theorem ma_57 : ak_mall q_57 := ⟨kd_57, ak_coh_at rt_RX6_ok _ (by decide +kernel), fun r h => by cases h; rfl⟩
set_option maxRecDepth 100000 in
theorem ma_58 : ak_mall q_58 := ⟨kd_58, ak_coh_at rt_RX0_ok _ (by decide +kernel), fun r h => by cases h; rfl⟩
set_option maxRecDepth 100000 in
theorem ma_59 : ak_mall q_59 := ⟨kd_59, ak_coh_at rt_RX1_ok _ (by decide +kernel), fun r h => by cases h; rfl⟩
set_option maxRecDepth 100000 in
theorem ma_60 : ak_mall q_60 := ⟨kd_60, ak_coh_at rt_RX4_ok _ (by decide +kernel), fun r h => by cases h; rfl⟩
set_option maxRecDepth 100000 in
theorem ma_61 : ak_mall q_61 := ⟨kd_61, ak_coh_at rt_RX9_ok _ (by decide +kernel), fun r h => by cases h; rfl⟩
set_option maxRecDepth 100000 in
theorem ma_62 : ak_mall q_62 := ⟨kd_62, ak_coh_at rt_RX3_ok _ (by decide +kernel), fun r h => by cases h; rfl⟩
set_option maxRecDepth 100000 in
theorem ma_63 : ak_mall q_63 := ⟨kd_63, ak_coh_at rt_RX11_ok _ (by decide +kernel), fun r h => by cases h; rfl⟩
set_option maxRecDepth 100000 in
theorem ma_64 : ak_mall q_64 := ⟨kd_64, ak_coh_at rt_RX11_ok _ (by decide +kernel), fun r h => by cases h; rfl⟩
set_option maxRecDepth 100000 in
theorem ma_65 : ak_mall q_65 := ⟨kd_65, ak_coh_at rt_RX11_ok _ (by decide +kernel), fun r h => by cases h; rfl⟩
set_option maxRecDepth 100000 in
theorem ma_66 : ak_mall q_66 := ⟨kd_66, ak_coh_at rt_RX10_ok _ (by decide +kernel), fun r h => by cases h; rfl⟩
set_option maxRecDepth 100000 in
theorem ma_67 : ak_mall q_67 := ⟨kd_67, ak_coh_at rt_RX10_ok _ (by decide +kernel), fun r h => by cases h; rfl⟩
set_option maxRecDepth 100000 in
theorem ma_68 : ak_mall q_68 := ⟨kd_68, ak_coh_at rt_RX10_ok _ (by decide +kernel), fun r h => by cases h; rfl⟩
set_option maxRecDepth 100000 in
theorem ma_69 : ak_mall q_69 := ⟨kd_69, ak_coh_at rt_RX10_ok _ (by decide +kernel), fun r h => by cases h; rfl⟩
set_option maxRecDepth 100000 in
theorem ma_70 : ak_mall q_70 := ⟨kd_70, ak_coh_at rt_RX10_ok _ (by decide +kernel), fun r h => by cases h; rfl⟩
set_option maxRecDepth 100000 in
theorem ma_71 : ak_mall q_71 := ⟨kd_71, ak_coh_at rt_RX10_ok _ (by decide +kernel), fun r h => by cases h; rfl⟩
set_option maxRecDepth 100000 in
theorem ma_72 : ak_mall q_72 := ⟨kd_72, ak_coh_at rt_RX10_ok _ (by decide +kernel), fun r h => by cases h; rfl⟩
set_option maxRecDepth 100000 in
theorem ma_73 : ak_mall q_73 := ⟨kd_73, ak_coh_at rt_RJ0_ok _ (by decide +kernel), fun r h => by cases h⟩
set_option maxRecDepth 100000 in
theorem ma_74 : ak_mall q_74 := ⟨kd_74, ak_coh_at rt_RJ0_ok _ (by decide +kernel), fun r h => by cases h⟩
set_option maxRecDepth 100000 in
theorem ma_75 : ak_mall q_75 := ⟨kd_75, ak_coh_at rt_RJ0_ok _ (by decide +kernel), fun r h => by cases h⟩
set_option maxRecDepth 100000 in
theorem ma_76 : ak_mall q_76 := ⟨kd_76, ak_coh_at rt_RJ0_ok _ (by decide +kernel), fun r h => by cases h⟩
set_option maxRecDepth 100000 in
theorem ma_77 : ak_mall q_77 := ⟨kd_77, ak_coh_at rt_RJ1_ok _ (by decide +kernel), fun r h => by cases h⟩
set_option maxRecDepth 100000 in
theorem ma_78 : ak_mall q_78 := ⟨kd_78, ak_coh_at rt_RJ0_ok _ (by decide +kernel), fun r h => by cases h⟩
set_option maxRecDepth 100000 in
theorem ma_79 : ak_mall q_79 := ⟨kd_79, ak_coh_at (rt := []) (List.forall_mem_nil _) _ (by decide +kernel), fun r h => by cases h⟩
set_option maxRecDepth 100000 in
theorem ma_80 : ak_mall q_80 := ⟨kd_80, ak_coh_at rt_RJ2_ok _ (by decide +kernel), fun r h => by cases h⟩
set_option maxRecDepth 100000 in
theorem ma_81 : ak_mall q_81 := ⟨kd_81, ak_coh_at rt_RJ2_ok _ (by decide +kernel), fun r h => by cases h⟩
set_option maxRecDepth 100000 in
theorem ma_82 : ak_mall q_82 := ⟨kd_82, ak_coh_at rt_RJ2_ok _ (by decide +kernel), fun r h => by cases h⟩
set_option maxRecDepth 100000 in
theorem ma_83 : ak_mall q_83 := ⟨kd_83, ak_coh_at rt_RJ2_ok _ (by decide +kernel), fun r h => by cases h⟩
set_option maxRecDepth 100000 in
theorem ma_84 : ak_mall q_84 := ⟨kd_84, ak_coh_at rt_RX10_ok _ (by decide +kernel), fun r h => by cases h; rfl⟩
set_option maxRecDepth 100000 in
theorem ma_85 : ak_mall q_85 := ⟨kd_85, ak_coh_at rt_RX10_ok _ (by decide +kernel), fun r h => by cases h; rfl⟩
set_option maxRecDepth 100000 in
theorem ma_86 : ak_mall q_86 := ⟨kd_86, ak_coh_at rt_RX10_ok _ (by decide +kernel), fun r h => by cases h; rfl⟩
set_option maxRecDepth 100000 in
theorem ma_87 : ak_mall q_87 := ⟨kd_87, ak_coh_at rt_RX10_ok _ (by decide +kernel), fun r h => by cases h; rfl⟩
set_option maxRecDepth 100000 in
theorem ma_88 : ak_mall q_88 := ⟨kd_88, ak_coh_at rt_RX10_ok _ (by decide +kernel), fun r h => by cases h; rfl⟩
set_option maxRecDepth 100000 in
theorem ma_89 : ak_mall q_89 := ⟨kd_89, ak_coh_at rt_RX10_ok _ (by decide +kernel), fun r h => by cases h; rfl⟩
set_option maxRecDepth 100000 in
theorem ma_90 : ak_mall q_90 := ⟨kd_90, ak_coh_at rt_RX10_ok _ (by decide +kernel), fun r h => by cases h; rfl⟩
set_option maxRecDepth 100000 in
theorem ma_91 : ak_mall q_91 := ⟨kd_91, ak_coh_at rt_RX10_ok _ (by decide +kernel), fun r h => by cases h; rfl⟩
set_option maxRecDepth 100000 in
theorem ma_92 : ak_mall q_92 := ⟨kd_92, ak_coh_at rt_RX10_ok _ (by decide +kernel), fun r h => by cases h; rfl⟩
set_option maxRecDepth 100000 in
theorem ma_93 : ak_mall q_93 := ⟨kd_93, ak_coh_at rt_RX10_ok _ (by decide +kernel), fun r h => by cases h; rfl⟩
set_option maxRecDepth 100000 in
theorem ma_94 : ak_mall q_94 := ⟨kd_94, ak_coh_at rt_RX10_ok _ (by decide +kernel), fun r h => by cases h; rfl⟩
set_option maxRecDepth 100000 in
theorem ma_95 : ak_mall q_95 := ⟨kd_95, ak_coh_at rt_RX10_ok _ (by decide +kernel), fun r h => by cases h; rfl⟩
set_option maxRecDepth 100000 in
theorem ma_96 : ak_mall q_96 := ⟨kd_96, ak_coh_at rt_RX10_ok _ (by decide +kernel), fun r h => by cases h; rfl⟩
set_option maxRecDepth 100000 in
theorem ma_97 : ak_mall q_97 := ⟨kd_97, ak_coh_at rt_RX10_ok _ (by decide +kernel), fun r h => by cases h; rfl⟩
set_option maxRecDepth 100000 in
theorem ma_98 : ak_mall q_98 := ⟨kd_98, ak_coh_at rt_RX10_ok _ (by decide +kernel), fun r h => by cases h; rfl⟩
set_option maxRecDepth 100000 in
theorem ma_99 : ak_mall q_99 := ⟨kd_99, ak_coh_at rt_RX11_ok _ (by decide +kernel), fun r h => by cases h; rfl⟩
set_option maxRecDepth 100000 in
theorem ma_100 : ak_mall q_100 := ⟨kd_100, ak_coh_at rt_RX11_ok _ (by decide +kernel), fun r h => by cases h; rfl⟩
set_option maxRecDepth 100000 in
theorem ma_101 : ak_mall q_101 := ⟨kd_101, ak_coh_at rt_RX5_ok _ (by decide +kernel), fun r h => by cases h; rfl⟩
set_option maxRecDepth 100000 in
theorem ma_102 : ak_mall q_102 := ⟨kd_102, ak_coh_at rt_RX8_ok _ (by decide +kernel), fun r h => by cases h; rfl⟩
set_option maxRecDepth 100000 in
theorem ma_103 : ak_mall q_103 := ⟨kd_103, ak_coh_at rt_RJ6_ok _ (by decide +kernel), fun r h => by cases h⟩
set_option maxRecDepth 100000 in
theorem ma_104 : ak_mall q_104 := ⟨kd_104, ak_coh_at rt_RX5_ok _ (by decide +kernel), fun r h => by cases h; rfl⟩
set_option maxRecDepth 100000 in
theorem ma_105 : ak_mall q_105 := ⟨kd_105, ak_coh_at rt_RX5_ok _ (by decide +kernel), fun r h => by cases h; rfl⟩
set_option maxRecDepth 100000 in
theorem ma_106 : ak_mall q_106 := ⟨kd_106, ak_coh_at rt_RX5_ok _ (by decide +kernel), fun r h => by cases h; rfl⟩
set_option maxRecDepth 100000 in
theorem ma_107 : ak_mall q_107 := ⟨kd_107, ak_coh_at rt_RX5_ok _ (by decide +kernel), fun r h => by cases h; rfl⟩
set_option maxRecDepth 100000 in
theorem ma_108 : ak_mall q_108 := ⟨kd_108, ak_coh_at rt_RX5_ok _ (by decide +kernel), fun r h => by cases h; rfl⟩
set_option maxRecDepth 100000 in
theorem ma_109 : ak_mall q_109 := ⟨kd_109, ak_coh_at rt_RX5_ok _ (by decide +kernel), fun r h => by cases h; rfl⟩
set_option maxRecDepth 100000 in
theorem ma_110 : ak_mall q_110 := ⟨kd_110, ak_coh_at rt_RX5_ok _ (by decide +kernel), fun r h => by cases h; rfl⟩
set_option maxRecDepth 100000 in
theorem ma_111 : ak_mall q_111 := ⟨kd_111, ak_coh_at rt_RX5_ok _ (by decide +kernel), fun r h => by cases h; rfl⟩
set_option maxRecDepth 100000 in
theorem ma_112 : ak_mall q_112 := ⟨kd_112, ak_coh_at rt_RX11_ok _ (by decide +kernel), fun r h => by cases h; rfl⟩
set_option maxRecDepth 100000 in
theorem ma_113 : ak_mall q_113 := ⟨kd_113, ak_coh_at rt_RX8_ok _ (by decide +kernel), fun r h => by cases h; rfl⟩
set_option maxRecDepth 100000 in
theorem ma_114 : ak_mall q_114 := ⟨kd_114, ak_coh_at rt_RX11_ok _ (by decide +kernel), fun r h => by cases h; rfl⟩
set_option maxRecDepth 100000 in
theorem ma_115 : ak_mall q_115 := ⟨kd_115, ak_coh_at rt_RX5_ok _ (by decide +kernel), fun r h => by cases h; rfl⟩
set_option maxRecDepth 100000 in
theorem ma_116 : ak_mall q_116 := ⟨kd_116, ak_coh_at rt_RX5_ok _ (by decide +kernel), fun r h => by cases h; rfl⟩
set_option maxRecDepth 100000 in
theorem ma_117 : ak_mall q_117 := ⟨kd_117, ak_coh_at rt_RX5_ok _ (by decide +kernel), fun r h => by cases h; rfl⟩
set_option maxRecDepth 100000 in
theorem ma_118 : ak_mall q_118 := ⟨kd_118, ak_coh_at rt_RX5_ok _ (by decide +kernel), fun r h => by cases h; rfl⟩
set_option maxRecDepth 100000 in
theorem ma_119 : ak_mall q_119 := ⟨kd_119, ak_coh_at rt_RX5_ok _ (by decide +kernel), fun r h => by cases h; rfl⟩
set_option maxRecDepth 100000 in
theorem ma_120 : ak_mall q_120 := ⟨kd_120, ak_coh_at rt_RX5_ok _ (by decide +kernel), fun r h => by cases h; rfl⟩
set_option maxRecDepth 100000 in
theorem ma_121 : ak_mall q_121 := ⟨kd_121, ak_coh_at rt_RX5_ok _ (by decide +kernel), fun r h => by cases h; rfl⟩
set_option maxRecDepth 100000 in
theorem ma_122 : ak_mall q_122 := ⟨kd_122, ak_coh_at rt_RX5_ok _ (by decide +kernel), fun r h => by cases h; rfl⟩
set_option maxRecDepth 100000 in
theorem ma_123 : ak_mall q_123 := ⟨kd_123, ak_coh_at rt_RX5_ok _ (by decide +kernel), fun r h => by cases h; rfl⟩
set_option maxRecDepth 100000 in
theorem ma_124 : ak_mall q_124 := ⟨kd_124, ak_coh_at rt_RX11_ok _ (by decide +kernel), fun r h => by cases h; rfl⟩
set_option maxRecDepth 100000 in
theorem ma_125 : ak_mall q_125 := ⟨kd_125, ak_coh_at rt_RX5_ok _ (by decide +kernel), fun r h => by cases h; rfl⟩
set_option maxRecDepth 100000 in
theorem ma_126 : ak_mall q_126 := ⟨kd_126, ak_coh_at rt_RX5_ok _ (by decide +kernel), fun r h => by cases h; rfl⟩
set_option maxRecDepth 100000 in
theorem ma_127 : ak_mall q_127 := ⟨kd_127, ak_coh_at rt_RX5_ok _ (by decide +kernel), fun r h => by cases h; rfl⟩
set_option maxRecDepth 100000 in
theorem ma_128 : ak_mall q_128 := ⟨kd_128, ak_coh_at rt_RX5_ok _ (by decide +kernel), fun r h => by cases h; rfl⟩
set_option maxRecDepth 100000 in
theorem ma_129 : ak_mall q_129 := ⟨kd_129, ak_coh_at rt_RX11_ok _ (by decide +kernel), fun r h => by cases h; rfl⟩
set_option maxRecDepth 100000 in
theorem ma_130 : ak_mall q_130 := ⟨kd_130, ak_coh_at rt_RX5_ok _ (by decide +kernel), fun r h => by cases h; rfl⟩
set_option maxRecDepth 100000 in
theorem ma_131 : ak_mall q_131 := ⟨kd_131, ak_coh_at rt_RX5_ok _ (by decide +kernel), fun r h => by cases h; rfl⟩
set_option maxRecDepth 100000 in
theorem ma_132 : ak_mall q_132 := ⟨kd_132, ak_coh_at rt_RX11_ok _ (by decide +kernel), fun r h => by cases h; rfl⟩
set_option maxRecDepth 100000 in
theorem ma_133 : ak_mall q_133 := ⟨kd_133, ak_coh_at rt_RX5_ok _ (by decide +kernel), fun r h => by cases h; rfl⟩
set_option maxRecDepth 100000 in
theorem ma_134 : ak_mall q_134 := ⟨kd_134, ak_coh_at rt_RX5_ok _ (by decide +kernel), fun r h => by cases h; rfl⟩
set_option maxRecDepth 100000 in
theorem ma_135 : ak_mall q_135 := ⟨kd_135, ak_coh_at rt_RX11_ok _ (by decide +kernel), fun r h => by cases h; rfl⟩
set_option maxRecDepth 100000 in
theorem ma_136 : ak_mall q_136 := ⟨kd_136, ak_coh_at rt_RX5_ok _ (by decide +kernel), fun r h => by cases h; rfl⟩
set_option maxRecDepth 100000 in
theorem ma_137 : ak_mall q_137 := ⟨kd_137, ak_coh_at rt_RX11_ok _ (by decide +kernel), fun r h => by cases h; rfl⟩
set_option maxRecDepth 100000 in
theorem ma_138 : ak_mall q_138 := ⟨kd_138, ak_coh_at rt_RX11_ok _ (by decide +kernel), fun r h => by cases h; rfl⟩
set_option maxRecDepth 100000 in
theorem ma_139 : ak_mall q_139 := ⟨kd_139, ak_coh_at rt_RX7_ok _ (by decide +kernel), fun r h => by cases h; rfl⟩
set_option maxRecDepth 100000 in
theorem ma_140 : ak_mall q_140 := ⟨kd_140, ak_coh_at rt_RX8_ok _ (by decide +kernel), fun r h => by cases h; rfl⟩
set_option maxRecDepth 100000 in
theorem ma_141 : ak_mall q_141 := ⟨kd_141, ak_coh_at rt_RX11_ok _ (by decide +kernel), fun r h => by cases h; rfl⟩
set_option maxRecDepth 100000 in
theorem ma_142 : ak_mall q_142 := ⟨kd_142, ak_coh_at rt_RX11_ok _ (by decide +kernel), fun r h => by cases h; rfl⟩
set_option maxRecDepth 100000 in
theorem ma_143 : ak_mall q_143 := ⟨kd_143, ak_coh_at rt_RX11_ok _ (by decide +kernel), fun r h => by cases h; rfl⟩
set_option maxRecDepth 100000 in
theorem ma_144 : ak_mall q_144 := ⟨kd_144, ak_coh_at rt_RX11_ok _ (by decide +kernel), fun r h => by cases h; rfl⟩
set_option maxRecDepth 100000 in
theorem ma_145 : ak_mall q_145 := ⟨kd_145, ak_coh_at rt_RX11_ok _ (by decide +kernel), fun r h => by cases h; rfl⟩
set_option maxRecDepth 100000 in
theorem ma_146 : ak_mall q_146 := ⟨kd_146, ak_coh_at rt_RX11_ok _ (by decide +kernel), fun r h => by cases h; rfl⟩
set_option maxRecDepth 100000 in
theorem ma_147 : ak_mall q_147 := ⟨kd_147, ak_coh_at rt_RX11_ok _ (by decide +kernel), fun r h => by cases h; rfl⟩
set_option maxRecDepth 100000 in
theorem ma_148 : ak_mall q_148 := ⟨kd_148, ak_coh_at rt_RX11_ok _ (by decide +kernel), fun r h => by cases h; rfl⟩
set_option maxRecDepth 100000 in
theorem ma_149 : ak_mall q_149 := ⟨kd_149, ak_coh_at rt_RX7_ok _ (by decide +kernel), fun r h => by cases h; rfl⟩
set_option maxRecDepth 100000 in
theorem ma_150 : ak_mall q_150 := ⟨kd_150, ak_coh_at rt_RX7_ok _ (by decide +kernel), fun r h => by cases h; rfl⟩
set_option maxRecDepth 100000 in
theorem ma_151 : ak_mall q_151 := ⟨kd_151, ak_coh_at rt_RX7_ok _ (by decide +kernel), fun r h => by cases h; rfl⟩
set_option maxRecDepth 100000 in
theorem ma_152 : ak_mall q_152 := ⟨kd_152, ak_coh_at rt_RX11_ok _ (by decide +kernel), fun r h => by cases h; rfl⟩
set_option maxRecDepth 100000 in
theorem ma_153 : ak_mall q_153 := ⟨kd_153, ak_coh_at rt_RX11_ok _ (by decide +kernel), fun r h => by cases h; rfl⟩
set_option maxRecDepth 100000 in
theorem ma_154 : ak_mall q_154 := ⟨kd_154, ak_coh_at rt_RX11_ok _ (by decide +kernel), fun r h => by cases h; rfl⟩
set_option maxRecDepth 100000 in
theorem ma_155 : ak_mall q_155 := ⟨kd_155, ak_coh_at rt_RX11_ok _ (by decide +kernel), fun r h => by cases h; rfl⟩
set_option maxRecDepth 100000 in
theorem ma_156 : ak_mall q_156 := ⟨kd_156, ak_coh_at rt_RX11_ok _ (by decide +kernel), fun r h => by cases h; rfl⟩
set_option maxRecDepth 100000 in
theorem ma_157 : ak_mall q_157 := ⟨kd_157, ak_coh_at rt_RX11_ok _ (by decide +kernel), fun r h => by cases h; rfl⟩
set_option maxRecDepth 100000 in
theorem ma_158 : ak_mall q_158 := ⟨kd_158, ak_coh_at rt_RX11_ok _ (by decide +kernel), fun r h => by cases h; rfl⟩
set_option maxRecDepth 100000 in
theorem ma_159 : ak_mall q_159 := ⟨kd_159, ak_coh_at rt_RX8_ok _ (by decide +kernel), fun r h => by cases h; rfl⟩
set_option maxRecDepth 100000 in
theorem ma_160 : ak_mall q_160 := ⟨kd_160, ak_coh_at rt_RX8_ok _ (by decide +kernel), fun r h => by cases h; rfl⟩
set_option maxRecDepth 100000 in
theorem ma_161 : ak_mall q_161 := ⟨kd_161, ak_coh_at rt_RX11_ok _ (by decide +kernel), fun r h => by cases h; rfl⟩
set_option maxRecDepth 100000 in
theorem ma_162 : ak_mall q_162 := ⟨kd_162, ak_coh_at rt_RX7_ok _ (by decide +kernel), fun r h => by cases h; rfl⟩
set_option maxRecDepth 100000 in
theorem ma_163 : ak_mall q_163 := ⟨kd_163, ak_coh_at rt_RX11_ok _ (by decide +kernel), fun r h => by cases h; rfl⟩
set_option maxRecDepth 100000 in
theorem ma_164 : ak_mall q_164 := ⟨kd_164, ak_coh_at rt_RX11_ok _ (by decide +kernel), fun r h => by cases h; rfl⟩
set_option maxRecDepth 100000 in
theorem ma_165 : ak_mall q_165 := ⟨kd_165, ak_coh_at rt_RX11_ok _ (by decide +kernel), fun r h => by cases h; rfl⟩
set_option maxRecDepth 100000 in
theorem ma_166 : ak_mall q_166 := ⟨kd_166, ak_coh_at rt_RX11_ok _ (by decide +kernel), fun r h => by cases h; rfl⟩
set_option maxRecDepth 100000 in
theorem ma_167 : ak_mall q_167 := ⟨kd_167, ak_coh_at rt_RX6_ok _ (by decide +kernel), fun r h => by cases h; rfl⟩
set_option maxRecDepth 100000 in
theorem ma_168 : ak_mall q_168 := ⟨kd_168, ak_coh_at rt_RX12_ok _ (by decide +kernel), fun r h => by cases h; rfl⟩
set_option maxRecDepth 100000 in
theorem ma_169 : ak_mall q_169 := ⟨kd_169, ak_coh_at rt_RX12_ok _ (by decide +kernel), fun r h => by cases h; rfl⟩
set_option maxRecDepth 100000 in
theorem ma_170 : ak_mall q_170 := ⟨kd_170, ak_coh_at rt_RX12_ok _ (by decide +kernel), fun r h => by cases h; rfl⟩
set_option maxRecDepth 100000 in
theorem ma_171 : ak_mall q_171 := ⟨kd_171, ak_coh_at rt_RX12_ok _ (by decide +kernel), fun r h => by cases h; rfl⟩
set_option maxRecDepth 100000 in
theorem ma_172 : ak_mall q_172 := ⟨kd_172, ak_coh_at rt_RX12_ok _ (by decide +kernel), fun r h => by cases h; rfl⟩
set_option maxRecDepth 100000 in
theorem ma_173 : ak_mall q_173 := ⟨kd_173, ak_coh_at rt_RX12_ok _ (by decide +kernel), fun r h => by cases h; rfl⟩
set_option maxRecDepth 100000 in
theorem ma_174 : ak_mall q_174 := ⟨kd_174, ak_coh_at rt_RX12_ok _ (by decide +kernel), fun r h => by cases h; rfl⟩
set_option maxRecDepth 100000 in
theorem ma_175 : ak_mall q_175 := ⟨kd_175, ak_coh_at rt_RX12_ok _ (by decide +kernel), fun r h => by cases h; rfl⟩
set_option maxRecDepth 100000 in
theorem ma_176 : ak_mall q_176 := ⟨kd_176, ak_coh_at rt_RX12_ok _ (by decide +kernel), fun r h => by cases h; rfl⟩
set_option maxRecDepth 100000 in
theorem ma_177 : ak_mall q_177 := ⟨kd_177, ak_coh_at rt_RX12_ok _ (by decide +kernel), fun r h => by cases h; rfl⟩
set_option maxRecDepth 100000 in
theorem ma_178 : ak_mall q_178 := ⟨kd_178, ak_coh_at rt_RX12_ok _ (by decide +kernel), fun r h => by cases h; rfl⟩
set_option maxRecDepth 100000 in
theorem ma_179 : ak_mall q_179 := ⟨kd_179, ak_coh_at rt_RX12_ok _ (by decide +kernel), fun r h => by cases h; rfl⟩
set_option maxRecDepth 100000 in
theorem ma_180 : ak_mall q_180 := ⟨kd_180, ak_coh_at rt_RX12_ok _ (by decide +kernel), fun r h => by cases h; rfl⟩
set_option maxRecDepth 100000 in
theorem ma_181 : ak_mall q_181 := ⟨kd_181, ak_coh_at rt_RX12_ok _ (by decide +kernel), fun r h => by cases h; rfl⟩
set_option maxRecDepth 100000 in
theorem ma_182 : ak_mall q_182 := ⟨kd_182, ak_coh_at rt_RX12_ok _ (by decide +kernel), fun r h => by cases h; rfl⟩
set_option maxRecDepth 100000 in
theorem ma_183 : ak_mall q_183 := ⟨kd_183, ak_coh_at rt_RX12_ok _ (by decide +kernel), fun r h => by cases h; rfl⟩
set_option maxRecDepth 100000 in
theorem ma_184 : ak_mall q_184 := ⟨kd_184, ak_coh_at rt_RX12_ok _ (by decide +kernel), fun r h => by cases h; rfl⟩
set_option maxRecDepth 100000 in
theorem ma_185 : ak_mall q_185 := ⟨kd_185, ak_coh_at rt_RX12_ok _ (by decide +kernel), fun r h => by cases h; rfl⟩
set_option maxRecDepth 100000 in
theorem ma_186 : ak_mall q_186 := ⟨kd_186, ak_coh_at rt_RX12_ok _ (by decide +kernel), fun r h => by cases h; rfl⟩
set_option maxRecDepth 100000 in
theorem ma_187 : ak_mall q_187 := ⟨kd_187, ak_coh_at rt_RX12_ok _ (by decide +kernel), fun r h => by cases h; rfl⟩
set_option maxRecDepth 100000 in
theorem ma_188 : ak_mall q_188 := ⟨kd_188, ak_coh_at rt_RX12_ok _ (by decide +kernel), fun r h => by cases h; rfl⟩
set_option maxRecDepth 100000 in
theorem ma_189 : ak_mall q_189 := ⟨kd_189, ak_coh_at rt_RX12_ok _ (by decide +kernel), fun r h => by cases h; rfl⟩
set_option maxRecDepth 100000 in
theorem ma_190 : ak_mall q_190 := ⟨kd_190, ak_coh_at rt_RX12_ok _ (by decide +kernel), fun r h => by cases h; rfl⟩
set_option maxRecDepth 100000 in
theorem ma_191 : ak_mall q_191 := ⟨kd_191, ak_coh_at rt_RX12_ok _ (by decide +kernel), fun r h => by cases h; rfl⟩
set_option maxRecDepth 100000 in
theorem ma_192 : ak_mall q_192 := ⟨kd_192, ak_coh_at rt_RX12_ok _ (by decide +kernel), fun r h => by cases h; rfl⟩
set_option maxRecDepth 100000 in
theorem ma_193 : ak_mall q_193 := ⟨kd_193, ak_coh_at rt_RX12_ok _ (by decide +kernel), fun r h => by cases h; rfl⟩
set_option maxRecDepth 100000 in
theorem ma_194 : ak_mall q_194 := ⟨kd_194, ak_coh_at rt_RX12_ok _ (by decide +kernel), fun r h => by cases h; rfl⟩
set_option maxRecDepth 100000 in
theorem ma_195 : ak_mall q_195 := ⟨kd_195, ak_coh_at rt_RX12_ok _ (by decide +kernel), fun r h => by cases h; rfl⟩
set_option maxRecDepth 100000 in
theorem ma_196 : ak_mall q_196 := ⟨kd_196, ak_coh_at rt_RX12_ok _ (by decide +kernel), fun r h => by cases h; rfl⟩
set_option maxRecDepth 100000 in
theorem ma_197 : ak_mall q_197 := ⟨kd_197, ak_coh_at rt_RX12_ok _ (by decide +kernel), fun r h => by cases h; rfl⟩
set_option maxRecDepth 100000 in
theorem ma_198 : ak_mall q_198 := ⟨kd_198, ak_coh_at rt_RX12_ok _ (by decide +kernel), fun r h => by cases h; rfl⟩
set_option maxRecDepth 100000 in
theorem ma_199 : ak_mall q_199 := ⟨kd_199, ak_coh_at rt_RX12_ok _ (by decide +kernel), fun r h => by cases h; rfl⟩
set_option maxRecDepth 100000 in
theorem ma_200 : ak_mall q_200 := ⟨kd_200, ak_coh_at rt_RX12_ok _ (by decide +kernel), fun r h => by cases h; rfl⟩
set_option maxRecDepth 100000 in
theorem ma_201 : ak_mall q_201 := ⟨kd_201, ak_coh_at rt_RX12_ok _ (by decide +kernel), fun r h => by cases h; rfl⟩
set_option maxRecDepth 100000 in
theorem ma_202 : ak_mall q_202 := ⟨kd_202, ak_coh_at rt_RX12_ok _ (by decide +kernel), fun r h => by cases h; rfl⟩
set_option maxRecDepth 100000 in
theorem ma_203 : ak_mall q_203 := ⟨kd_203, ak_coh_at rt_RX12_ok _ (by decide +kernel), fun r h => by cases h; rfl⟩
set_option maxRecDepth 100000 in
theorem ma_204 : ak_mall q_204 := ⟨kd_204, ak_coh_at rt_RX12_ok _ (by decide +kernel), fun r h => by cases h; rfl⟩
set_option maxRecDepth 100000 in
theorem ma_205 : ak_mall q_205 := ⟨kd_205, ak_coh_at rt_RX12_ok _ (by decide +kernel), fun r h => by cases h; rfl⟩
set_option maxRecDepth 100000 in
theorem ma_206 : ak_mall q_206 := ⟨kd_206, ak_coh_at rt_RX12_ok _ (by decide +kernel), fun r h => by cases h; rfl⟩
set_option maxRecDepth 100000 in
theorem ma_207 : ak_mall q_207 := ⟨kd_207, ak_coh_at rt_RX12_ok _ (by decide +kernel), fun r h => by cases h; rfl⟩
set_option maxRecDepth 100000 in
theorem ma_208 : ak_mall q_208 := ⟨kd_208, ak_coh_at rt_RX12_ok _ (by decide +kernel), fun r h => by cases h; rfl⟩
set_option maxRecDepth 100000 in
theorem ma_209 : ak_mall q_209 := ⟨kd_209, ak_coh_at rt_RX12_ok _ (by decide +kernel), fun r h => by cases h; rfl⟩
set_option maxRecDepth 100000 in
theorem ma_210 : ak_mall q_210 := ⟨kd_210, ak_coh_at rt_RX12_ok _ (by decide +kernel), fun r h => by cases h; rfl⟩
set_option maxRecDepth 100000 in
theorem ma_211 : ak_mall q_211 := ⟨kd_211, ak_coh_at rt_RX12_ok _ (by decide +kernel), fun r h => by cases h; rfl⟩
set_option maxRecDepth 100000 in
theorem ma_212 : ak_mall q_212 := ⟨kd_212, ak_coh_at rt_RX12_ok _ (by decide +kernel), fun r h => by cases h; rfl⟩
set_option maxRecDepth 100000 in
theorem ma_213 : ak_mall q_213 := ⟨kd_213, ak_coh_at rt_RX12_ok _ (by decide +kernel), fun r h => by cases h; rfl⟩
set_option maxRecDepth 100000 in
theorem ma_214 : ak_mall q_214 := ⟨kd_214, ak_coh_at rt_RX12_ok _ (by decide +kernel), fun r h => by cases h; rfl⟩
set_option maxRecDepth 100000 in
theorem ma_215 : ak_mall q_215 := ⟨kd_215, ak_coh_at rt_RX12_ok _ (by decide +kernel), fun r h => by cases h; rfl⟩
set_option maxRecDepth 100000 in
theorem ma_216 : ak_mall q_216 := ⟨kd_216, ak_coh_at rt_RX12_ok _ (by decide +kernel), fun r h => by cases h; rfl⟩
set_option maxRecDepth 100000 in
theorem ma_217 : ak_mall q_217 := ⟨kd_217, ak_coh_at rt_RX12_ok _ (by decide +kernel), fun r h => by cases h; rfl⟩
set_option maxRecDepth 100000 in
theorem ma_218 : ak_mall q_218 := ⟨kd_218, ak_coh_at rt_RX12_ok _ (by decide +kernel), fun r h => by cases h; rfl⟩
set_option maxRecDepth 100000 in
theorem ma_219 : ak_mall q_219 := ⟨kd_219, ak_coh_at rt_RX12_ok _ (by decide +kernel), fun r h => by cases h; rfl⟩
set_option maxRecDepth 100000 in
theorem ma_220 : ak_mall q_220 := ⟨kd_220, ak_coh_at rt_RX12_ok _ (by decide +kernel), fun r h => by cases h; rfl⟩
set_option maxRecDepth 100000 in
theorem ma_221 : ak_mall q_221 := ⟨kd_221, ak_coh_at rt_RX12_ok _ (by decide +kernel), fun r h => by cases h; rfl⟩
set_option maxRecDepth 100000 in
theorem ma_222 : ak_mall q_222 := ⟨kd_222, ak_coh_at rt_RX12_ok _ (by decide +kernel), fun r h => by cases h; rfl⟩
set_option maxRecDepth 100000 in
theorem ma_223 : ak_mall q_223 := ⟨kd_223, ak_coh_at rt_RX12_ok _ (by decide +kernel), fun r h => by cases h; rfl⟩
set_option maxRecDepth 100000 in
theorem ma_224 : ak_mall q_224 := ⟨kd_224, ak_coh_at rt_RX12_ok _ (by decide +kernel), fun r h => by cases h; rfl⟩
set_option maxRecDepth 100000 in
theorem ma_225 : ak_mall q_225 := ⟨kd_225, ak_coh_at rt_RX12_ok _ (by decide +kernel), fun r h => by cases h; rfl⟩
set_option maxRecDepth 100000 in
theorem ma_226 : ak_mall q_226 := ⟨kd_226, ak_coh_at rt_RX12_ok _ (by decide +kernel), fun r h => by cases h; rfl⟩
set_option maxRecDepth 100000 in
theorem ma_227 : ak_mall q_227 := ⟨kd_227, ak_coh_at rt_RX12_ok _ (by decide +kernel), fun r h => by cases h; rfl⟩
set_option maxRecDepth 100000 in
theorem ma_228 : ak_mall q_228 := ⟨kd_228, ak_coh_at rt_RX12_ok _ (by decide +kernel), fun r h => by cases h; rfl⟩
set_option maxRecDepth 100000 in
theorem ma_229 : ak_mall q_229 := ⟨kd_229, ak_coh_at rt_RX12_ok _ (by decide +kernel), fun r h => by cases h; rfl⟩
set_option maxRecDepth 100000 in
theorem ma_230 : ak_mall q_230 := ⟨kd_230, ak_coh_at rt_RX12_ok _ (by decide +kernel), fun r h => by cases h; rfl⟩
set_option maxRecDepth 100000 in
theorem ma_231 : ak_mall q_231 := ⟨kd_231, ak_coh_at rt_RX12_ok _ (by decide +kernel), fun r h => by cases h; rfl⟩
set_option maxRecDepth 100000 in
theorem ma_232 : ak_mall q_232 := ⟨kd_232, ak_coh_at rt_RX12_ok _ (by decide +kernel), fun r h => by cases h; rfl⟩
set_option maxRecDepth 100000 in
theorem ma_233 : ak_mall q_233 := ⟨kd_233, ak_coh_at rt_RX12_ok _ (by decide +kernel), fun r h => by cases h; rfl⟩
set_option maxRecDepth 100000 in
theorem ma_234 : ak_mall q_234 := ⟨kd_234, ak_coh_at rt_RX12_ok _ (by decide +kernel), fun r h => by cases h; rfl⟩
set_option maxRecDepth 100000 in
theorem ma_235 : ak_mall q_235 := ⟨kd_235, ak_coh_at rt_RX12_ok _ (by decide +kernel), fun r h => by cases h; rfl⟩
set_option maxRecDepth 100000 in
theorem ma_236 : ak_mall q_236 := ⟨kd_236, ak_coh_at rt_RX12_ok _ (by decide +kernel), fun r h => by cases h; rfl⟩
set_option maxRecDepth 100000 in
theorem ma_237 : ak_mall q_237 := ⟨kd_237, ak_coh_at rt_RX12_ok _ (by decide +kernel), fun r h => by cases h; rfl⟩
set_option maxRecDepth 100000 in
theorem ma_238 : ak_mall q_238 := ⟨kd_238, ak_coh_at rt_RX12_ok _ (by decide +kernel), fun r h => by cases h; rfl⟩
set_option maxRecDepth 100000 in
theorem ma_239 : ak_mall q_239 := ⟨kd_239, ak_coh_at rt_RX12_ok _ (by decide +kernel), fun r h => by cases h; rfl⟩
set_option maxRecDepth 100000 in
theorem ma_240 : ak_mall q_240 := ⟨kd_240, ak_coh_at rt_RX12_ok _ (by decide +kernel), fun r h => by cases h; rfl⟩
set_option maxRecDepth 100000 in
theorem ma_241 : ak_mall q_241 := ⟨kd_241, ak_coh_at rt_RX12_ok _ (by decide +kernel), fun r h => by cases h; rfl⟩
set_option maxRecDepth 100000 in
theorem ma_242 : ak_mall q_242 := ⟨kd_242, ak_coh_at rt_RX12_ok _ (by decide +kernel), fun r h => by cases h; rfl⟩
set_option maxRecDepth 100000 in
theorem ma_243 : ak_mall q_243 := ⟨kd_243, ak_coh_at rt_RX12_ok _ (by decide +kernel), fun r h => by cases h; rfl⟩
set_option maxRecDepth 100000 in
theorem ma_244 : ak_mall q_244 := ⟨kd_244, ak_coh_at rt_RX12_ok _ (by decide +kernel), fun r h => by cases h; rfl⟩
set_option maxRecDepth 100000 in
theorem ma_245 : ak_mall q_245 := ⟨kd_245, ak_coh_at rt_RX12_ok _ (by decide +kernel), fun r h => by cases h; rfl⟩
set_option maxRecDepth 100000 in
theorem ma_246 : ak_mall q_246 := ⟨kd_246, ak_coh_at rt_RX12_ok _ (by decide +kernel), fun r h => by cases h; rfl⟩
set_option maxRecDepth 100000 in
theorem ma_247 : ak_mall q_247 := ⟨kd_247, ak_coh_at rt_RL_ok _ (by decide +kernel), fun r h => by cases h⟩
set_option maxRecDepth 100000 in
theorem ak_all : ∀ q ∈ ak_M, ak_mall q := List.forall_mem_cons.mpr ⟨ma_0, List.forall_mem_cons.mpr ⟨ma_1, List.forall_mem_cons.mpr ⟨ma_2, List.forall_mem_cons.mpr ⟨ma_3, List.forall_mem_cons.mpr ⟨ma_4, List.forall_mem_cons.mpr ⟨ma_5, List.forall_mem_cons.mpr ⟨ma_6, List.forall_mem_cons.mpr ⟨ma_7, List.forall_mem_cons.mpr ⟨ma_8, List.forall_mem_cons.mpr ⟨ma_9, List.forall_mem_cons.mpr ⟨ma_10, List.forall_mem_cons.mpr ⟨ma_11, List.forall_mem_cons.mpr ⟨ma_12, List.forall_mem_cons.mpr ⟨ma_13, List.forall_mem_cons.mpr ⟨ma_14, List.forall_mem_cons.mpr ⟨ma_15, List.forall_mem_cons.mpr ⟨ma_16, List.forall_mem_cons.mpr ⟨ma_17, List.forall_mem_cons.mpr ⟨ma_18, List.forall_mem_cons.mpr ⟨ma_19, List.forall_mem_cons.mpr ⟨ma_20, List.forall_mem_cons.mpr ⟨ma_21, List.forall_mem_cons.mpr ⟨ma_22, List.forall_mem_cons.mpr ⟨ma_23, List.forall_mem_cons.mpr ⟨ma_24, List.forall_mem_cons.mpr ⟨ma_25, List.forall_mem_cons.mpr ⟨ma_26, List.forall_mem_cons.mpr ⟨ma_27, List.forall_mem_cons.mpr ⟨ma_28, List.forall_mem_cons.mpr ⟨ma_29, List.forall_mem_cons.mpr ⟨ma_30, List.forall_mem_cons.mpr ⟨ma_31, List.forall_mem_cons.mpr ⟨ma_32, List.forall_mem_cons.mpr ⟨ma_33, List.forall_mem_cons.mpr ⟨ma_34, List.forall_mem_cons.mpr ⟨ma_35, List.forall_mem_cons.mpr ⟨ma_36, List.forall_mem_cons.mpr ⟨ma_37, List.forall_mem_cons.mpr ⟨ma_38, List.forall_mem_cons.mpr ⟨ma_39, List.forall_mem_cons.mpr ⟨ma_40, List.forall_mem_cons.mpr ⟨ma_41, List.forall_mem_cons.mpr ⟨ma_42, List.forall_mem_cons.mpr ⟨ma_43, List.forall_mem_cons.mpr ⟨ma_44, List.forall_mem_cons.mpr ⟨ma_45, List.forall_mem_cons.mpr ⟨ma_46, List.forall_mem_cons.mpr ⟨ma_47, List.forall_mem_cons.mpr ⟨ma_48, List.forall_mem_cons.mpr ⟨ma_49, List.forall_mem_cons.mpr ⟨ma_50, List.forall_mem_cons.mpr ⟨ma_51, List.forall_mem_cons.mpr ⟨ma_52, List.forall_mem_cons.mpr ⟨ma_53, List.forall_mem_cons.mpr ⟨ma_54, List.forall_mem_cons.mpr ⟨ma_55, List.forall_mem_cons.mpr ⟨ma_56, List.forall_mem_cons.mpr ⟨ma_57, List.forall_mem_cons.mpr ⟨ma_58, List.forall_mem_cons.mpr ⟨ma_59, List.forall_mem_cons.mpr ⟨ma_60, List.forall_mem_cons.mpr ⟨ma_61, List.forall_mem_cons.mpr ⟨ma_62, List.forall_mem_cons.mpr ⟨ma_63, List.forall_mem_cons.mpr ⟨ma_64, List.forall_mem_cons.mpr ⟨ma_65, List.forall_mem_cons.mpr ⟨ma_66, List.forall_mem_cons.mpr ⟨ma_67, List.forall_mem_cons.mpr ⟨ma_68, List.forall_mem_cons.mpr ⟨ma_69, List.forall_mem_cons.mpr ⟨ma_70, List.forall_mem_cons.mpr ⟨ma_71, List.forall_mem_cons.mpr ⟨ma_72, List.forall_mem_cons.mpr ⟨ma_73, List.forall_mem_cons.mpr ⟨ma_74, List.forall_mem_cons.mpr ⟨ma_75, List.forall_mem_cons.mpr ⟨ma_76, List.forall_mem_cons.mpr ⟨ma_77, List.forall_mem_cons.mpr ⟨ma_78, List.forall_mem_cons.mpr ⟨ma_79, List.forall_mem_cons.mpr ⟨ma_80, List.forall_mem_cons.mpr ⟨ma_81, List.forall_mem_cons.mpr ⟨ma_82, List.forall_mem_cons.mpr ⟨ma_83, List.forall_mem_cons.mpr ⟨ma_84, List.forall_mem_cons.mpr ⟨ma_85, List.forall_mem_cons.mpr ⟨ma_86, List.forall_mem_cons.mpr ⟨ma_87, List.forall_mem_cons.mpr ⟨ma_88, List.forall_mem_cons.mpr ⟨ma_89, List.forall_mem_cons.mpr ⟨ma_90, List.forall_mem_cons.mpr ⟨ma_91, List.forall_mem_cons.mpr ⟨ma_92, List.forall_mem_cons.mpr ⟨ma_93, List.forall_mem_cons.mpr ⟨ma_94, List.forall_mem_cons.mpr ⟨ma_95, List.forall_mem_cons.mpr ⟨ma_96, List.forall_mem_cons.mpr ⟨ma_97, List.forall_mem_cons.mpr ⟨ma_98, List.forall_mem_cons.mpr ⟨ma_99, List.forall_mem_cons.mpr ⟨ma_100, List.forall_mem_cons.mpr ⟨ma_101, List.forall_mem_cons.mpr ⟨ma_102, List.forall_mem_cons.mpr ⟨ma_103, List.forall_mem_cons.mpr ⟨ma_104, List.forall_mem_cons.mpr ⟨ma_105, List.forall_mem_cons.mpr ⟨ma_106, List.forall_mem_cons.mpr ⟨ma_107, List.forall_mem_cons.mpr ⟨ma_108, List.forall_mem_cons.mpr ⟨ma_109, List.forall_mem_cons.mpr ⟨ma_110, List.forall_mem_cons.mpr ⟨ma_111, List.forall_mem_cons.mpr ⟨ma_112, List.forall_mem_cons.mpr ⟨ma_113, List.forall_mem_cons.mpr ⟨ma_114, List.forall_mem_cons.mpr ⟨ma_115, List.forall_mem_cons.mpr ⟨ma_116, List.forall_mem_cons.mpr ⟨ma_117, List.forall_mem_cons.mpr ⟨ma_118, List.forall_mem_cons.mpr ⟨ma_119, List.forall_mem_cons.mpr ⟨ma_120, List.forall_mem_cons.mpr ⟨ma_121, List.forall_mem_cons.mpr ⟨ma_122, List.forall_mem_cons.mpr ⟨ma_123, List.forall_mem_cons.mpr ⟨ma_124, List.forall_mem_cons.mpr ⟨ma_125, List.forall_mem_cons.mpr ⟨ma_126, List.forall_mem_cons.mpr ⟨ma_127, List.forall_mem_cons.mpr ⟨ma_128, List.forall_mem_cons.mpr ⟨ma_129, List.forall_mem_cons.mpr ⟨ma_130, List.forall_mem_cons.mpr ⟨ma_131, List.forall_mem_cons.mpr ⟨ma_132, List.forall_mem_cons.mpr ⟨ma_133, List.forall_mem_cons.mpr ⟨ma_134, List.forall_mem_cons.mpr ⟨ma_135, List.forall_mem_cons.mpr ⟨ma_136, List.forall_mem_cons.mpr ⟨ma_137, List.forall_mem_cons.mpr ⟨ma_138, List.forall_mem_cons.mpr ⟨ma_139, List.forall_mem_cons.mpr ⟨ma_140, List.forall_mem_cons.mpr ⟨ma_141, List.forall_mem_cons.mpr ⟨ma_142, List.forall_mem_cons.mpr ⟨ma_143, List.forall_mem_cons.mpr ⟨ma_144, List.forall_mem_cons.mpr ⟨ma_145, List.forall_mem_cons.mpr ⟨ma_146, List.forall_mem_cons.mpr ⟨ma_147, List.forall_mem_cons.mpr ⟨ma_148, List.forall_mem_cons.mpr ⟨ma_149, List.forall_mem_cons.mpr ⟨ma_150, List.forall_mem_cons.mpr ⟨ma_151, List.forall_mem_cons.mpr ⟨ma_152, List.forall_mem_cons.mpr ⟨ma_153, List.forall_mem_cons.mpr ⟨ma_154, List.forall_mem_cons.mpr ⟨ma_155, List.forall_mem_cons.mpr ⟨ma_156, List.forall_mem_cons.mpr ⟨ma_157, List.forall_mem_cons.mpr ⟨ma_158, List.forall_mem_cons.mpr ⟨ma_159, List.forall_mem_cons.mpr ⟨ma_160, List.forall_mem_cons.mpr ⟨ma_161, List.forall_mem_cons.mpr ⟨ma_162, List.forall_mem_cons.mpr ⟨ma_163, List.forall_mem_cons.mpr ⟨ma_164, List.forall_mem_cons.mpr ⟨ma_165, List.forall_mem_cons.mpr ⟨ma_166, List.forall_mem_cons.mpr ⟨ma_167, List.forall_mem_cons.mpr ⟨ma_168, List.forall_mem_cons.mpr ⟨ma_169, List.forall_mem_cons.mpr ⟨ma_170, List.forall_mem_cons.mpr ⟨ma_171, List.forall_mem_cons.mpr ⟨ma_172, List.forall_mem_cons.mpr ⟨ma_173, List.forall_mem_cons.mpr ⟨ma_174, List.forall_mem_cons.mpr ⟨ma_175, List.forall_mem_cons.mpr ⟨ma_176, List.forall_mem_cons.mpr ⟨ma_177, List.forall_mem_cons.mpr ⟨ma_178, List.forall_mem_cons.mpr ⟨ma_179, List.forall_mem_cons.mpr ⟨ma_180, List.forall_mem_cons.mpr ⟨ma_181, List.forall_mem_cons.mpr ⟨ma_182, List.forall_mem_cons.mpr ⟨ma_183, List.forall_mem_cons.mpr ⟨ma_184, List.forall_mem_cons.mpr ⟨ma_185, List.forall_mem_cons.mpr ⟨ma_186, List.forall_mem_cons.mpr ⟨ma_187, List.forall_mem_cons.mpr ⟨ma_188, List.forall_mem_cons.mpr ⟨ma_189, List.forall_mem_cons.mpr ⟨ma_190, List.forall_mem_cons.mpr ⟨ma_191, List.forall_mem_cons.mpr ⟨ma_192, List.forall_mem_cons.mpr ⟨ma_193, List.forall_mem_cons.mpr ⟨ma_194, List.forall_mem_cons.mpr ⟨ma_195, List.forall_mem_cons.mpr ⟨ma_196, List.forall_mem_cons.mpr ⟨ma_197, List.forall_mem_cons.mpr ⟨ma_198, List.forall_mem_cons.mpr ⟨ma_199, List.forall_mem_cons.mpr ⟨ma_200, List.forall_mem_cons.mpr ⟨ma_201, List.forall_mem_cons.mpr ⟨ma_202, List.forall_mem_cons.mpr ⟨ma_203, List.forall_mem_cons.mpr ⟨ma_204, List.forall_mem_cons.mpr ⟨ma_205, List.forall_mem_cons.mpr ⟨ma_206, List.forall_mem_cons.mpr ⟨ma_207, List.forall_mem_cons.mpr ⟨ma_208, List.forall_mem_cons.mpr ⟨ma_209, List.forall_mem_cons.mpr ⟨ma_210, List.forall_mem_cons.mpr ⟨ma_211, List.forall_mem_cons.mpr ⟨ma_212, List.forall_mem_cons.mpr ⟨ma_213, List.forall_mem_cons.mpr ⟨ma_214, List.forall_mem_cons.mpr ⟨ma_215, List.forall_mem_cons.mpr ⟨ma_216, List.forall_mem_cons.mpr ⟨ma_217, List.forall_mem_cons.mpr ⟨ma_218, List.forall_mem_cons.mpr ⟨ma_219, List.forall_mem_cons.mpr ⟨ma_220, List.forall_mem_cons.mpr ⟨ma_221, List.forall_mem_cons.mpr ⟨ma_222, List.forall_mem_cons.mpr ⟨ma_223, List.forall_mem_cons.mpr ⟨ma_224, List.forall_mem_cons.mpr ⟨ma_225, List.forall_mem_cons.mpr ⟨ma_226, List.forall_mem_cons.mpr ⟨ma_227, List.forall_mem_cons.mpr ⟨ma_228, List.forall_mem_cons.mpr ⟨ma_229, List.forall_mem_cons.mpr ⟨ma_230, List.forall_mem_cons.mpr ⟨ma_231, List.forall_mem_cons.mpr ⟨ma_232, List.forall_mem_cons.mpr ⟨ma_233, List.forall_mem_cons.mpr ⟨ma_234, List.forall_mem_cons.mpr ⟨ma_235, List.forall_mem_cons.mpr ⟨ma_236, List.forall_mem_cons.mpr ⟨ma_237, List.forall_mem_cons.mpr ⟨ma_238, List.forall_mem_cons.mpr ⟨ma_239, List.forall_mem_cons.mpr ⟨ma_240, List.forall_mem_cons.mpr ⟨ma_241, List.forall_mem_cons.mpr ⟨ma_242, List.forall_mem_cons.mpr ⟨ma_243, List.forall_mem_cons.mpr ⟨ma_244, List.forall_mem_cons.mpr ⟨ma_245, List.forall_mem_cons.mpr ⟨ma_246, List.forall_mem_cons.mpr ⟨ma_247, List.forall_mem_nil _⟩⟩⟩⟩⟩⟩⟩⟩⟩⟩⟩⟩⟩⟩⟩⟩⟩⟩⟩⟩⟩⟩⟩⟩⟩⟩⟩⟩⟩⟩⟩⟩⟩⟩⟩⟩⟩⟩⟩⟩⟩⟩⟩⟩⟩⟩⟩⟩⟩⟩⟩⟩⟩⟩⟩⟩⟩⟩⟩⟩⟩⟩⟩⟩⟩⟩⟩⟩⟩⟩⟩⟩⟩⟩⟩⟩⟩⟩⟩⟩⟩⟩⟩⟩⟩⟩⟩⟩⟩⟩⟩⟩⟩⟩⟩⟩⟩⟩⟩⟩⟩⟩⟩⟩⟩⟩⟩⟩⟩⟩⟩⟩⟩⟩⟩⟩⟩⟩⟩⟩⟩⟩⟩⟩⟩⟩⟩⟩⟩⟩⟩⟩⟩⟩⟩⟩⟩⟩⟩⟩⟩⟩⟩⟩⟩⟩⟩⟩⟩⟩⟩⟩⟩⟩⟩⟩⟩⟩⟩⟩⟩⟩⟩⟩⟩⟩⟩⟩⟩⟩⟩⟩⟩⟩⟩⟩⟩⟩⟩⟩⟩⟩⟩⟩⟩⟩⟩⟩⟩⟩⟩⟩⟩⟩⟩⟩⟩⟩⟩⟩⟩⟩⟩⟩⟩⟩⟩⟩⟩⟩⟩⟩⟩⟩⟩⟩⟩⟩⟩⟩⟩⟩⟩⟩⟩⟩⟩⟩⟩⟩⟩⟩⟩⟩⟩⟩⟩⟩⟩⟩⟩⟩⟩⟩⟩⟩⟩⟩
