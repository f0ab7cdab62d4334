def zFc (e : Nat × Nat × Nat × Nat × Nat) : Cond := match e.2.2.2.1 with
  | 0 => .fieldLink (zR (e.1 / 1000)) (e.1 % 1000) (zT e.2.1 e.2.2.1).1 (zT e.2.1 e.2.2.1).2.1 (zT e.2.1 e.2.2.1).2.2.1
  | _ => .fieldLinkNest (zR (e.1 / 1000)) (e.1 % 1000) (zT e.2.1 e.2.2.1).1 (zT e.2.1 e.2.2.1).2.1 (zT e.2.1 e.2.2.1).2.2.1 "AlbumSetter"
theorem zFl_ok : ∀ e ∈ zFl, lw_tbl[e.2.2.2.2]? = some (zFc e) ∧ e.2.1 < 8 ∧ e.2.2.1 < zN e.2.1 := by decide +kernel
def zYc (n : Nat) : MethodName := cond (Nat.beq n 999) objectInit (mY n)
def zMc (e : Nat × Nat × Nat × Nat) : Cond := match e.2.2.1 with
  | 0 => .methodLink (zR (e.1 / 1000)) (e.1 % 1000) (zYc e.2.1)
  | _ => .methodLinkNest (zR (e.1 / 1000)) (e.1 % 1000) (zYc e.2.1) "AlbumSetter"
theorem zMl_ok : ∀ e ∈ zMl, lw_tbl[e.2.2.2]? = some (zMc e) ∧ (e.2.1 < 131 ∨ (e.2.2.1 = 0 ∧ (e.2.1 = 131 ∨ e.2.1 = 132 ∨ e.2.1 = 999))) := by decide +kernel
theorem zCl_ok : ∀ e ∈ zCl, lw_tbl[e.2.2]? = some (.classLink (zR (e.1 / 1000)) (e.1 % 1000) (zR e.2.1)) ∧ e.2.1 < 8 := by decide +kernel
def zsC : Nat → String := fun k => match k with | 4 => "AlbumSetter$Sheet" | _ => "AlbumSetter$Tree"
def zsN : Nat → String := fun k => match k with | 0 => "ONE_CUT_TREES" | 1 => "FIRST_ROW" | 2 => "PART_SIZES" | 3 => "TREE_OF_THREE" | _ => "FIRST_TREE"
theorem zSl_ok : ∀ e ∈ zSl, lw_tbl[e.2.2]? = some (.fieldLink (zR (e.1 / 1000)) (e.1 % 1000) (zsC e.2.1) (zsN e.2.1) "[I") ∧ e.2.1 < 5 := by decide +kernel
theorem zKl_ok : ∀ e ∈ zKl, lw_tbl[e.2.2]? = some (.constant (zR (e.1 / 1000)) (e.1 % 1000) e.2.1) := by decide +kernel
theorem zLl_ok : ∀ e ∈ zLl, lw_tbl[e.2.2]? = some (.constantLong (zR (e.1 / 1000)) (e.1 % 1000) e.2.1) := by decide +kernel
def zpC : Nat → Nat := fun m => match m with
  | 0 => 68
  | 1 => 391
  | 2 => 403
  | 3 => 447
  | 4 => 441
  | 5 => 547
  | 6 => 380
  | 7 => 399
  | 8 => 411
  | 9 => 356
  | 10 => 283
  | 11 => 369
  | 12 => 523
  | 13 => 556
  | 14 => 564
  | 15 => 593
  | 16 => 577
  | 17 => 585
  | 18 => 601
  | 19 => 527
  | 20 => 533
  | 21 => 543
  | 22 => 538
  | 23 => 552
  | 24 => 560
  | 25 => 97
  | 26 => 611
  | 27 => 348
  | 28 => 615
  | 29 => 352
  | 30 => 148
  | 31 => 459
  | 32 => 463
  | 33 => 467
  | 34 => 471
  | 35 => 116
  | 36 => 436
  | 37 => 451
  | 38 => 512
  | 39 => 493
  | 40 => 501
  | 41 => 484
  | 42 => 455
  | 43 => 475
  | 44 => 478
  | 45 => 134
  | 46 => 122
  | 47 => 140
  | 48 => 143
  | 49 => 224
  | 50 => 221
  | 51 => 60
  | 52 => 339
  | 53 => 373
  | 54 => 387
  | 55 => 395
  | 56 => 407
  | 57 => 415
  | 58 => 420
  | 59 => 425
  | 60 => 432
  | 61 => 489
  | 62 => 497
  | 63 => 508
  | 64 => 519
  | 65 => 568
  | 66 => 573
  | 67 => 581
  | 68 => 589
  | 69 => 597
  | 70 => 607
  | 71 => 344
  | 72 => 364
  | 73 => 376
  | 74 => 227
  | 75 => 127
  | 76 => 383
  | 77 => 620
  | 78 => 748
  | 79 => 878
  | 80 => 744
  | 81 => 784
  | 82 => 886
  | 83 => 890
  | 84 => 874
  | 85 => 882
  | 86 => 894
  | 87 => 898
  | 88 => 902
  | 89 => 906
  | 90 => 788
  | 91 => 780
  | 92 => 776
  | 93 => 812
  | 94 => 816
  | 95 => 820
  | 96 => 808
  | 97 => 910
  | 98 => 772
  | 99 => 914
  | 100 => 832
  | 101 => 828
  | 102 => 836
  | 103 => 848
  | 104 => 824
  | 105 => 844
  | 106 => 860
  | 107 => 856
  | 108 => 768
  | 109 => 840
  | 110 => 804
  | 111 => 918
  | 112 => 852
  | 113 => 923
  | 114 => 800
  | 115 => 927
  | 116 => 796
  | 117 => 931
  | 118 => 792
  | 119 => 764
  | 120 => 760
  | 121 => 866
  | 122 => 870
  | 123 => 756
  | 124 => 752
  | 125 => 935
  | 126 => 939
  | 127 => 943
  | 128 => 947
  | 129 => 951
  | 130 => 955
  | _ => 0
def zpI : Nat → Nat := fun m => match m with
  | 0 => 67
  | 1 => 389
  | 2 => 401
  | 3 => 445
  | 4 => 439
  | 5 => 545
  | 6 => 378
  | 7 => 397
  | 8 => 409
  | 9 => 354
  | 10 => 282
  | 11 => 367
  | 12 => 521
  | 13 => 554
  | 14 => 562
  | 15 => 591
  | 16 => 575
  | 17 => 583
  | 18 => 599
  | 19 => 526
  | 20 => 532
  | 21 => 542
  | 22 => 537
  | 23 => 551
  | 24 => 559
  | 25 => 96
  | 26 => 609
  | 27 => 346
  | 28 => 613
  | 29 => 351
  | 30 => 147
  | 31 => 457
  | 32 => 461
  | 33 => 465
  | 34 => 469
  | 35 => 115
  | 36 => 434
  | 37 => 449
  | 38 => 510
  | 39 => 491
  | 40 => 499
  | 41 => 482
  | 42 => 454
  | 43 => 474
  | 45 => 133
  | 50 => 220
  | 51 => 59
  | 52 => 337
  | 53 => 371
  | 54 => 385
  | 55 => 393
  | 56 => 405
  | 57 => 413
  | 58 => 418
  | 59 => 423
  | 60 => 430
  | 61 => 487
  | 62 => 495
  | 63 => 506
  | 64 => 517
  | 65 => 566
  | 66 => 571
  | 67 => 579
  | 68 => 587
  | 69 => 595
  | 70 => 605
  | 71 => 343
  | 72 => 363
  | 77 => 619
  | 78 => 747
  | 79 => 877
  | 80 => 742
  | 81 => 783
  | 82 => 885
  | 83 => 889
  | 84 => 872
  | 85 => 880
  | 86 => 892
  | 87 => 896
  | 88 => 900
  | 89 => 904
  | 90 => 787
  | 91 => 779
  | 92 => 775
  | 93 => 811
  | 94 => 815
  | 95 => 819
  | 96 => 807
  | 97 => 908
  | 98 => 771
  | 99 => 912
  | 100 => 831
  | 101 => 827
  | 102 => 835
  | 103 => 847
  | 104 => 823
  | 105 => 843
  | 106 => 859
  | 107 => 855
  | 108 => 767
  | 109 => 839
  | 110 => 803
  | 111 => 916
  | 112 => 851
  | 113 => 921
  | 114 => 799
  | 115 => 925
  | 116 => 795
  | 117 => 929
  | 118 => 791
  | 119 => 763
  | 120 => 759
  | 121 => 865
  | 122 => 869
  | 123 => 755
  | 124 => 751
  | 125 => 933
  | 126 => 937
  | 127 => 941
  | 128 => 945
  | 129 => 949
  | 130 => 953
  | _ => 0
def zpS : Nat → Nat := fun m => match m with
  | 1 => 390
  | 2 => 402
  | 3 => 446
  | 4 => 440
  | 5 => 546
  | 6 => 379
  | 7 => 398
  | 8 => 410
  | 9 => 355
  | 11 => 368
  | 12 => 522
  | 13 => 555
  | 14 => 563
  | 15 => 592
  | 16 => 576
  | 17 => 584
  | 18 => 600
  | 19 => 6
  | 20 => 7
  | 21 => 9
  | 22 => 8
  | 23 => 10
  | 24 => 11
  | 26 => 610
  | 27 => 347
  | 28 => 614
  | 29 => 2
  | 31 => 458
  | 32 => 462
  | 33 => 466
  | 34 => 470
  | 36 => 435
  | 37 => 450
  | 38 => 511
  | 39 => 492
  | 40 => 500
  | 41 => 483
  | 42 => 4
  | 43 => 5
  | 50 => 0
  | 52 => 338
  | 53 => 372
  | 54 => 386
  | 55 => 394
  | 56 => 406
  | 57 => 414
  | 58 => 419
  | 59 => 424
  | 60 => 431
  | 61 => 488
  | 62 => 496
  | 63 => 507
  | 64 => 518
  | 65 => 567
  | 66 => 572
  | 67 => 580
  | 68 => 588
  | 69 => 596
  | 70 => 606
  | 71 => 1
  | 72 => 3
  | 78 => 12
  | 79 => 43
  | 80 => 743
  | 81 => 21
  | 82 => 44
  | 83 => 45
  | 84 => 873
  | 85 => 881
  | 86 => 893
  | 87 => 897
  | 88 => 901
  | 89 => 905
  | 90 => 22
  | 91 => 20
  | 92 => 19
  | 93 => 28
  | 94 => 29
  | 95 => 30
  | 96 => 27
  | 97 => 909
  | 98 => 18
  | 99 => 913
  | 100 => 33
  | 101 => 32
  | 102 => 34
  | 103 => 37
  | 104 => 31
  | 105 => 36
  | 106 => 40
  | 107 => 39
  | 108 => 17
  | 109 => 35
  | 110 => 26
  | 111 => 917
  | 112 => 38
  | 113 => 922
  | 114 => 25
  | 115 => 926
  | 116 => 24
  | 117 => 930
  | 118 => 23
  | 119 => 16
  | 120 => 15
  | 121 => 41
  | 122 => 42
  | 123 => 14
  | 124 => 13
  | 125 => 934
  | 126 => 938
  | 127 => 942
  | 128 => 946
  | 129 => 950
  | 130 => 954
  | _ => 0
def zpT : Nat → Nat := fun m => match m with
  | 44 => 477
  | 46 => 121
  | 47 => 139
  | 48 => 142
  | 49 => 223
  | 73 => 375
  | 74 => 226
  | 75 => 126
  | 76 => 382
  | _ => 0
def zpG : Nat → Nat := fun m => match m with
  | 0 => 48
  | 1 => 48
  | 2 => 48
  | 3 => 48
  | 4 => 48
  | 5 => 48
  | 6 => 48
  | 7 => 48
  | 8 => 48
  | 9 => 48
  | 10 => 53
  | 11 => 53
  | 12 => 53
  | 13 => 53
  | 14 => 53
  | 15 => 53
  | 16 => 53
  | 17 => 53
  | 18 => 53
  | 19 => 53
  | 20 => 53
  | 21 => 53
  | 22 => 53
  | 23 => 53
  | 24 => 53
  | 25 => 49
  | 26 => 49
  | 27 => 49
  | 28 => 49
  | 29 => 49
  | 30 => 52
  | 31 => 52
  | 32 => 52
  | 33 => 52
  | 34 => 52
  | 35 => 50
  | 36 => 50
  | 37 => 50
  | 38 => 50
  | 39 => 50
  | 40 => 50
  | 41 => 50
  | 42 => 50
  | 43 => 50
  | 44 => 50
  | 45 => 51
  | 46 => 51
  | 47 => 51
  | 48 => 51
  | 49 => 51
  | 50 => 51
  | 51 => 47
  | 52 => 47
  | 53 => 47
  | 54 => 47
  | 55 => 47
  | 56 => 47
  | 57 => 47
  | 58 => 47
  | 59 => 47
  | 60 => 47
  | 61 => 47
  | 62 => 47
  | 63 => 47
  | 64 => 47
  | 65 => 47
  | 66 => 47
  | 67 => 47
  | 68 => 47
  | 69 => 47
  | 70 => 47
  | 71 => 47
  | 72 => 47
  | 73 => 47
  | 74 => 47
  | 75 => 47
  | 76 => 47
  | 77 => 54
  | 78 => 54
  | 79 => 54
  | 80 => 54
  | 81 => 54
  | 82 => 54
  | 83 => 54
  | 84 => 54
  | 85 => 54
  | 86 => 54
  | 87 => 54
  | 88 => 54
  | 89 => 54
  | 90 => 54
  | 91 => 54
  | 92 => 54
  | 93 => 54
  | 94 => 54
  | 95 => 54
  | 96 => 54
  | 97 => 54
  | 98 => 54
  | 99 => 54
  | 100 => 54
  | 101 => 54
  | 102 => 54
  | 103 => 54
  | 104 => 54
  | 105 => 54
  | 106 => 54
  | 107 => 54
  | 108 => 54
  | 109 => 54
  | 110 => 54
  | 111 => 54
  | 112 => 54
  | 113 => 54
  | 114 => 54
  | 115 => 54
  | 116 => 54
  | 117 => 54
  | 118 => 54
  | 119 => 54
  | 120 => 54
  | 121 => 54
  | 122 => 54
  | 123 => 54
  | 124 => 54
  | 125 => 54
  | 126 => 54
  | 127 => 54
  | 128 => 54
  | 129 => 54
  | 130 => 54
  | _ => 0
set_option maxRecDepth 100000 in
theorem zmC_0 : lw_tbl[68]? = some (.code (mY 0) (mB 0) (mL 0) (mT 0)) := rfl
set_option maxRecDepth 100000 in
theorem zmC_1 : lw_tbl[391]? = some (.code (mY 1) (mB 1) (mL 1) (mT 1)) := rfl
set_option maxRecDepth 100000 in
theorem zmC_2 : lw_tbl[403]? = some (.code (mY 2) (mB 2) (mL 2) (mT 2)) := rfl
set_option maxRecDepth 100000 in
theorem zmC_3 : lw_tbl[447]? = some (.code (mY 3) (mB 3) (mL 3) (mT 3)) := rfl
set_option maxRecDepth 100000 in
theorem zmC_4 : lw_tbl[441]? = some (.code (mY 4) (mB 4) (mL 4) (mT 4)) := rfl
set_option maxRecDepth 100000 in
theorem zmC_5 : lw_tbl[547]? = some (.code (mY 5) (mB 5) (mL 5) (mT 5)) := rfl
set_option maxRecDepth 100000 in
theorem zmC_6 : lw_tbl[380]? = some (.code (mY 6) (mB 6) (mL 6) (mT 6)) := rfl
set_option maxRecDepth 100000 in
theorem zmC_7 : lw_tbl[399]? = some (.code (mY 7) (mB 7) (mL 7) (mT 7)) := rfl
set_option maxRecDepth 100000 in
theorem zmC_8 : lw_tbl[411]? = some (.code (mY 8) (mB 8) (mL 8) (mT 8)) := rfl
set_option maxRecDepth 100000 in
theorem zmC_9 : lw_tbl[356]? = some (.code (mY 9) (mB 9) (mL 9) (mT 9)) := rfl
set_option maxRecDepth 100000 in
theorem zmC_10 : lw_tbl[283]? = some (.code (mY 10) (mB 10) (mL 10) (mT 10)) := rfl
set_option maxRecDepth 100000 in
theorem zmC_11 : lw_tbl[369]? = some (.code (mY 11) (mB 11) (mL 11) (mT 11)) := rfl
set_option maxRecDepth 100000 in
theorem zmC_12 : lw_tbl[523]? = some (.code (mY 12) (mB 12) (mL 12) (mT 12)) := rfl
set_option maxRecDepth 100000 in
theorem zmC_13 : lw_tbl[556]? = some (.code (mY 13) (mB 13) (mL 13) (mT 13)) := rfl
set_option maxRecDepth 100000 in
theorem zmC_14 : lw_tbl[564]? = some (.code (mY 14) (mB 14) (mL 14) (mT 14)) := rfl
set_option maxRecDepth 100000 in
theorem zmC_15 : lw_tbl[593]? = some (.code (mY 15) (mB 15) (mL 15) (mT 15)) := rfl
set_option maxRecDepth 100000 in
theorem zmC_16 : lw_tbl[577]? = some (.code (mY 16) (mB 16) (mL 16) (mT 16)) := rfl
set_option maxRecDepth 100000 in
theorem zmC_17 : lw_tbl[585]? = some (.code (mY 17) (mB 17) (mL 17) (mT 17)) := rfl
set_option maxRecDepth 100000 in
theorem zmC_18 : lw_tbl[601]? = some (.code (mY 18) (mB 18) (mL 18) (mT 18)) := rfl
set_option maxRecDepth 100000 in
theorem zmC_19 : lw_tbl[527]? = some (.code (mY 19) (mB 19) (mL 19) (mT 19)) := rfl
set_option maxRecDepth 100000 in
theorem zmC_20 : lw_tbl[533]? = some (.code (mY 20) (mB 20) (mL 20) (mT 20)) := rfl
set_option maxRecDepth 100000 in
theorem zmC_21 : lw_tbl[543]? = some (.code (mY 21) (mB 21) (mL 21) (mT 21)) := rfl
set_option maxRecDepth 100000 in
theorem zmC_22 : lw_tbl[538]? = some (.code (mY 22) (mB 22) (mL 22) (mT 22)) := rfl
set_option maxRecDepth 100000 in
theorem zmC_23 : lw_tbl[552]? = some (.code (mY 23) (mB 23) (mL 23) (mT 23)) := rfl
set_option maxRecDepth 100000 in
theorem zmC_24 : lw_tbl[560]? = some (.code (mY 24) (mB 24) (mL 24) (mT 24)) := rfl
set_option maxRecDepth 100000 in
theorem zmC_25 : lw_tbl[97]? = some (.code (mY 25) (mB 25) (mL 25) (mT 25)) := rfl
set_option maxRecDepth 100000 in
theorem zmC_26 : lw_tbl[611]? = some (.code (mY 26) (mB 26) (mL 26) (mT 26)) := rfl
set_option maxRecDepth 100000 in
theorem zmC_27 : lw_tbl[348]? = some (.code (mY 27) (mB 27) (mL 27) (mT 27)) := rfl
set_option maxRecDepth 100000 in
theorem zmC_28 : lw_tbl[615]? = some (.code (mY 28) (mB 28) (mL 28) (mT 28)) := rfl
set_option maxRecDepth 100000 in
theorem zmC_29 : lw_tbl[352]? = some (.code (mY 29) (mB 29) (mL 29) (mT 29)) := rfl
set_option maxRecDepth 100000 in
theorem zmC_30 : lw_tbl[148]? = some (.code (mY 30) (mB 30) (mL 30) (mT 30)) := rfl
set_option maxRecDepth 100000 in
theorem zmC_31 : lw_tbl[459]? = some (.code (mY 31) (mB 31) (mL 31) (mT 31)) := rfl
set_option maxRecDepth 100000 in
theorem zmC_32 : lw_tbl[463]? = some (.code (mY 32) (mB 32) (mL 32) (mT 32)) := rfl
set_option maxRecDepth 100000 in
theorem zmC_33 : lw_tbl[467]? = some (.code (mY 33) (mB 33) (mL 33) (mT 33)) := rfl
set_option maxRecDepth 100000 in
theorem zmC_34 : lw_tbl[471]? = some (.code (mY 34) (mB 34) (mL 34) (mT 34)) := rfl
set_option maxRecDepth 100000 in
theorem zmC_35 : lw_tbl[116]? = some (.code (mY 35) (mB 35) (mL 35) (mT 35)) := rfl
set_option maxRecDepth 100000 in
theorem zmC_36 : lw_tbl[436]? = some (.code (mY 36) (mB 36) (mL 36) (mT 36)) := rfl
set_option maxRecDepth 100000 in
theorem zmC_37 : lw_tbl[451]? = some (.code (mY 37) (mB 37) (mL 37) (mT 37)) := rfl
set_option maxRecDepth 100000 in
theorem zmC_38 : lw_tbl[512]? = some (.code (mY 38) (mB 38) (mL 38) (mT 38)) := rfl
set_option maxRecDepth 100000 in
theorem zmC_39 : lw_tbl[493]? = some (.code (mY 39) (mB 39) (mL 39) (mT 39)) := rfl
set_option maxRecDepth 100000 in
theorem zmC_40 : lw_tbl[501]? = some (.code (mY 40) (mB 40) (mL 40) (mT 40)) := rfl
set_option maxRecDepth 100000 in
theorem zmC_41 : lw_tbl[484]? = some (.code (mY 41) (mB 41) (mL 41) (mT 41)) := rfl
set_option maxRecDepth 100000 in
theorem zmC_42 : lw_tbl[455]? = some (.code (mY 42) (mB 42) (mL 42) (mT 42)) := rfl
set_option maxRecDepth 100000 in
theorem zmC_43 : lw_tbl[475]? = some (.code (mY 43) (mB 43) (mL 43) (mT 43)) := rfl
set_option maxRecDepth 100000 in
theorem zmC_44 : lw_tbl[478]? = some (.code (mY 44) (mB 44) (mL 44) (mT 44)) := rfl
set_option maxRecDepth 100000 in
theorem zmC_45 : lw_tbl[134]? = some (.code (mY 45) (mB 45) (mL 45) (mT 45)) := rfl
set_option maxRecDepth 100000 in
theorem zmC_46 : lw_tbl[122]? = some (.code (mY 46) (mB 46) (mL 46) (mT 46)) := rfl
set_option maxRecDepth 100000 in
theorem zmC_47 : lw_tbl[140]? = some (.code (mY 47) (mB 47) (mL 47) (mT 47)) := rfl
set_option maxRecDepth 100000 in
theorem zmC_48 : lw_tbl[143]? = some (.code (mY 48) (mB 48) (mL 48) (mT 48)) := rfl
set_option maxRecDepth 100000 in
theorem zmC_49 : lw_tbl[224]? = some (.code (mY 49) (mB 49) (mL 49) (mT 49)) := rfl
set_option maxRecDepth 100000 in
theorem zmC_50 : lw_tbl[221]? = some (.code (mY 50) (mB 50) (mL 50) (mT 50)) := rfl
set_option maxRecDepth 100000 in
theorem zmC_51 : lw_tbl[60]? = some (.code (mY 51) (mB 51) (mL 51) (mT 51)) := rfl
set_option maxRecDepth 100000 in
theorem zmC_52 : lw_tbl[339]? = some (.code (mY 52) (mB 52) (mL 52) (mT 52)) := rfl
set_option maxRecDepth 100000 in
theorem zmC_53 : lw_tbl[373]? = some (.code (mY 53) (mB 53) (mL 53) (mT 53)) := rfl
set_option maxRecDepth 100000 in
theorem zmC_54 : lw_tbl[387]? = some (.code (mY 54) (mB 54) (mL 54) (mT 54)) := rfl
set_option maxRecDepth 100000 in
theorem zmC_55 : lw_tbl[395]? = some (.code (mY 55) (mB 55) (mL 55) (mT 55)) := rfl
set_option maxRecDepth 100000 in
theorem zmC_56 : lw_tbl[407]? = some (.code (mY 56) (mB 56) (mL 56) (mT 56)) := rfl
set_option maxRecDepth 100000 in
theorem zmC_57 : lw_tbl[415]? = some (.code (mY 57) (mB 57) (mL 57) (mT 57)) := rfl
set_option maxRecDepth 100000 in
theorem zmC_58 : lw_tbl[420]? = some (.code (mY 58) (mB 58) (mL 58) (mT 58)) := rfl
set_option maxRecDepth 100000 in
theorem zmC_59 : lw_tbl[425]? = some (.code (mY 59) (mB 59) (mL 59) (mT 59)) := rfl
set_option maxRecDepth 100000 in
theorem zmC_60 : lw_tbl[432]? = some (.code (mY 60) (mB 60) (mL 60) (mT 60)) := rfl
set_option maxRecDepth 100000 in
theorem zmC_61 : lw_tbl[489]? = some (.code (mY 61) (mB 61) (mL 61) (mT 61)) := rfl
set_option maxRecDepth 100000 in
theorem zmC_62 : lw_tbl[497]? = some (.code (mY 62) (mB 62) (mL 62) (mT 62)) := rfl
set_option maxRecDepth 100000 in
theorem zmC_63 : lw_tbl[508]? = some (.code (mY 63) (mB 63) (mL 63) (mT 63)) := rfl
set_option maxRecDepth 100000 in
theorem zmC_64 : lw_tbl[519]? = some (.code (mY 64) (mB 64) (mL 64) (mT 64)) := rfl
set_option maxRecDepth 100000 in
theorem zmC_65 : lw_tbl[568]? = some (.code (mY 65) (mB 65) (mL 65) (mT 65)) := rfl
set_option maxRecDepth 100000 in
theorem zmC_66 : lw_tbl[573]? = some (.code (mY 66) (mB 66) (mL 66) (mT 66)) := rfl
set_option maxRecDepth 100000 in
theorem zmC_67 : lw_tbl[581]? = some (.code (mY 67) (mB 67) (mL 67) (mT 67)) := rfl
set_option maxRecDepth 100000 in
theorem zmC_68 : lw_tbl[589]? = some (.code (mY 68) (mB 68) (mL 68) (mT 68)) := rfl
set_option maxRecDepth 100000 in
theorem zmC_69 : lw_tbl[597]? = some (.code (mY 69) (mB 69) (mL 69) (mT 69)) := rfl
set_option maxRecDepth 100000 in
theorem zmC_70 : lw_tbl[607]? = some (.code (mY 70) (mB 70) (mL 70) (mT 70)) := rfl
set_option maxRecDepth 100000 in
theorem zmC_71 : lw_tbl[344]? = some (.code (mY 71) (mB 71) (mL 71) (mT 71)) := rfl
set_option maxRecDepth 100000 in
theorem zmC_72 : lw_tbl[364]? = some (.code (mY 72) (mB 72) (mL 72) (mT 72)) := rfl
set_option maxRecDepth 100000 in
theorem zmC_73 : lw_tbl[376]? = some (.code (mY 73) (mB 73) (mL 73) (mT 73)) := rfl
set_option maxRecDepth 100000 in
theorem zmC_74 : lw_tbl[227]? = some (.code (mY 74) (mB 74) (mL 74) (mT 74)) := rfl
set_option maxRecDepth 100000 in
theorem zmC_75 : lw_tbl[127]? = some (.code (mY 75) (mB 75) (mL 75) (mT 75)) := rfl
set_option maxRecDepth 100000 in
theorem zmC_76 : lw_tbl[383]? = some (.code (mY 76) (mB 76) (mL 76) (mT 76)) := rfl
set_option maxRecDepth 100000 in
theorem zmC_77 : lw_tbl[620]? = some (.code (mY 77) (mB 77) (mL 77) (mT 77)) := rfl
set_option maxRecDepth 100000 in
theorem zmC_78 : lw_tbl[748]? = some (.code (mY 78) (mB 78) (mL 78) (mT 78)) := rfl
set_option maxRecDepth 100000 in
theorem zmC_79 : lw_tbl[878]? = some (.code (mY 79) (mB 79) (mL 79) (mT 79)) := rfl
set_option maxRecDepth 100000 in
theorem zmC_80 : lw_tbl[744]? = some (.code (mY 80) (mB 80) (mL 80) (mT 80)) := rfl
set_option maxRecDepth 100000 in
theorem zmC_81 : lw_tbl[784]? = some (.code (mY 81) (mB 81) (mL 81) (mT 81)) := rfl
set_option maxRecDepth 100000 in
theorem zmC_82 : lw_tbl[886]? = some (.code (mY 82) (mB 82) (mL 82) (mT 82)) := rfl
set_option maxRecDepth 100000 in
theorem zmC_83 : lw_tbl[890]? = some (.code (mY 83) (mB 83) (mL 83) (mT 83)) := rfl
set_option maxRecDepth 100000 in
theorem zmC_84 : lw_tbl[874]? = some (.code (mY 84) (mB 84) (mL 84) (mT 84)) := rfl
set_option maxRecDepth 100000 in
theorem zmC_85 : lw_tbl[882]? = some (.code (mY 85) (mB 85) (mL 85) (mT 85)) := rfl
set_option maxRecDepth 100000 in
theorem zmC_86 : lw_tbl[894]? = some (.code (mY 86) (mB 86) (mL 86) (mT 86)) := rfl
set_option maxRecDepth 100000 in
theorem zmC_87 : lw_tbl[898]? = some (.code (mY 87) (mB 87) (mL 87) (mT 87)) := rfl
set_option maxRecDepth 100000 in
theorem zmC_88 : lw_tbl[902]? = some (.code (mY 88) (mB 88) (mL 88) (mT 88)) := rfl
set_option maxRecDepth 100000 in
theorem zmC_89 : lw_tbl[906]? = some (.code (mY 89) (mB 89) (mL 89) (mT 89)) := rfl
set_option maxRecDepth 100000 in
theorem zmC_90 : lw_tbl[788]? = some (.code (mY 90) (mB 90) (mL 90) (mT 90)) := rfl
set_option maxRecDepth 100000 in
theorem zmC_91 : lw_tbl[780]? = some (.code (mY 91) (mB 91) (mL 91) (mT 91)) := rfl
set_option maxRecDepth 100000 in
theorem zmC_92 : lw_tbl[776]? = some (.code (mY 92) (mB 92) (mL 92) (mT 92)) := rfl
set_option maxRecDepth 100000 in
theorem zmC_93 : lw_tbl[812]? = some (.code (mY 93) (mB 93) (mL 93) (mT 93)) := rfl
set_option maxRecDepth 100000 in
theorem zmC_94 : lw_tbl[816]? = some (.code (mY 94) (mB 94) (mL 94) (mT 94)) := rfl
set_option maxRecDepth 100000 in
theorem zmC_95 : lw_tbl[820]? = some (.code (mY 95) (mB 95) (mL 95) (mT 95)) := rfl
set_option maxRecDepth 100000 in
theorem zmC_96 : lw_tbl[808]? = some (.code (mY 96) (mB 96) (mL 96) (mT 96)) := rfl
set_option maxRecDepth 100000 in
theorem zmC_97 : lw_tbl[910]? = some (.code (mY 97) (mB 97) (mL 97) (mT 97)) := rfl
set_option maxRecDepth 100000 in
theorem zmC_98 : lw_tbl[772]? = some (.code (mY 98) (mB 98) (mL 98) (mT 98)) := rfl
set_option maxRecDepth 100000 in
theorem zmC_99 : lw_tbl[914]? = some (.code (mY 99) (mB 99) (mL 99) (mT 99)) := rfl
set_option maxRecDepth 100000 in
theorem zmC_100 : lw_tbl[832]? = some (.code (mY 100) (mB 100) (mL 100) (mT 100)) := rfl
set_option maxRecDepth 100000 in
theorem zmC_101 : lw_tbl[828]? = some (.code (mY 101) (mB 101) (mL 101) (mT 101)) := rfl
set_option maxRecDepth 100000 in
theorem zmC_102 : lw_tbl[836]? = some (.code (mY 102) (mB 102) (mL 102) (mT 102)) := rfl
set_option maxRecDepth 100000 in
theorem zmC_103 : lw_tbl[848]? = some (.code (mY 103) (mB 103) (mL 103) (mT 103)) := rfl
set_option maxRecDepth 100000 in
theorem zmC_104 : lw_tbl[824]? = some (.code (mY 104) (mB 104) (mL 104) (mT 104)) := rfl
set_option maxRecDepth 100000 in
theorem zmC_105 : lw_tbl[844]? = some (.code (mY 105) (mB 105) (mL 105) (mT 105)) := rfl
set_option maxRecDepth 100000 in
theorem zmC_106 : lw_tbl[860]? = some (.code (mY 106) (mB 106) (mL 106) (mT 106)) := rfl
set_option maxRecDepth 100000 in
theorem zmC_107 : lw_tbl[856]? = some (.code (mY 107) (mB 107) (mL 107) (mT 107)) := rfl
set_option maxRecDepth 100000 in
theorem zmC_108 : lw_tbl[768]? = some (.code (mY 108) (mB 108) (mL 108) (mT 108)) := rfl
set_option maxRecDepth 100000 in
theorem zmC_109 : lw_tbl[840]? = some (.code (mY 109) (mB 109) (mL 109) (mT 109)) := rfl
set_option maxRecDepth 100000 in
theorem zmC_110 : lw_tbl[804]? = some (.code (mY 110) (mB 110) (mL 110) (mT 110)) := rfl
set_option maxRecDepth 100000 in
theorem zmC_111 : lw_tbl[918]? = some (.code (mY 111) (mB 111) (mL 111) (mT 111)) := rfl
set_option maxRecDepth 100000 in
theorem zmC_112 : lw_tbl[852]? = some (.code (mY 112) (mB 112) (mL 112) (mT 112)) := rfl
set_option maxRecDepth 100000 in
theorem zmC_113 : lw_tbl[923]? = some (.code (mY 113) (mB 113) (mL 113) (mT 113)) := rfl
set_option maxRecDepth 100000 in
theorem zmC_114 : lw_tbl[800]? = some (.code (mY 114) (mB 114) (mL 114) (mT 114)) := rfl
set_option maxRecDepth 100000 in
theorem zmC_115 : lw_tbl[927]? = some (.code (mY 115) (mB 115) (mL 115) (mT 115)) := rfl
set_option maxRecDepth 100000 in
theorem zmC_116 : lw_tbl[796]? = some (.code (mY 116) (mB 116) (mL 116) (mT 116)) := rfl
set_option maxRecDepth 100000 in
theorem zmC_117 : lw_tbl[931]? = some (.code (mY 117) (mB 117) (mL 117) (mT 117)) := rfl
set_option maxRecDepth 100000 in
theorem zmC_118 : lw_tbl[792]? = some (.code (mY 118) (mB 118) (mL 118) (mT 118)) := rfl
set_option maxRecDepth 100000 in
theorem zmC_119 : lw_tbl[764]? = some (.code (mY 119) (mB 119) (mL 119) (mT 119)) := rfl
set_option maxRecDepth 100000 in
theorem zmC_120 : lw_tbl[760]? = some (.code (mY 120) (mB 120) (mL 120) (mT 120)) := rfl
set_option maxRecDepth 100000 in
theorem zmC_121 : lw_tbl[866]? = some (.code (mY 121) (mB 121) (mL 121) (mT 121)) := rfl
set_option maxRecDepth 100000 in
theorem zmC_122 : lw_tbl[870]? = some (.code (mY 122) (mB 122) (mL 122) (mT 122)) := rfl
set_option maxRecDepth 100000 in
theorem zmC_123 : lw_tbl[756]? = some (.code (mY 123) (mB 123) (mL 123) (mT 123)) := rfl
set_option maxRecDepth 100000 in
theorem zmC_124 : lw_tbl[752]? = some (.code (mY 124) (mB 124) (mL 124) (mT 124)) := rfl
set_option maxRecDepth 100000 in
theorem zmC_125 : lw_tbl[935]? = some (.code (mY 125) (mB 125) (mL 125) (mT 125)) := rfl
set_option maxRecDepth 100000 in
theorem zmC_126 : lw_tbl[939]? = some (.code (mY 126) (mB 126) (mL 126) (mT 126)) := rfl
set_option maxRecDepth 100000 in
theorem zmC_127 : lw_tbl[943]? = some (.code (mY 127) (mB 127) (mL 127) (mT 127)) := rfl
set_option maxRecDepth 100000 in
theorem zmC_128 : lw_tbl[947]? = some (.code (mY 128) (mB 128) (mL 128) (mT 128)) := rfl
set_option maxRecDepth 100000 in
theorem zmC_129 : lw_tbl[951]? = some (.code (mY 129) (mB 129) (mL 129) (mT 129)) := rfl
set_option maxRecDepth 100000 in
theorem zmC_130 : lw_tbl[955]? = some (.code (mY 130) (mB 130) (mL 130) (mT 130)) := rfl
theorem zmC : ∀ n, n < 131 → lw_tbl[zpC n]? = some (.code (mY n) (mB n) (mL n) (mT n))
  | 0, _ => zmC_0
  | 1, _ => zmC_1
  | 2, _ => zmC_2
  | 3, _ => zmC_3
  | 4, _ => zmC_4
  | 5, _ => zmC_5
  | 6, _ => zmC_6
  | 7, _ => zmC_7
  | 8, _ => zmC_8
  | 9, _ => zmC_9
  | 10, _ => zmC_10
  | 11, _ => zmC_11
  | 12, _ => zmC_12
  | 13, _ => zmC_13
  | 14, _ => zmC_14
  | 15, _ => zmC_15
  | 16, _ => zmC_16
  | 17, _ => zmC_17
  | 18, _ => zmC_18
  | 19, _ => zmC_19
  | 20, _ => zmC_20
  | 21, _ => zmC_21
  | 22, _ => zmC_22
  | 23, _ => zmC_23
  | 24, _ => zmC_24
  | 25, _ => zmC_25
  | 26, _ => zmC_26
  | 27, _ => zmC_27
  | 28, _ => zmC_28
  | 29, _ => zmC_29
  | 30, _ => zmC_30
  | 31, _ => zmC_31
  | 32, _ => zmC_32
  | 33, _ => zmC_33
  | 34, _ => zmC_34
  | 35, _ => zmC_35
  | 36, _ => zmC_36
  | 37, _ => zmC_37
  | 38, _ => zmC_38
  | 39, _ => zmC_39
  | 40, _ => zmC_40
  | 41, _ => zmC_41
  | 42, _ => zmC_42
  | 43, _ => zmC_43
  | 44, _ => zmC_44
  | 45, _ => zmC_45
  | 46, _ => zmC_46
  | 47, _ => zmC_47
  | 48, _ => zmC_48
  | 49, _ => zmC_49
  | 50, _ => zmC_50
  | 51, _ => zmC_51
  | 52, _ => zmC_52
  | 53, _ => zmC_53
  | 54, _ => zmC_54
  | 55, _ => zmC_55
  | 56, _ => zmC_56
  | 57, _ => zmC_57
  | 58, _ => zmC_58
  | 59, _ => zmC_59
  | 60, _ => zmC_60
  | 61, _ => zmC_61
  | 62, _ => zmC_62
  | 63, _ => zmC_63
  | 64, _ => zmC_64
  | 65, _ => zmC_65
  | 66, _ => zmC_66
  | 67, _ => zmC_67
  | 68, _ => zmC_68
  | 69, _ => zmC_69
  | 70, _ => zmC_70
  | 71, _ => zmC_71
  | 72, _ => zmC_72
  | 73, _ => zmC_73
  | 74, _ => zmC_74
  | 75, _ => zmC_75
  | 76, _ => zmC_76
  | 77, _ => zmC_77
  | 78, _ => zmC_78
  | 79, _ => zmC_79
  | 80, _ => zmC_80
  | 81, _ => zmC_81
  | 82, _ => zmC_82
  | 83, _ => zmC_83
  | 84, _ => zmC_84
  | 85, _ => zmC_85
  | 86, _ => zmC_86
  | 87, _ => zmC_87
  | 88, _ => zmC_88
  | 89, _ => zmC_89
  | 90, _ => zmC_90
  | 91, _ => zmC_91
  | 92, _ => zmC_92
  | 93, _ => zmC_93
  | 94, _ => zmC_94
  | 95, _ => zmC_95
  | 96, _ => zmC_96
  | 97, _ => zmC_97
  | 98, _ => zmC_98
  | 99, _ => zmC_99
  | 100, _ => zmC_100
  | 101, _ => zmC_101
  | 102, _ => zmC_102
  | 103, _ => zmC_103
  | 104, _ => zmC_104
  | 105, _ => zmC_105
  | 106, _ => zmC_106
  | 107, _ => zmC_107
  | 108, _ => zmC_108
  | 109, _ => zmC_109
  | 110, _ => zmC_110
  | 111, _ => zmC_111
  | 112, _ => zmC_112
  | 113, _ => zmC_113
  | 114, _ => zmC_114
  | 115, _ => zmC_115
  | 116, _ => zmC_116
  | 117, _ => zmC_117
  | 118, _ => zmC_118
  | 119, _ => zmC_119
  | 120, _ => zmC_120
  | 121, _ => zmC_121
  | 122, _ => zmC_122
  | 123, _ => zmC_123
  | 124, _ => zmC_124
  | 125, _ => zmC_125
  | 126, _ => zmC_126
  | 127, _ => zmC_127
  | 128, _ => zmC_128
  | 129, _ => zmC_129
  | 130, _ => zmC_130
  | _ + 131, h => absurd h (by omega)
theorem zmI : ∀ n ∈ List.range 131, ¬ mK n = 0 → lw_tbl[zpI n]? = some (.instanceMethod (mY n)) := by decide +kernel
theorem zmS : ∀ n ∈ List.range 131, mK n = 1 → lw_tbl[zpS n]? = some (.selects (mY n).cls (mY n) (mY n)) := by decide +kernel
theorem zmT : ∀ n ∈ List.range 131, mK n = 0 → lw_tbl[zpT n]? = some (.static (mY n)) := by decide +kernel
theorem zmG : ∀ n ∈ List.range 131, lw_tbl[zpG n]? = some (.initialized (mY n).cls) := by decide +kernel
theorem zmN : ∀ n ∈ List.range 131, ((mY n).cls = zR (mO n) ∧ plainName (mY n).cls = true) ∧ ((mY n).cls ≠ "java/lang/invoke/MethodHandle" ∧ (mY n).cls ≠ "java/lang/invoke/VarHandle" ∧ (parseMethodDescriptor (mY n).desc).map (fun d => d.parameters.length) = some (mA n)) ∧ mL n ≤ 13 := by decide +kernel
theorem zmK : ∀ n ∈ List.range 131, mK n = 2 → (mY n).name = "<init>" ∧ mT n = none := by decide +kernel
theorem zmV : ∀ n ∈ List.range 131, mK n = 1 → mO n < 8 := by decide +kernel
def zpf (m : Nat) : Bool := (zc m).all fun e => match e.2.1 with
  | .putfield idx => match zkl m idx zFl with
    | some q => !(zT q.1 q.2.1).2.2.2 || (decide ((mY m).name = "<init>") && (Nat.beq (mO m) q.1 && Nat.beq q.2.2.1 0))
    | none => true
  | _ => true
theorem zpf_ok : ∀ n ∈ List.range 134, zpf n = true := by decide +kernel
theorem zfinal : ∀ c ∈ List.range 8, ∀ j ∈ List.range (zN c), (zT c j).1 = zR c := by decide +kernel
theorem zvw : ∀ c, c < 8 → vwCl[c]? = some (zR c, zT c, zN c)
  | 0, _ => rfl
  | 1, _ => rfl
  | 2, _ => rfl
  | 3, _ => rfl
  | 4, _ => rfl
  | 5, _ => rfl
  | 6, _ => rfl
  | 7, _ => rfl
  | _ + 8, h => absurd h (by omega)
theorem znm : ∀ c, c < 8 → ∀ a, a < zN c → ∀ b, b < zN c → a ≠ b → (zT c a).2.1 ≠ (zT c b).2.1
  | 0, _ => nmX0
  | 1, _ => nmX1
  | 2, _ => nmX2
  | 3, _ => nmX3
  | 4, _ => nmX4
  | 5, _ => nmX5
  | 6, _ => nmX6
  | 7, _ => nmX7
  | _ + 8, h => absurd h (by omega)
theorem zty_ok : ∀ c, c < 8 → ∀ k, k < zN c → parseFieldDescriptor (zT c k).2.2.1 = some (zTy c k)
  | 0, _ => tyX0_ok
  | 1, _ => tyX1_ok
  | 2, _ => tyX2_ok
  | 3, _ => tyX3_ok
  | 4, _ => tyX4_ok
  | 5, _ => tyX5_ok
  | 6, _ => tyX6_ok
  | 7, _ => tyX7_ok
  | _ + 8, h => absurd h (by omega)
theorem zuw : ∀ c ∈ List.range 8, ∀ w ∈ u_ws (zR c) (zT c) (zN c), w ∈ zG := by decide +kernel
theorem zin : ∀ c ∈ List.range 8, Cond.instantiable (zR c) (zN c) ∈ zG ∧ Cond.initialized (zR c) ∈ zG := by decide +kernel
theorem zac : Cond.arrayClass .int ∈ zG ∧ Cond.arrayClass .long ∈ zG ∧ Cond.instanceMethod objectInit ∈ zG ∧ Cond.code objectInit ⟨#[0xb1]⟩ 1 none ∈ zG := by decide +kernel
theorem zma : Cond.static Lib.Math.abs.name ∈ zG ∧ Cond.static Lib.Math.min.name ∈ zG ∧ Cond.initialized "java/lang/Math" ∈ zG ∧ zYc 131 = Lib.Math.abs.name ∧ zYc 132 = Lib.Math.min.name ∧ Cond.code Lib.Math.abs.name Lib.Math.abs.code 1 (some .int) ∈ zG ∧ Cond.code Lib.Math.min.name Lib.Math.min.code 2 (some .int) ∈ zG := by decide +kernel
theorem zao : Cond.arrayOver (.object RX0) ∈ lw_tbl ∧ Cond.arrayOver (.object RX5) ∈ lw_tbl := by decide +kernel
