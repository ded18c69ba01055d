theorem cfL_13 : qs_CF R_law 13 yX4_set mX4_set 2 false := ⟨(qs_gm 275 (by decide +kernel) (by decide +kernel)), (qs_gm 93 (by decide +kernel) (by decide +kernel)), by decide, by decide +kernel, Or.inl (qs_gm 272 (by decide +kernel) (by decide +kernel)), (show Cond.instanceMethod yX4_set ∈ qs_gT ∧ Cond.selects yX4_set.cls yX4_set yX4_set ∈ qs_gT from ⟨(qs_gm 273 (by decide +kernel) (by decide +kernel)), (qs_gm 274 (by decide +kernel) (by decide +kernel))⟩)⟩
theorem cfL_17 : qs_CF R_law 17 yX5_set mX5_set 2 false := ⟨(qs_gm 827 (by decide +kernel) (by decide +kernel)), (qs_gm 99 (by decide +kernel) (by decide +kernel)), by decide, by decide +kernel, Or.inl (qs_gm 824 (by decide +kernel) (by decide +kernel)), (show Cond.instanceMethod yX5_set ∈ qs_gT ∧ Cond.selects yX5_set.cls yX5_set yX5_set ∈ qs_gT from ⟨(qs_gm 825 (by decide +kernel) (by decide +kernel)), (qs_gm 826 (by decide +kernel) (by decide +kernel))⟩)⟩
theorem cfL_18 : qs_CF R_law 18 yX4_deed mX4_deed 2 false := ⟨(qs_gm 287 (by decide +kernel) (by decide +kernel)), (qs_gm 93 (by decide +kernel) (by decide +kernel)), by decide, by decide +kernel, Or.inl (qs_gm 284 (by decide +kernel) (by decide +kernel)), (show Cond.instanceMethod yX4_deed ∈ qs_gT ∧ Cond.selects yX4_deed.cls yX4_deed yX4_deed ∈ qs_gT from ⟨(qs_gm 285 (by decide +kernel) (by decide +kernel)), (qs_gm 286 (by decide +kernel) (by decide +kernel))⟩)⟩
theorem cfL_21 : qs_CF R_law 21 yX5_deed mX5_deed 2 false := ⟨(qs_gm 843 (by decide +kernel) (by decide +kernel)), (qs_gm 99 (by decide +kernel) (by decide +kernel)), by decide, by decide +kernel, Or.inl (qs_gm 840 (by decide +kernel) (by decide +kernel)), (show Cond.instanceMethod yX5_deed ∈ qs_gT ∧ Cond.selects yX5_deed.cls yX5_deed yX5_deed ∈ qs_gT from ⟨(qs_gm 841 (by decide +kernel) (by decide +kernel)), (qs_gm 842 (by decide +kernel) (by decide +kernel))⟩)⟩
theorem cfL_22 : qs_CF R_law 22 yX4_listed mX4_listed 1 false := ⟨(qs_gm 297 (by decide +kernel) (by decide +kernel)), (qs_gm 93 (by decide +kernel) (by decide +kernel)), by decide, by decide +kernel, Or.inl (qs_gm 294 (by decide +kernel) (by decide +kernel)), (show Cond.instanceMethod yX4_listed ∈ qs_gT ∧ Cond.selects yX4_listed.cls yX4_listed yX4_listed ∈ qs_gT from ⟨(qs_gm 295 (by decide +kernel) (by decide +kernel)), (qs_gm 296 (by decide +kernel) (by decide +kernel))⟩)⟩
theorem cfL_26 : qs_CF R_law 26 yX5_listed mX5_listed 1 false := ⟨(qs_gm 850 (by decide +kernel) (by decide +kernel)), (qs_gm 99 (by decide +kernel) (by decide +kernel)), by decide, by decide +kernel, Or.inl (qs_gm 847 (by decide +kernel) (by decide +kernel)), (show Cond.instanceMethod yX5_listed ∈ qs_gT ∧ Cond.selects yX5_listed.cls yX5_listed yX5_listed ∈ qs_gT from ⟨(qs_gm 848 (by decide +kernel) (by decide +kernel)), (qs_gm 849 (by decide +kernel) (by decide +kernel))⟩)⟩
theorem cfL_27 : qs_CF R_law 27 yX4_dish mX4_dish 2 false := ⟨(qs_gm 301 (by decide +kernel) (by decide +kernel)), (qs_gm 93 (by decide +kernel) (by decide +kernel)), by decide, by decide +kernel, Or.inl (qs_gm 298 (by decide +kernel) (by decide +kernel)), (show Cond.instanceMethod yX4_dish ∈ qs_gT ∧ Cond.selects yX4_dish.cls yX4_dish yX4_dish ∈ qs_gT from ⟨(qs_gm 299 (by decide +kernel) (by decide +kernel)), (qs_gm 300 (by decide +kernel) (by decide +kernel))⟩)⟩
theorem cfL_30 : qs_CF R_law 30 yX5_dish mX5_dish 2 false := ⟨(qs_gm 854 (by decide +kernel) (by decide +kernel)), (qs_gm 99 (by decide +kernel) (by decide +kernel)), by decide, by decide +kernel, Or.inl (qs_gm 851 (by decide +kernel) (by decide +kernel)), (show Cond.instanceMethod yX5_dish ∈ qs_gT ∧ Cond.selects yX5_dish.cls yX5_dish yX5_dish ∈ qs_gT from ⟨(qs_gm 852 (by decide +kernel) (by decide +kernel)), (qs_gm 853 (by decide +kernel) (by decide +kernel))⟩)⟩
theorem cfL_31 : qs_CF R_law 31 yX4_of mX4_of 2 false := ⟨(qs_gm 316 (by decide +kernel) (by decide +kernel)), (qs_gm 93 (by decide +kernel) (by decide +kernel)), by decide, by decide +kernel, Or.inl (qs_gm 313 (by decide +kernel) (by decide +kernel)), (show Cond.instanceMethod yX4_of ∈ qs_gT ∧ Cond.selects yX4_of.cls yX4_of yX4_of ∈ qs_gT from ⟨(qs_gm 314 (by decide +kernel) (by decide +kernel)), (qs_gm 315 (by decide +kernel) (by decide +kernel))⟩)⟩
theorem cfL_34 : qs_CF R_law 34 yX5_of mX5_of 2 false := ⟨(qs_gm 867 (by decide +kernel) (by decide +kernel)), (qs_gm 99 (by decide +kernel) (by decide +kernel)), by decide, by decide +kernel, Or.inl (qs_gm 864 (by decide +kernel) (by decide +kernel)), (show Cond.instanceMethod yX5_of ∈ qs_gT ∧ Cond.selects yX5_of.cls yX5_of yX5_of ∈ qs_gT from ⟨(qs_gm 865 (by decide +kernel) (by decide +kernel)), (qs_gm 866 (by decide +kernel) (by decide +kernel))⟩)⟩
theorem cfL_35 : qs_CF R_law 35 yX4_change mX4_change 3 false := ⟨(qs_gm 358 (by decide +kernel) (by decide +kernel)), (qs_gm 93 (by decide +kernel) (by decide +kernel)), by decide, by decide +kernel, Or.inl (qs_gm 355 (by decide +kernel) (by decide +kernel)), (show Cond.instanceMethod yX4_change ∈ qs_gT ∧ Cond.selects yX4_change.cls yX4_change yX4_change ∈ qs_gT from ⟨(qs_gm 356 (by decide +kernel) (by decide +kernel)), (qs_gm 357 (by decide +kernel) (by decide +kernel))⟩)⟩
theorem cfL_39 : qs_CF R_law 39 yX5_change mX5_change 3 false := ⟨(qs_gm 903 (by decide +kernel) (by decide +kernel)), (qs_gm 99 (by decide +kernel) (by decide +kernel)), by decide, by decide +kernel, Or.inl (qs_gm 900 (by decide +kernel) (by decide +kernel)), (show Cond.instanceMethod yX5_change ∈ qs_gT ∧ Cond.selects yX5_change.cls yX5_change yX5_change ∈ qs_gT from ⟨(qs_gm 901 (by decide +kernel) (by decide +kernel)), (qs_gm 902 (by decide +kernel) (by decide +kernel))⟩)⟩
theorem cfL_40 : qs_CF R_law 40 yX4_serve mX4_serve 1 false := ⟨(qs_gm 369 (by decide +kernel) (by decide +kernel)), (qs_gm 93 (by decide +kernel) (by decide +kernel)), by decide, by decide +kernel, Or.inl (qs_gm 366 (by decide +kernel) (by decide +kernel)), (show Cond.instanceMethod yX4_serve ∈ qs_gT ∧ Cond.selects yX4_serve.cls yX4_serve yX4_serve ∈ qs_gT from ⟨(qs_gm 367 (by decide +kernel) (by decide +kernel)), (qs_gm 368 (by decide +kernel) (by decide +kernel))⟩)⟩
theorem cfL_43 : qs_CF R_law 43 yX5_serve mX5_serve 1 false := ⟨(qs_gm 910 (by decide +kernel) (by decide +kernel)), (qs_gm 99 (by decide +kernel) (by decide +kernel)), by decide, by decide +kernel, Or.inl (qs_gm 907 (by decide +kernel) (by decide +kernel)), (show Cond.instanceMethod yX5_serve ∈ qs_gT ∧ Cond.selects yX5_serve.cls yX5_serve yX5_serve ∈ qs_gT from ⟨(qs_gm 908 (by decide +kernel) (by decide +kernel)), (qs_gm 909 (by decide +kernel) (by decide +kernel))⟩)⟩
theorem cfL_44 : qs_CF R_law 44 yX4_act mX4_act 1 false := ⟨(qs_gm 390 (by decide +kernel) (by decide +kernel)), (qs_gm 93 (by decide +kernel) (by decide +kernel)), by decide, by decide +kernel, Or.inl (qs_gm 387 (by decide +kernel) (by decide +kernel)), (show Cond.instanceMethod yX4_act ∈ qs_gT ∧ Cond.selects yX4_act.cls yX4_act yX4_act ∈ qs_gT from ⟨(qs_gm 388 (by decide +kernel) (by decide +kernel)), (qs_gm 389 (by decide +kernel) (by decide +kernel))⟩)⟩
theorem cfL_47 : qs_CF R_law 47 yX5_act mX5_act 1 false := ⟨(qs_gm 923 (by decide +kernel) (by decide +kernel)), (qs_gm 99 (by decide +kernel) (by decide +kernel)), by decide, by decide +kernel, Or.inl (qs_gm 920 (by decide +kernel) (by decide +kernel)), (show Cond.instanceMethod yX5_act ∈ qs_gT ∧ Cond.selects yX5_act.cls yX5_act yX5_act ∈ qs_gT from ⟨(qs_gm 921 (by decide +kernel) (by decide +kernel)), (qs_gm 922 (by decide +kernel) (by decide +kernel))⟩)⟩
theorem cfL_48 : qs_CF R_law 48 yX4_go mX4_go 1 false := ⟨(qs_gm 401 (by decide +kernel) (by decide +kernel)), (qs_gm 93 (by decide +kernel) (by decide +kernel)), by decide, by decide +kernel, Or.inl (qs_gm 398 (by decide +kernel) (by decide +kernel)), (show Cond.instanceMethod yX4_go ∈ qs_gT ∧ Cond.selects yX4_go.cls yX4_go yX4_go ∈ qs_gT from ⟨(qs_gm 399 (by decide +kernel) (by decide +kernel)), (qs_gm 400 (by decide +kernel) (by decide +kernel))⟩)⟩
theorem cfL_51 : qs_CF R_law 51 yX5_go mX5_go 1 false := ⟨(qs_gm 933 (by decide +kernel) (by decide +kernel)), (qs_gm 99 (by decide +kernel) (by decide +kernel)), by decide, by decide +kernel, Or.inl (qs_gm 930 (by decide +kernel) (by decide +kernel)), (show Cond.instanceMethod yX5_go ∈ qs_gT ∧ Cond.selects yX5_go.cls yX5_go yX5_go ∈ qs_gT from ⟨(qs_gm 931 (by decide +kernel) (by decide +kernel)), (qs_gm 932 (by decide +kernel) (by decide +kernel))⟩)⟩
theorem cfL_52 : qs_CF R_law 52 yX4_now mX4_now 1 false := ⟨(qs_gm 427 (by decide +kernel) (by decide +kernel)), (qs_gm 93 (by decide +kernel) (by decide +kernel)), by decide, by decide +kernel, Or.inl (qs_gm 424 (by decide +kernel) (by decide +kernel)), (show Cond.instanceMethod yX4_now ∈ qs_gT ∧ Cond.selects yX4_now.cls yX4_now yX4_now ∈ qs_gT from ⟨(qs_gm 425 (by decide +kernel) (by decide +kernel)), (qs_gm 426 (by decide +kernel) (by decide +kernel))⟩)⟩
theorem cfL_55 : qs_CF R_law 55 yX5_now mX5_now 1 false := ⟨(qs_gm 953 (by decide +kernel) (by decide +kernel)), (qs_gm 99 (by decide +kernel) (by decide +kernel)), by decide, by decide +kernel, Or.inl (qs_gm 950 (by decide +kernel) (by decide +kernel)), (show Cond.instanceMethod yX5_now ∈ qs_gT ∧ Cond.selects yX5_now.cls yX5_now yX5_now ∈ qs_gT from ⟨(qs_gm 951 (by decide +kernel) (by decide +kernel)), (qs_gm 952 (by decide +kernel) (by decide +kernel))⟩)⟩
theorem cfL_56 : qs_CF R_law 56 yX4_ahead mX4_ahead 3 false := ⟨(qs_gm 451 (by decide +kernel) (by decide +kernel)), (qs_gm 93 (by decide +kernel) (by decide +kernel)), by decide, by decide +kernel, Or.inl (qs_gm 448 (by decide +kernel) (by decide +kernel)), (show Cond.instanceMethod yX4_ahead ∈ qs_gT ∧ Cond.selects yX4_ahead.cls yX4_ahead yX4_ahead ∈ qs_gT from ⟨(qs_gm 449 (by decide +kernel) (by decide +kernel)), (qs_gm 450 (by decide +kernel) (by decide +kernel))⟩)⟩
theorem cfL_59 : qs_CF R_law 59 yX5_ahead mX5_ahead 3 false := ⟨(qs_gm 973 (by decide +kernel) (by decide +kernel)), (qs_gm 99 (by decide +kernel) (by decide +kernel)), by decide, by decide +kernel, Or.inl (qs_gm 970 (by decide +kernel) (by decide +kernel)), (show Cond.instanceMethod yX5_ahead ∈ qs_gT ∧ Cond.selects yX5_ahead.cls yX5_ahead yX5_ahead ∈ qs_gT from ⟨(qs_gm 971 (by decide +kernel) (by decide +kernel)), (qs_gm 972 (by decide +kernel) (by decide +kernel))⟩)⟩
theorem cfL_60 : qs_CF R_law 60 yX4_mood mX4_mood 1 false := ⟨(qs_gm 470 (by decide +kernel) (by decide +kernel)), (qs_gm 93 (by decide +kernel) (by decide +kernel)), by decide, by decide +kernel, Or.inl (qs_gm 467 (by decide +kernel) (by decide +kernel)), (show Cond.instanceMethod yX4_mood ∈ qs_gT ∧ Cond.selects yX4_mood.cls yX4_mood yX4_mood ∈ qs_gT from ⟨(qs_gm 468 (by decide +kernel) (by decide +kernel)), (qs_gm 469 (by decide +kernel) (by decide +kernel))⟩)⟩
theorem cfL_63 : qs_CF R_law 63 yX5_mood mX5_mood 1 false := ⟨(qs_gm 988 (by decide +kernel) (by decide +kernel)), (qs_gm 99 (by decide +kernel) (by decide +kernel)), by decide, by decide +kernel, Or.inl (qs_gm 985 (by decide +kernel) (by decide +kernel)), (show Cond.instanceMethod yX5_mood ∈ qs_gT ∧ Cond.selects yX5_mood.cls yX5_mood yX5_mood ∈ qs_gT from ⟨(qs_gm 986 (by decide +kernel) (by decide +kernel)), (qs_gm 987 (by decide +kernel) (by decide +kernel))⟩)⟩
theorem cfL_64 : qs_CF R_law 64 yX4_splits mX4_splits 1 false := ⟨(qs_gm 475 (by decide +kernel) (by decide +kernel)), (qs_gm 93 (by decide +kernel) (by decide +kernel)), by decide, by decide +kernel, Or.inl (qs_gm 472 (by decide +kernel) (by decide +kernel)), (show Cond.instanceMethod yX4_splits ∈ qs_gT ∧ Cond.selects yX4_splits.cls yX4_splits yX4_splits ∈ qs_gT from ⟨(qs_gm 473 (by decide +kernel) (by decide +kernel)), (qs_gm 474 (by decide +kernel) (by decide +kernel))⟩)⟩
theorem cfL_67 : qs_CF R_law 67 yX5_splits mX5_splits 1 false := ⟨(qs_gm 992 (by decide +kernel) (by decide +kernel)), (qs_gm 99 (by decide +kernel) (by decide +kernel)), by decide, by decide +kernel, Or.inl (qs_gm 989 (by decide +kernel) (by decide +kernel)), (show Cond.instanceMethod yX5_splits ∈ qs_gT ∧ Cond.selects yX5_splits.cls yX5_splits yX5_splits ∈ qs_gT from ⟨(qs_gm 990 (by decide +kernel) (by decide +kernel)), (qs_gm 991 (by decide +kernel) (by decide +kernel))⟩)⟩
theorem cfL_68 : qs_CF R_law 68 yX4_ready mX4_ready 2 false := ⟨(qs_gm 480 (by decide +kernel) (by decide +kernel)), (qs_gm 93 (by decide +kernel) (by decide +kernel)), by decide, by decide +kernel, Or.inl (qs_gm 477 (by decide +kernel) (by decide +kernel)), (show Cond.instanceMethod yX4_ready ∈ qs_gT ∧ Cond.selects yX4_ready.cls yX4_ready yX4_ready ∈ qs_gT from ⟨(qs_gm 478 (by decide +kernel) (by decide +kernel)), (qs_gm 479 (by decide +kernel) (by decide +kernel))⟩)⟩
theorem cfL_71 : qs_CF R_law 71 yX5_ready mX5_ready 2 false := ⟨(qs_gm 997 (by decide +kernel) (by decide +kernel)), (qs_gm 99 (by decide +kernel) (by decide +kernel)), by decide, by decide +kernel, Or.inl (qs_gm 994 (by decide +kernel) (by decide +kernel)), (show Cond.instanceMethod yX5_ready ∈ qs_gT ∧ Cond.selects yX5_ready.cls yX5_ready yX5_ready ∈ qs_gT from ⟨(qs_gm 995 (by decide +kernel) (by decide +kernel)), (qs_gm 996 (by decide +kernel) (by decide +kernel))⟩)⟩
theorem cfL_72 : qs_CF R_law 72 yX4_peace mX4_peace 1 false := ⟨(qs_gm 485 (by decide +kernel) (by decide +kernel)), (qs_gm 93 (by decide +kernel) (by decide +kernel)), by decide, by decide +kernel, Or.inl (qs_gm 482 (by decide +kernel) (by decide +kernel)), (show Cond.instanceMethod yX4_peace ∈ qs_gT ∧ Cond.selects yX4_peace.cls yX4_peace yX4_peace ∈ qs_gT from ⟨(qs_gm 483 (by decide +kernel) (by decide +kernel)), (qs_gm 484 (by decide +kernel) (by decide +kernel))⟩)⟩
theorem cfL_75 : qs_CF R_law 75 yX5_peace mX5_peace 1 false := ⟨(qs_gm 1001 (by decide +kernel) (by decide +kernel)), (qs_gm 99 (by decide +kernel) (by decide +kernel)), by decide, by decide +kernel, Or.inl (qs_gm 998 (by decide +kernel) (by decide +kernel)), (show Cond.instanceMethod yX5_peace ∈ qs_gT ∧ Cond.selects yX5_peace.cls yX5_peace yX5_peace ∈ qs_gT from ⟨(qs_gm 999 (by decide +kernel) (by decide +kernel)), (qs_gm 1000 (by decide +kernel) (by decide +kernel))⟩)⟩
theorem cfL_76 : qs_CF R_law 76 yX4_deedFor mX4_deedFor 2 false := ⟨(qs_gm 489 (by decide +kernel) (by decide +kernel)), (qs_gm 93 (by decide +kernel) (by decide +kernel)), by decide, by decide +kernel, Or.inl (qs_gm 486 (by decide +kernel) (by decide +kernel)), (show Cond.instanceMethod yX4_deedFor ∈ qs_gT ∧ Cond.selects yX4_deedFor.cls yX4_deedFor yX4_deedFor ∈ qs_gT from ⟨(qs_gm 487 (by decide +kernel) (by decide +kernel)), (qs_gm 488 (by decide +kernel) (by decide +kernel))⟩)⟩
theorem cfL_79 : qs_CF R_law 79 yX5_deedFor mX5_deedFor 2 false := ⟨(qs_gm 1005 (by decide +kernel) (by decide +kernel)), (qs_gm 99 (by decide +kernel) (by decide +kernel)), by decide, by decide +kernel, Or.inl (qs_gm 1002 (by decide +kernel) (by decide +kernel)), (show Cond.instanceMethod yX5_deedFor ∈ qs_gT ∧ Cond.selects yX5_deedFor.cls yX5_deedFor yX5_deedFor ∈ qs_gT from ⟨(qs_gm 1003 (by decide +kernel) (by decide +kernel)), (qs_gm 1004 (by decide +kernel) (by decide +kernel))⟩)⟩
theorem cfL_80 : qs_CF R_law 80 yX4_grudgeFor mX4_grudgeFor 2 false := ⟨(qs_gm 497 (by decide +kernel) (by decide +kernel)), (qs_gm 93 (by decide +kernel) (by decide +kernel)), by decide, by decide +kernel, Or.inl (qs_gm 494 (by decide +kernel) (by decide +kernel)), (show Cond.instanceMethod yX4_grudgeFor ∈ qs_gT ∧ Cond.selects yX4_grudgeFor.cls yX4_grudgeFor yX4_grudgeFor ∈ qs_gT from ⟨(qs_gm 495 (by decide +kernel) (by decide +kernel)), (qs_gm 496 (by decide +kernel) (by decide +kernel))⟩)⟩
theorem cfL_83 : qs_CF R_law 83 yX5_grudgeFor mX5_grudgeFor 2 false := ⟨(qs_gm 1009 (by decide +kernel) (by decide +kernel)), (qs_gm 99 (by decide +kernel) (by decide +kernel)), by decide, by decide +kernel, Or.inl (qs_gm 1006 (by decide +kernel) (by decide +kernel)), (show Cond.instanceMethod yX5_grudgeFor ∈ qs_gT ∧ Cond.selects yX5_grudgeFor.cls yX5_grudgeFor yX5_grudgeFor ∈ qs_gT from ⟨(qs_gm 1007 (by decide +kernel) (by decide +kernel)), (qs_gm 1008 (by decide +kernel) (by decide +kernel))⟩)⟩
theorem cfL_84 : qs_CF R_law 84 yX4_kindFor mX4_kindFor 2 false := ⟨(qs_gm 501 (by decide +kernel) (by decide +kernel)), (qs_gm 93 (by decide +kernel) (by decide +kernel)), by decide, by decide +kernel, Or.inl (qs_gm 498 (by decide +kernel) (by decide +kernel)), (show Cond.instanceMethod yX4_kindFor ∈ qs_gT ∧ Cond.selects yX4_kindFor.cls yX4_kindFor yX4_kindFor ∈ qs_gT from ⟨(qs_gm 499 (by decide +kernel) (by decide +kernel)), (qs_gm 500 (by decide +kernel) (by decide +kernel))⟩)⟩
theorem cfL_87 : qs_CF R_law 87 yX5_kindFor mX5_kindFor 2 false := ⟨(qs_gm 1017 (by decide +kernel) (by decide +kernel)), (qs_gm 99 (by decide +kernel) (by decide +kernel)), by decide, by decide +kernel, Or.inl (qs_gm 1014 (by decide +kernel) (by decide +kernel)), (show Cond.instanceMethod yX5_kindFor ∈ qs_gT ∧ Cond.selects yX5_kindFor.cls yX5_kindFor yX5_kindFor ∈ qs_gT from ⟨(qs_gm 1015 (by decide +kernel) (by decide +kernel)), (qs_gm 1016 (by decide +kernel) (by decide +kernel))⟩)⟩
theorem cfL_88 : qs_CF R_law 88 yX4_best mX4_best 1 false := ⟨(qs_gm 505 (by decide +kernel) (by decide +kernel)), (qs_gm 93 (by decide +kernel) (by decide +kernel)), by decide, by decide +kernel, Or.inl (qs_gm 502 (by decide +kernel) (by decide +kernel)), (show Cond.instanceMethod yX4_best ∈ qs_gT ∧ Cond.selects yX4_best.cls yX4_best yX4_best ∈ qs_gT from ⟨(qs_gm 503 (by decide +kernel) (by decide +kernel)), (qs_gm 504 (by decide +kernel) (by decide +kernel))⟩)⟩
theorem cfL_91 : qs_CF R_law 91 yX5_best mX5_best 1 false := ⟨(qs_gm 1021 (by decide +kernel) (by decide +kernel)), (qs_gm 99 (by decide +kernel) (by decide +kernel)), by decide, by decide +kernel, Or.inl (qs_gm 1018 (by decide +kernel) (by decide +kernel)), (show Cond.instanceMethod yX5_best ∈ qs_gT ∧ Cond.selects yX5_best.cls yX5_best yX5_best ∈ qs_gT from ⟨(qs_gm 1019 (by decide +kernel) (by decide +kernel)), (qs_gm 1020 (by decide +kernel) (by decide +kernel))⟩)⟩
theorem cfL_92 : qs_CF R_law 92 yX4_takeOff mX4_takeOff 1 false := ⟨(qs_gm 509 (by decide +kernel) (by decide +kernel)), (qs_gm 93 (by decide +kernel) (by decide +kernel)), by decide, by decide +kernel, Or.inl (qs_gm 506 (by decide +kernel) (by decide +kernel)), (show Cond.instanceMethod yX4_takeOff ∈ qs_gT ∧ Cond.selects yX4_takeOff.cls yX4_takeOff yX4_takeOff ∈ qs_gT from ⟨(qs_gm 507 (by decide +kernel) (by decide +kernel)), (qs_gm 508 (by decide +kernel) (by decide +kernel))⟩)⟩
theorem cfL_95 : qs_CF R_law 95 yX5_takeOff mX5_takeOff 1 false := ⟨(qs_gm 1025 (by decide +kernel) (by decide +kernel)), (qs_gm 99 (by decide +kernel) (by decide +kernel)), by decide, by decide +kernel, Or.inl (qs_gm 1022 (by decide +kernel) (by decide +kernel)), (show Cond.instanceMethod yX5_takeOff ∈ qs_gT ∧ Cond.selects yX5_takeOff.cls yX5_takeOff yX5_takeOff ∈ qs_gT from ⟨(qs_gm 1023 (by decide +kernel) (by decide +kernel)), (qs_gm 1024 (by decide +kernel) (by decide +kernel))⟩)⟩
theorem cfL_96 : qs_CF R_law 96 yX4_fits mX4_fits 2 false := ⟨(qs_gm 513 (by decide +kernel) (by decide +kernel)), (qs_gm 93 (by decide +kernel) (by decide +kernel)), by decide, by decide +kernel, Or.inl (qs_gm 510 (by decide +kernel) (by decide +kernel)), (show Cond.instanceMethod yX4_fits ∈ qs_gT ∧ Cond.selects yX4_fits.cls yX4_fits yX4_fits ∈ qs_gT from ⟨(qs_gm 511 (by decide +kernel) (by decide +kernel)), (qs_gm 512 (by decide +kernel) (by decide +kernel))⟩)⟩
theorem cfL_99 : qs_CF R_law 99 yX5_fits mX5_fits 2 false := ⟨(qs_gm 1036 (by decide +kernel) (by decide +kernel)), (qs_gm 99 (by decide +kernel) (by decide +kernel)), by decide, by decide +kernel, Or.inl (qs_gm 1033 (by decide +kernel) (by decide +kernel)), (show Cond.instanceMethod yX5_fits ∈ qs_gT ∧ Cond.selects yX5_fits.cls yX5_fits yX5_fits ∈ qs_gT from ⟨(qs_gm 1034 (by decide +kernel) (by decide +kernel)), (qs_gm 1035 (by decide +kernel) (by decide +kernel))⟩)⟩
theorem cfL_100 : qs_CF R_law 100 yX4_kinds mX4_kinds 2 false := ⟨(qs_gm 536 (by decide +kernel) (by decide +kernel)), (qs_gm 93 (by decide +kernel) (by decide +kernel)), by decide, by decide +kernel, Or.inl (qs_gm 533 (by decide +kernel) (by decide +kernel)), (show Cond.instanceMethod yX4_kinds ∈ qs_gT ∧ Cond.selects yX4_kinds.cls yX4_kinds yX4_kinds ∈ qs_gT from ⟨(qs_gm 534 (by decide +kernel) (by decide +kernel)), (qs_gm 535 (by decide +kernel) (by decide +kernel))⟩)⟩
theorem cfL_103 : qs_CF R_law 103 yX5_kinds mX5_kinds 2 false := ⟨(qs_gm 1056 (by decide +kernel) (by decide +kernel)), (qs_gm 99 (by decide +kernel) (by decide +kernel)), by decide, by decide +kernel, Or.inl (qs_gm 1053 (by decide +kernel) (by decide +kernel)), (show Cond.instanceMethod yX5_kinds ∈ qs_gT ∧ Cond.selects yX5_kinds.cls yX5_kinds yX5_kinds ∈ qs_gT from ⟨(qs_gm 1054 (by decide +kernel) (by decide +kernel)), (qs_gm 1055 (by decide +kernel) (by decide +kernel))⟩)⟩
theorem cfL_104 : qs_CF R_law 104 yX4_service mX4_service 1 false := ⟨(qs_gm 540 (by decide +kernel) (by decide +kernel)), (qs_gm 93 (by decide +kernel) (by decide +kernel)), by decide, by decide +kernel, Or.inl (qs_gm 537 (by decide +kernel) (by decide +kernel)), (show Cond.instanceMethod yX4_service ∈ qs_gT ∧ Cond.selects yX4_service.cls yX4_service yX4_service ∈ qs_gT from ⟨(qs_gm 538 (by decide +kernel) (by decide +kernel)), (qs_gm 539 (by decide +kernel) (by decide +kernel))⟩)⟩
theorem cfL_107 : qs_CF R_law 107 yX5_service mX5_service 1 false := ⟨(qs_gm 1060 (by decide +kernel) (by decide +kernel)), (qs_gm 99 (by decide +kernel) (by decide +kernel)), by decide, by decide +kernel, Or.inl (qs_gm 1057 (by decide +kernel) (by decide +kernel)), (show Cond.instanceMethod yX5_service ∈ qs_gT ∧ Cond.selects yX5_service.cls yX5_service yX5_service ∈ qs_gT from ⟨(qs_gm 1058 (by decide +kernel) (by decide +kernel)), (qs_gm 1059 (by decide +kernel) (by decide +kernel))⟩)⟩
theorem cfL_108 : qs_CF R_law 108 yX4_odds mX4_odds 3 false := ⟨(qs_gm 554 (by decide +kernel) (by decide +kernel)), (qs_gm 93 (by decide +kernel) (by decide +kernel)), by decide, by decide +kernel, Or.inl (qs_gm 551 (by decide +kernel) (by decide +kernel)), (show Cond.instanceMethod yX4_odds ∈ qs_gT ∧ Cond.selects yX4_odds.cls yX4_odds yX4_odds ∈ qs_gT from ⟨(qs_gm 552 (by decide +kernel) (by decide +kernel)), (qs_gm 553 (by decide +kernel) (by decide +kernel))⟩)⟩
theorem cfL_112 : qs_CF R_law 112 yX5_odds mX5_odds 3 false := ⟨(qs_gm 1069 (by decide +kernel) (by decide +kernel)), (qs_gm 99 (by decide +kernel) (by decide +kernel)), by decide, by decide +kernel, Or.inl (qs_gm 1066 (by decide +kernel) (by decide +kernel)), (show Cond.instanceMethod yX5_odds ∈ qs_gT ∧ Cond.selects yX5_odds.cls yX5_odds yX5_odds ∈ qs_gT from ⟨(qs_gm 1067 (by decide +kernel) (by decide +kernel)), (qs_gm 1068 (by decide +kernel) (by decide +kernel))⟩)⟩
theorem cfL_113 : qs_CF R_law 113 yX4_seed mX4_seed 1 false := ⟨(qs_gm 568 (by decide +kernel) (by decide +kernel)), (qs_gm 93 (by decide +kernel) (by decide +kernel)), by decide, by decide +kernel, Or.inl (qs_gm 565 (by decide +kernel) (by decide +kernel)), (show Cond.instanceMethod yX4_seed ∈ qs_gT ∧ Cond.selects yX4_seed.cls yX4_seed yX4_seed ∈ qs_gT from ⟨(qs_gm 566 (by decide +kernel) (by decide +kernel)), (qs_gm 567 (by decide +kernel) (by decide +kernel))⟩)⟩
theorem cfL_116 : qs_CF R_law 116 yX5_seed mX5_seed 1 false := ⟨(qs_gm 1073 (by decide +kernel) (by decide +kernel)), (qs_gm 99 (by decide +kernel) (by decide +kernel)), by decide, by decide +kernel, Or.inl (qs_gm 1070 (by decide +kernel) (by decide +kernel)), (show Cond.instanceMethod yX5_seed ∈ qs_gT ∧ Cond.selects yX5_seed.cls yX5_seed yX5_seed ∈ qs_gT from ⟨(qs_gm 1071 (by decide +kernel) (by decide +kernel)), (qs_gm 1072 (by decide +kernel) (by decide +kernel))⟩)⟩
theorem cfL_117 : qs_CF R_law 117 yX4_feed mX4_feed 2 false := ⟨(qs_gm 572 (by decide +kernel) (by decide +kernel)), (qs_gm 93 (by decide +kernel) (by decide +kernel)), by decide, by decide +kernel, Or.inl (qs_gm 569 (by decide +kernel) (by decide +kernel)), (show Cond.instanceMethod yX4_feed ∈ qs_gT ∧ Cond.selects yX4_feed.cls yX4_feed yX4_feed ∈ qs_gT from ⟨(qs_gm 570 (by decide +kernel) (by decide +kernel)), (qs_gm 571 (by decide +kernel) (by decide +kernel))⟩)⟩
theorem cfL_120 : qs_CF R_law 120 yX5_feed mX5_feed 2 false := ⟨(qs_gm 1077 (by decide +kernel) (by decide +kernel)), (qs_gm 99 (by decide +kernel) (by decide +kernel)), by decide, by decide +kernel, Or.inl (qs_gm 1074 (by decide +kernel) (by decide +kernel)), (show Cond.instanceMethod yX5_feed ∈ qs_gT ∧ Cond.selects yX5_feed.cls yX5_feed yX5_feed ∈ qs_gT from ⟨(qs_gm 1075 (by decide +kernel) (by decide +kernel)), (qs_gm 1076 (by decide +kernel) (by decide +kernel))⟩)⟩
theorem cfL_121 : qs_CF R_law 121 yX4_wipe mX4_wipe 0 false := ⟨(qs_gm 580 (by decide +kernel) (by decide +kernel)), (qs_gm 93 (by decide +kernel) (by decide +kernel)), by decide, by decide +kernel, Or.inl (qs_gm 577 (by decide +kernel) (by decide +kernel)), (show Cond.instanceMethod yX4_wipe ∈ qs_gT ∧ Cond.selects yX4_wipe.cls yX4_wipe yX4_wipe ∈ qs_gT from ⟨(qs_gm 578 (by decide +kernel) (by decide +kernel)), (qs_gm 579 (by decide +kernel) (by decide +kernel))⟩)⟩
theorem cfL_125 : qs_CF R_law 125 yX5_wipe mX5_wipe 0 false := ⟨(qs_gm 1081 (by decide +kernel) (by decide +kernel)), (qs_gm 99 (by decide +kernel) (by decide +kernel)), by decide, by decide +kernel, Or.inl (qs_gm 1078 (by decide +kernel) (by decide +kernel)), (show Cond.instanceMethod yX5_wipe ∈ qs_gT ∧ Cond.selects yX5_wipe.cls yX5_wipe yX5_wipe ∈ qs_gT from ⟨(qs_gm 1079 (by decide +kernel) (by decide +kernel)), (qs_gm 1080 (by decide +kernel) (by decide +kernel))⟩)⟩
theorem cfL_126 : qs_CF R_law 126 yX4_text mX4_text 0 false := ⟨(qs_gm 584 (by decide +kernel) (by decide +kernel)), (qs_gm 93 (by decide +kernel) (by decide +kernel)), by decide, by decide +kernel, Or.inl (qs_gm 581 (by decide +kernel) (by decide +kernel)), (show Cond.instanceMethod yX4_text ∈ qs_gT ∧ Cond.selects yX4_text.cls yX4_text yX4_text ∈ qs_gT from ⟨(qs_gm 582 (by decide +kernel) (by decide +kernel)), (qs_gm 583 (by decide +kernel) (by decide +kernel))⟩)⟩
theorem cfL_129 : qs_CF R_law 129 yX5_text mX5_text 0 false := ⟨(qs_gm 1085 (by decide +kernel) (by decide +kernel)), (qs_gm 99 (by decide +kernel) (by decide +kernel)), by decide, by decide +kernel, Or.inl (qs_gm 1082 (by decide +kernel) (by decide +kernel)), (show Cond.instanceMethod yX5_text ∈ qs_gT ∧ Cond.selects yX5_text.cls yX5_text yX5_text ∈ qs_gT from ⟨(qs_gm 1083 (by decide +kernel) (by decide +kernel)), (qs_gm 1084 (by decide +kernel) (by decide +kernel))⟩)⟩
theorem cfL_130 : qs_CF R_law 130 yX4_hold mX4_hold 2 false := ⟨(qs_gm 695 (by decide +kernel) (by decide +kernel)), (qs_gm 93 (by decide +kernel) (by decide +kernel)), by decide, by decide +kernel, Or.inl (qs_gm 692 (by decide +kernel) (by decide +kernel)), (show Cond.instanceMethod yX4_hold ∈ qs_gT ∧ Cond.selects yX4_hold.cls yX4_hold yX4_hold ∈ qs_gT from ⟨(qs_gm 693 (by decide +kernel) (by decide +kernel)), (qs_gm 694 (by decide +kernel) (by decide +kernel))⟩)⟩
theorem cfL_133 : qs_CF R_law 133 yX5_hold mX5_hold 2 false := ⟨(qs_gm 1131 (by decide +kernel) (by decide +kernel)), (qs_gm 99 (by decide +kernel) (by decide +kernel)), by decide, by decide +kernel, Or.inl (qs_gm 1128 (by decide +kernel) (by decide +kernel)), (show Cond.instanceMethod yX5_hold ∈ qs_gT ∧ Cond.selects yX5_hold.cls yX5_hold yX5_hold ∈ qs_gT from ⟨(qs_gm 1129 (by decide +kernel) (by decide +kernel)), (qs_gm 1130 (by decide +kernel) (by decide +kernel))⟩)⟩
theorem cfL_134 : qs_CF R_law 134 yX4_as mX4_as 2 false := ⟨(qs_gm 702 (by decide +kernel) (by decide +kernel)), (qs_gm 93 (by decide +kernel) (by decide +kernel)), by decide, by decide +kernel, Or.inl (qs_gm 699 (by decide +kernel) (by decide +kernel)), (show Cond.instanceMethod yX4_as ∈ qs_gT ∧ Cond.selects yX4_as.cls yX4_as yX4_as ∈ qs_gT from ⟨(qs_gm 700 (by decide +kernel) (by decide +kernel)), (qs_gm 701 (by decide +kernel) (by decide +kernel))⟩)⟩
theorem cfL_137 : qs_CF R_law 137 yX5_as mX5_as 2 false := ⟨(qs_gm 1135 (by decide +kernel) (by decide +kernel)), (qs_gm 99 (by decide +kernel) (by decide +kernel)), by decide, by decide +kernel, Or.inl (qs_gm 1132 (by decide +kernel) (by decide +kernel)), (show Cond.instanceMethod yX5_as ∈ qs_gT ∧ Cond.selects yX5_as.cls yX5_as yX5_as ∈ qs_gT from ⟨(qs_gm 1133 (by decide +kernel) (by decide +kernel)), (qs_gm 1134 (by decide +kernel) (by decide +kernel))⟩)⟩
theorem cfL_138 : qs_CF R_law 138 yX4_sheet mX4_sheet 3 false := ⟨(qs_gm 711 (by decide +kernel) (by decide +kernel)), (qs_gm 93 (by decide +kernel) (by decide +kernel)), by decide, by decide +kernel, Or.inl (qs_gm 708 (by decide +kernel) (by decide +kernel)), (show Cond.instanceMethod yX4_sheet ∈ qs_gT ∧ Cond.selects yX4_sheet.cls yX4_sheet yX4_sheet ∈ qs_gT from ⟨(qs_gm 709 (by decide +kernel) (by decide +kernel)), (qs_gm 710 (by decide +kernel) (by decide +kernel))⟩)⟩
theorem cfL_141 : qs_CF R_law 141 yX5_sheet mX5_sheet 3 false := ⟨(qs_gm 1143 (by decide +kernel) (by decide +kernel)), (qs_gm 99 (by decide +kernel) (by decide +kernel)), by decide, by decide +kernel, Or.inl (qs_gm 1140 (by decide +kernel) (by decide +kernel)), (show Cond.instanceMethod yX5_sheet ∈ qs_gT ∧ Cond.selects yX5_sheet.cls yX5_sheet yX5_sheet ∈ qs_gT from ⟨(qs_gm 1141 (by decide +kernel) (by decide +kernel)), (qs_gm 1142 (by decide +kernel) (by decide +kernel))⟩)⟩
theorem cfL_142 : qs_CF R_law 142 yX4_write mX4_write 3 false := ⟨(qs_gm 720 (by decide +kernel) (by decide +kernel)), (qs_gm 93 (by decide +kernel) (by decide +kernel)), by decide, by decide +kernel, Or.inl (qs_gm 717 (by decide +kernel) (by decide +kernel)), (show Cond.instanceMethod yX4_write ∈ qs_gT ∧ Cond.selects yX4_write.cls yX4_write yX4_write ∈ qs_gT from ⟨(qs_gm 718 (by decide +kernel) (by decide +kernel)), (qs_gm 719 (by decide +kernel) (by decide +kernel))⟩)⟩
theorem cfL_145 : qs_CF R_law 145 yX5_write mX5_write 3 false := ⟨(qs_gm 1148 (by decide +kernel) (by decide +kernel)), (qs_gm 99 (by decide +kernel) (by decide +kernel)), by decide, by decide +kernel, Or.inl (qs_gm 1145 (by decide +kernel) (by decide +kernel)), (show Cond.instanceMethod yX5_write ∈ qs_gT ∧ Cond.selects yX5_write.cls yX5_write yX5_write ∈ qs_gT from ⟨(qs_gm 1146 (by decide +kernel) (by decide +kernel)), (qs_gm 1147 (by decide +kernel) (by decide +kernel))⟩)⟩
theorem cfL_146 : qs_CF R_law 146 yX4_copy mX4_copy 5 false := ⟨(qs_gm 728 (by decide +kernel) (by decide +kernel)), (qs_gm 93 (by decide +kernel) (by decide +kernel)), by decide, by decide +kernel, Or.inl (qs_gm 725 (by decide +kernel) (by decide +kernel)), (show Cond.instanceMethod yX4_copy ∈ qs_gT ∧ Cond.selects yX4_copy.cls yX4_copy yX4_copy ∈ qs_gT from ⟨(qs_gm 726 (by decide +kernel) (by decide +kernel)), (qs_gm 727 (by decide +kernel) (by decide +kernel))⟩)⟩
theorem cfL_150 : qs_CF R_law 150 yX5_copy mX5_copy 5 false := ⟨(qs_gm 1152 (by decide +kernel) (by decide +kernel)), (qs_gm 99 (by decide +kernel) (by decide +kernel)), by decide, by decide +kernel, Or.inl (qs_gm 1149 (by decide +kernel) (by decide +kernel)), (show Cond.instanceMethod yX5_copy ∈ qs_gT ∧ Cond.selects yX5_copy.cls yX5_copy yX5_copy ∈ qs_gT from ⟨(qs_gm 1150 (by decide +kernel) (by decide +kernel)), (qs_gm 1151 (by decide +kernel) (by decide +kernel))⟩)⟩
theorem cfL_151 : qs_CF R_law 151 yX4_load mX4_load 1 false := ⟨(qs_gm 737 (by decide +kernel) (by decide +kernel)), (qs_gm 93 (by decide +kernel) (by decide +kernel)), by decide, by decide +kernel, Or.inl (qs_gm 734 (by decide +kernel) (by decide +kernel)), (show Cond.instanceMethod yX4_load ∈ qs_gT ∧ Cond.selects yX4_load.cls yX4_load yX4_load ∈ qs_gT from ⟨(qs_gm 735 (by decide +kernel) (by decide +kernel)), (qs_gm 736 (by decide +kernel) (by decide +kernel))⟩)⟩
theorem cfL_154 : qs_CF R_law 154 yX5_load mX5_load 1 false := ⟨(qs_gm 1160 (by decide +kernel) (by decide +kernel)), (qs_gm 99 (by decide +kernel) (by decide +kernel)), by decide, by decide +kernel, Or.inl (qs_gm 1157 (by decide +kernel) (by decide +kernel)), (show Cond.instanceMethod yX5_load ∈ qs_gT ∧ Cond.selects yX5_load.cls yX5_load yX5_load ∈ qs_gT from ⟨(qs_gm 1158 (by decide +kernel) (by decide +kernel)), (qs_gm 1159 (by decide +kernel) (by decide +kernel))⟩)⟩
theorem cfL_155 : qs_CF R_law 155 yX4_judge mX4_judge 1 false := ⟨(qs_gm 741 (by decide +kernel) (by decide +kernel)), (qs_gm 93 (by decide +kernel) (by decide +kernel)), by decide, by decide +kernel, Or.inl (qs_gm 738 (by decide +kernel) (by decide +kernel)), (show Cond.instanceMethod yX4_judge ∈ qs_gT ∧ Cond.selects yX4_judge.cls yX4_judge yX4_judge ∈ qs_gT from ⟨(qs_gm 739 (by decide +kernel) (by decide +kernel)), (qs_gm 740 (by decide +kernel) (by decide +kernel))⟩)⟩
theorem cfL_158 : qs_CF R_law 158 yX5_judge mX5_judge 1 false := ⟨(qs_gm 1164 (by decide +kernel) (by decide +kernel)), (qs_gm 99 (by decide +kernel) (by decide +kernel)), by decide, by decide +kernel, Or.inl (qs_gm 1161 (by decide +kernel) (by decide +kernel)), (show Cond.instanceMethod yX5_judge ∈ qs_gT ∧ Cond.selects yX5_judge.cls yX5_judge yX5_judge ∈ qs_gT from ⟨(qs_gm 1162 (by decide +kernel) (by decide +kernel)), (qs_gm 1163 (by decide +kernel) (by decide +kernel))⟩)⟩
theorem cfL_159 : qs_CF R_law 159 yX4_image mX4_image 0 false := ⟨(qs_gm 745 (by decide +kernel) (by decide +kernel)), (qs_gm 93 (by decide +kernel) (by decide +kernel)), by decide, by decide +kernel, Or.inl (qs_gm 742 (by decide +kernel) (by decide +kernel)), (show Cond.instanceMethod yX4_image ∈ qs_gT ∧ Cond.selects yX4_image.cls yX4_image yX4_image ∈ qs_gT from ⟨(qs_gm 743 (by decide +kernel) (by decide +kernel)), (qs_gm 744 (by decide +kernel) (by decide +kernel))⟩)⟩
theorem cfL_162 : qs_CF R_law 162 yX5_image mX5_image 0 false := ⟨(qs_gm 1168 (by decide +kernel) (by decide +kernel)), (qs_gm 99 (by decide +kernel) (by decide +kernel)), by decide, by decide +kernel, Or.inl (qs_gm 1165 (by decide +kernel) (by decide +kernel)), (show Cond.instanceMethod yX5_image ∈ qs_gT ∧ Cond.selects yX5_image.cls yX5_image yX5_image ∈ qs_gT from ⟨(qs_gm 1166 (by decide +kernel) (by decide +kernel)), (qs_gm 1167 (by decide +kernel) (by decide +kernel))⟩)⟩
theorem cfL_163 : qs_CF R_law 163 yX4_undo mX4_undo 0 false := ⟨(qs_gm 749 (by decide +kernel) (by decide +kernel)), (qs_gm 93 (by decide +kernel) (by decide +kernel)), by decide, by decide +kernel, Or.inl (qs_gm 746 (by decide +kernel) (by decide +kernel)), (show Cond.instanceMethod yX4_undo ∈ qs_gT ∧ Cond.selects yX4_undo.cls yX4_undo yX4_undo ∈ qs_gT from ⟨(qs_gm 747 (by decide +kernel) (by decide +kernel)), (qs_gm 748 (by decide +kernel) (by decide +kernel))⟩)⟩
theorem cfL_166 : qs_CF R_law 166 yX5_undo mX5_undo 0 false := ⟨(qs_gm 1172 (by decide +kernel) (by decide +kernel)), (qs_gm 99 (by decide +kernel) (by decide +kernel)), by decide, by decide +kernel, Or.inl (qs_gm 1169 (by decide +kernel) (by decide +kernel)), (show Cond.instanceMethod yX5_undo ∈ qs_gT ∧ Cond.selects yX5_undo.cls yX5_undo yX5_undo ∈ qs_gT from ⟨(qs_gm 1170 (by decide +kernel) (by decide +kernel)), (qs_gm 1171 (by decide +kernel) (by decide +kernel))⟩)⟩
theorem cfL_167 : qs_CF R_law 167 yX4_tear mX4_tear 0 false := ⟨(qs_gm 753 (by decide +kernel) (by decide +kernel)), (qs_gm 93 (by decide +kernel) (by decide +kernel)), by decide, by decide +kernel, Or.inl (qs_gm 750 (by decide +kernel) (by decide +kernel)), (show Cond.instanceMethod yX4_tear ∈ qs_gT ∧ Cond.selects yX4_tear.cls yX4_tear yX4_tear ∈ qs_gT from ⟨(qs_gm 751 (by decide +kernel) (by decide +kernel)), (qs_gm 752 (by decide +kernel) (by decide +kernel))⟩)⟩
theorem cfL_170 : qs_CF R_law 170 yX5_tear mX5_tear 0 false := ⟨(qs_gm 1176 (by decide +kernel) (by decide +kernel)), (qs_gm 99 (by decide +kernel) (by decide +kernel)), by decide, by decide +kernel, Or.inl (qs_gm 1173 (by decide +kernel) (by decide +kernel)), (show Cond.instanceMethod yX5_tear ∈ qs_gT ∧ Cond.selects yX5_tear.cls yX5_tear yX5_tear ∈ qs_gT from ⟨(qs_gm 1174 (by decide +kernel) (by decide +kernel)), (qs_gm 1175 (by decide +kernel) (by decide +kernel))⟩)⟩
theorem cfL_171 : qs_CF R_law 171 yX4_count mX4_count 1 false := ⟨(qs_gm 757 (by decide +kernel) (by decide +kernel)), (qs_gm 93 (by decide +kernel) (by decide +kernel)), by decide, by decide +kernel, Or.inl (qs_gm 754 (by decide +kernel) (by decide +kernel)), (show Cond.instanceMethod yX4_count ∈ qs_gT ∧ Cond.selects yX4_count.cls yX4_count yX4_count ∈ qs_gT from ⟨(qs_gm 755 (by decide +kernel) (by decide +kernel)), (qs_gm 756 (by decide +kernel) (by decide +kernel))⟩)⟩
theorem cfL_174 : qs_CF R_law 174 yX5_count mX5_count 1 false := ⟨(qs_gm 1180 (by decide +kernel) (by decide +kernel)), (qs_gm 99 (by decide +kernel) (by decide +kernel)), by decide, by decide +kernel, Or.inl (qs_gm 1177 (by decide +kernel) (by decide +kernel)), (show Cond.instanceMethod yX5_count ∈ qs_gT ∧ Cond.selects yX5_count.cls yX5_count yX5_count ∈ qs_gT from ⟨(qs_gm 1178 (by decide +kernel) (by decide +kernel)), (qs_gm 1179 (by decide +kernel) (by decide +kernel))⟩)⟩
theorem cfL_175 : qs_CF R_law 175 yX4_status mX4_status 1 false := ⟨(qs_gm 771 (by decide +kernel) (by decide +kernel)), (qs_gm 93 (by decide +kernel) (by decide +kernel)), by decide, by decide +kernel, Or.inl (qs_gm 768 (by decide +kernel) (by decide +kernel)), (show Cond.instanceMethod yX4_status ∈ qs_gT ∧ Cond.selects yX4_status.cls yX4_status yX4_status ∈ qs_gT from ⟨(qs_gm 769 (by decide +kernel) (by decide +kernel)), (qs_gm 770 (by decide +kernel) (by decide +kernel))⟩)⟩
theorem cfL_178 : qs_CF R_law 178 yX5_status mX5_status 1 false := ⟨(qs_gm 1188 (by decide +kernel) (by decide +kernel)), (qs_gm 99 (by decide +kernel) (by decide +kernel)), by decide, by decide +kernel, Or.inl (qs_gm 1185 (by decide +kernel) (by decide +kernel)), (show Cond.instanceMethod yX5_status ∈ qs_gT ∧ Cond.selects yX5_status.cls yX5_status yX5_status ∈ qs_gT from ⟨(qs_gm 1186 (by decide +kernel) (by decide +kernel)), (qs_gm 1187 (by decide +kernel) (by decide +kernel))⟩)⟩
theorem lg_cmp_self (r : Int64) : lg_cmp r r = 0 := by
  unfold lg_cmp
  rw [if_neg (fun h => Int64.lt_irrefl h), if_pos rfl]
section CASES
variable {p : Program} {l : Launch} {e : Env} {s : State} {m : MethodId} {below : List Frame} {meth : Method} {c : Code} {b L : Nat} {xs : Nat → Int32} {Ex Em : qs_E} {Ax Am : Nat → Prop} {X M : qs_D} {H : Heap} {locs : List Loc} {ls : Array Slot} {i : Nat} {Q : State → Prop}
theorem lc_0 (hC : LC p s m meth c b L xs Ex Em Ax Am) (hL : L ≤ 3072) (hl : lv_has ls 4 (lw_lv b Ex Em i)) (hQ : QL Ex Em Ax Am s X M H locs) (hR : RR X M) (hi : i + 6 ≤ L) (kk : ∀ (X1 M1 : qs_D) (H1 : Heap) (locs1 : List Loc), QL Ex Em Ax Am s X1 M1 H1 locs1 → RR X1 M1 → W p l e room_1 s m #[Value.ref b] below meth c H1 locs1 58 1078 Q (F0 m 1349 ls [])) : W p l e room_1 s m #[Value.ref b] below meth c H locs 58 1078 Q (F0 m 208 ls []) := by
  obtain ⟨r, X1, M1, hX, hM, hR2⟩ := m_set hR (xs (i + 1)) (xs (i + 2))
  refine lw_al hC hl dL_law_208 rfl (q := 2) rfl ?_
  refine lw_arg 1 hC hL hl hQ (by omega) (by decide) dL_law_209 dL_law_210 dL_law_211 dL_law_212 dL_law_213 ?_
  refine lw_arg 2 hC hL hl hQ (by omega) (by decide) dL_law_214 dL_law_215 dL_law_216 dL_law_217 dL_law_218 ?_
  refine lw_callX (As := [.int (xs (i + 1)), .int (xs (i + 2))]) (rest := []) hC hl hQ cfL_13 (by decide) rfl (kX4_set hX) rfl rfl (Nat.le_of_ble_eq_true rfl) dL_law_219 rfl (fun H1 locs1 hQ1 => ?_)
  refine W.eq (g2 := F0 m 222 ls [.int r]) rfl ?_
  refine lw_al hC hl dL_law_222 rfl (q := 1) rfl ?_
  refine lw_arg 1 hC hL hl hQ1 (by omega) (by decide) dL_law_223 dL_law_224 dL_law_225 dL_law_226 dL_law_227 ?_
  refine lw_arg 2 hC hL hl hQ1 (by omega) (by decide) dL_law_228 dL_law_229 dL_law_230 dL_law_231 dL_law_232 ?_
  refine lw_callM (As := [.int (xs (i + 1)), .int (xs (i + 2))]) (rest := [.int r]) hC hl hQ1 cfL_17 (by decide) rfl (kX5_set hM) rfl rfl (Nat.le_of_ble_eq_true rfl) dL_law_233 rfl (fun H2 locs2 hQ2 => ?_)
  refine W.eq (g2 := F0 m 236 ls [.int r, .int r]) rfl ?_
  refine lv_icmp_eq (tgt := 1349) hC.1.1 hC.1.2.1 dL_law_236 (by decide) (fun _ => kk X1 M1 H2 locs2 hQ2 hR2) (fun h => absurd rfl h)
theorem lc_1 (hC : LC p s m meth c b L xs Ex Em Ax Am) (hL : L ≤ 3072) (hl : lv_has ls 4 (lw_lv b Ex Em i)) (hQ : QL Ex Em Ax Am s X M H locs) (hR : RR X M) (hi : i + 6 ≤ L) (kk : ∀ (X1 M1 : qs_D) (H1 : Heap) (locs1 : List Loc), QL Ex Em Ax Am s X1 M1 H1 locs1 → RR X1 M1 → W p l e room_1 s m #[Value.ref b] below meth c H1 locs1 58 1078 Q (F0 m 1349 ls [])) : W p l e room_1 s m #[Value.ref b] below meth c H locs 58 1078 Q (F0 m 241 ls []) := by
  obtain ⟨r, X1, M1, hX, hM, hR2⟩ := m_deed hR (xs (i + 1)) (xs (i + 2))
  refine lw_al hC hl dL_law_241 rfl (q := 2) rfl ?_
  refine lw_arg 1 hC hL hl hQ (by omega) (by decide) dL_law_242 dL_law_243 dL_law_244 dL_law_245 dL_law_246 ?_
  refine lw_arg 2 hC hL hl hQ (by omega) (by decide) dL_law_247 dL_law_248 dL_law_249 dL_law_250 dL_law_251 ?_
  refine lw_callX (As := [.int (xs (i + 1)), .int (xs (i + 2))]) (rest := []) hC hl hQ cfL_18 (by decide) rfl (kX4_deed hX) rfl rfl (Nat.le_of_ble_eq_true rfl) dL_law_252 rfl (fun H1 locs1 hQ1 => ?_)
  refine W.eq (g2 := F0 m 255 ls [.int r]) rfl ?_
  refine lw_al hC hl dL_law_255 rfl (q := 1) rfl ?_
  refine lw_arg 1 hC hL hl hQ1 (by omega) (by decide) dL_law_256 dL_law_257 dL_law_258 dL_law_259 dL_law_260 ?_
  refine lw_arg 2 hC hL hl hQ1 (by omega) (by decide) dL_law_261 dL_law_262 dL_law_263 dL_law_264 dL_law_265 ?_
  refine lw_callM (As := [.int (xs (i + 1)), .int (xs (i + 2))]) (rest := [.int r]) hC hl hQ1 cfL_21 (by decide) rfl (kX5_deed hM) rfl rfl (Nat.le_of_ble_eq_true rfl) dL_law_266 rfl (fun H2 locs2 hQ2 => ?_)
  refine W.eq (g2 := F0 m 269 ls [.int r, .int r]) rfl ?_
  refine lv_icmp_eq (tgt := 1349) hC.1.1 hC.1.2.1 dL_law_269 (by decide) (fun _ => kk X1 M1 H2 locs2 hQ2 hR2) (fun h => absurd rfl h)
theorem lc_2 (hC : LC p s m meth c b L xs Ex Em Ax Am) (hL : L ≤ 3072) (hl : lv_has ls 4 (lw_lv b Ex Em i)) (hQ : QL Ex Em Ax Am s X M H locs) (hR : RR X M) (hi : i + 6 ≤ L) (kk : ∀ (X1 M1 : qs_D) (H1 : Heap) (locs1 : List Loc), QL Ex Em Ax Am s X1 M1 H1 locs1 → RR X1 M1 → W p l e room_1 s m #[Value.ref b] below meth c H1 locs1 58 1078 Q (F0 m 1349 ls [])) : W p l e room_1 s m #[Value.ref b] below meth c H locs 58 1078 Q (F0 m 274 ls []) := by
  obtain ⟨r, X1, M1, hX, hM, hR2⟩ := m_listed hR (xs (i + 1))
  refine lw_al hC hl dL_law_274 rfl (q := 2) rfl ?_
  refine lw_arg 1 hC hL hl hQ (by omega) (by decide) dL_law_275 dL_law_276 dL_law_277 dL_law_278 dL_law_279 ?_
  refine lw_callX (As := [.int (xs (i + 1))]) (rest := []) hC hl hQ cfL_22 (by decide) rfl (kX4_listed hX) rfl rfl (Nat.le_of_ble_eq_true rfl) dL_law_280 rfl (fun H1 locs1 hQ1 => ?_)
  refine W.eq (g2 := F0 m 283 ls [.int r]) rfl ?_
  refine lw_al hC hl dL_law_283 rfl (q := 1) rfl ?_
  refine lw_arg 1 hC hL hl hQ1 (by omega) (by decide) dL_law_284 dL_law_285 dL_law_286 dL_law_287 dL_law_288 ?_
  refine lw_callM (As := [.int (xs (i + 1))]) (rest := [.int r]) hC hl hQ1 cfL_26 (by decide) rfl (kX5_listed hM) rfl rfl (Nat.le_of_ble_eq_true rfl) dL_law_289 rfl (fun H2 locs2 hQ2 => ?_)
  refine W.eq (g2 := F0 m 292 ls [.int r, .int r]) rfl ?_
  refine lv_icmp_eq (tgt := 1349) hC.1.1 hC.1.2.1 dL_law_292 (by decide) (fun _ => kk X1 M1 H2 locs2 hQ2 hR2) (fun h => absurd rfl h)
theorem lc_3 (hC : LC p s m meth c b L xs Ex Em Ax Am) (hL : L ≤ 3072) (hl : lv_has ls 4 (lw_lv b Ex Em i)) (hQ : QL Ex Em Ax Am s X M H locs) (hR : RR X M) (hi : i + 6 ≤ L) (kk : ∀ (X1 M1 : qs_D) (H1 : Heap) (locs1 : List Loc), QL Ex Em Ax Am s X1 M1 H1 locs1 → RR X1 M1 → W p l e room_1 s m #[Value.ref b] below meth c H1 locs1 58 1078 Q (F0 m 1349 ls [])) : W p l e room_1 s m #[Value.ref b] below meth c H locs 58 1078 Q (F0 m 297 ls []) := by
  obtain ⟨r, X1, M1, hX, hM, hR2⟩ := m_dish hR (xs (i + 1)) (xs (i + 2))
  refine lw_al hC hl dL_law_297 rfl (q := 2) rfl ?_
  refine lw_arg 1 hC hL hl hQ (by omega) (by decide) dL_law_298 dL_law_299 dL_law_300 dL_law_301 dL_law_302 ?_
  refine lw_arg 2 hC hL hl hQ (by omega) (by decide) dL_law_303 dL_law_304 dL_law_305 dL_law_306 dL_law_307 ?_
  refine lw_callX (As := [.int (xs (i + 1)), .int (xs (i + 2))]) (rest := []) hC hl hQ cfL_27 (by decide) rfl (kX4_dish hX) rfl rfl (Nat.le_of_ble_eq_true rfl) dL_law_308 rfl (fun H1 locs1 hQ1 => ?_)
  refine W.eq (g2 := F0 m 311 ls [.int r]) rfl ?_
  refine lw_al hC hl dL_law_311 rfl (q := 1) rfl ?_
  refine lw_arg 1 hC hL hl hQ1 (by omega) (by decide) dL_law_312 dL_law_313 dL_law_314 dL_law_315 dL_law_316 ?_
  refine lw_arg 2 hC hL hl hQ1 (by omega) (by decide) dL_law_317 dL_law_318 dL_law_319 dL_law_320 dL_law_321 ?_
  refine lw_callM (As := [.int (xs (i + 1)), .int (xs (i + 2))]) (rest := [.int r]) hC hl hQ1 cfL_30 (by decide) rfl (kX5_dish hM) rfl rfl (Nat.le_of_ble_eq_true rfl) dL_law_322 rfl (fun H2 locs2 hQ2 => ?_)
  refine W.eq (g2 := F0 m 325 ls [.int r, .int r]) rfl ?_
  refine lv_icmp_eq (tgt := 1349) hC.1.1 hC.1.2.1 dL_law_325 (by decide) (fun _ => kk X1 M1 H2 locs2 hQ2 hR2) (fun h => absurd rfl h)
theorem lc_4 (hC : LC p s m meth c b L xs Ex Em Ax Am) (hL : L ≤ 3072) (hl : lv_has ls 4 (lw_lv b Ex Em i)) (hQ : QL Ex Em Ax Am s X M H locs) (hR : RR X M) (hi : i + 6 ≤ L) (kk : ∀ (X1 M1 : qs_D) (H1 : Heap) (locs1 : List Loc), QL Ex Em Ax Am s X1 M1 H1 locs1 → RR X1 M1 → W p l e room_1 s m #[Value.ref b] below meth c H1 locs1 58 1078 Q (F0 m 1349 ls [])) : W p l e room_1 s m #[Value.ref b] below meth c H locs 58 1078 Q (F0 m 330 ls []) := by
  obtain ⟨r, X1, M1, hX, hM, hR2⟩ := m_of hR (xs (i + 1)) (xs (i + 2))
  refine lw_al hC hl dL_law_330 rfl (q := 2) rfl ?_
  refine lw_arg 1 hC hL hl hQ (by omega) (by decide) dL_law_331 dL_law_332 dL_law_333 dL_law_334 dL_law_335 ?_
  refine lw_arg 2 hC hL hl hQ (by omega) (by decide) dL_law_336 dL_law_337 dL_law_338 dL_law_339 dL_law_340 ?_
  refine lw_callX (As := [.int (xs (i + 1)), .int (xs (i + 2))]) (rest := []) hC hl hQ cfL_31 (by decide) rfl (kX4_of hX) rfl rfl (Nat.le_of_ble_eq_true rfl) dL_law_341 rfl (fun H1 locs1 hQ1 => ?_)
  refine W.eq (g2 := F0 m 344 ls [.int r]) rfl ?_
  refine lw_al hC hl dL_law_344 rfl (q := 1) rfl ?_
  refine lw_arg 1 hC hL hl hQ1 (by omega) (by decide) dL_law_345 dL_law_346 dL_law_347 dL_law_348 dL_law_349 ?_
  refine lw_arg 2 hC hL hl hQ1 (by omega) (by decide) dL_law_350 dL_law_351 dL_law_352 dL_law_353 dL_law_354 ?_
  refine lw_callM (As := [.int (xs (i + 1)), .int (xs (i + 2))]) (rest := [.int r]) hC hl hQ1 cfL_34 (by decide) rfl (kX5_of hM) rfl rfl (Nat.le_of_ble_eq_true rfl) dL_law_355 rfl (fun H2 locs2 hQ2 => ?_)
  refine W.eq (g2 := F0 m 358 ls [.int r, .int r]) rfl ?_
  refine lv_icmp_eq (tgt := 1349) hC.1.1 hC.1.2.1 dL_law_358 (by decide) (fun _ => kk X1 M1 H2 locs2 hQ2 hR2) (fun h => absurd rfl h)
theorem lc_5 (hC : LC p s m meth c b L xs Ex Em Ax Am) (hL : L ≤ 3072) (hl : lv_has ls 4 (lw_lv b Ex Em i)) (hQ : QL Ex Em Ax Am s X M H locs) (hR : RR X M) (hi : i + 6 ≤ L) (kk : ∀ (X1 M1 : qs_D) (H1 : Heap) (locs1 : List Loc), QL Ex Em Ax Am s X1 M1 H1 locs1 → RR X1 M1 → W p l e room_1 s m #[Value.ref b] below meth c H1 locs1 58 1078 Q (F0 m 1349 ls [])) : W p l e room_1 s m #[Value.ref b] below meth c H locs 58 1078 Q (F0 m 363 ls []) := by
  obtain ⟨r, X1, M1, hX, hM, hR2⟩ := m_change hR (xs (i + 1)) (xs (i + 2)) (xs (i + 3))
  refine lw_al hC hl dL_law_363 rfl (q := 2) rfl ?_
  refine lw_arg 1 hC hL hl hQ (by omega) (by decide) dL_law_364 dL_law_365 dL_law_366 dL_law_367 dL_law_368 ?_
  refine lw_arg 2 hC hL hl hQ (by omega) (by decide) dL_law_369 dL_law_370 dL_law_371 dL_law_372 dL_law_373 ?_
  refine lw_arg 3 hC hL hl hQ (by omega) (by decide) dL_law_374 dL_law_375 dL_law_376 dL_law_377 dL_law_378 ?_
  refine lw_callX (As := [.int (xs (i + 1)), .int (xs (i + 2)), .int (xs (i + 3))]) (rest := []) hC hl hQ cfL_35 (by decide) rfl (kX4_change hX) rfl rfl (Nat.le_of_ble_eq_true rfl) dL_law_379 rfl (fun H1 locs1 hQ1 => ?_)
  refine W.eq (g2 := F0 m 382 ls [.int r]) rfl ?_
  refine lw_al hC hl dL_law_382 rfl (q := 1) rfl ?_
  refine lw_arg 1 hC hL hl hQ1 (by omega) (by decide) dL_law_383 dL_law_384 dL_law_385 dL_law_386 dL_law_387 ?_
  refine lw_arg 2 hC hL hl hQ1 (by omega) (by decide) dL_law_388 dL_law_389 dL_law_390 dL_law_391 dL_law_392 ?_
  refine lw_arg 3 hC hL hl hQ1 (by omega) (by decide) dL_law_393 dL_law_394 dL_law_395 dL_law_396 dL_law_397 ?_
  refine lw_callM (As := [.int (xs (i + 1)), .int (xs (i + 2)), .int (xs (i + 3))]) (rest := [.int r]) hC hl hQ1 cfL_39 (by decide) rfl (kX5_change hM) rfl rfl (Nat.le_of_ble_eq_true rfl) dL_law_398 rfl (fun H2 locs2 hQ2 => ?_)
  refine W.eq (g2 := F0 m 401 ls [.int r, .int r]) rfl ?_
  refine lv_icmp_eq (tgt := 1349) hC.1.1 hC.1.2.1 dL_law_401 (by decide) (fun _ => kk X1 M1 H2 locs2 hQ2 hR2) (fun h => absurd rfl h)
theorem lc_6 (hC : LC p s m meth c b L xs Ex Em Ax Am) (hL : L ≤ 3072) (hl : lv_has ls 4 (lw_lv b Ex Em i)) (hQ : QL Ex Em Ax Am s X M H locs) (hR : RR X M) (hi : i + 6 ≤ L) (kk : ∀ (X1 M1 : qs_D) (H1 : Heap) (locs1 : List Loc), QL Ex Em Ax Am s X1 M1 H1 locs1 → RR X1 M1 → W p l e room_1 s m #[Value.ref b] below meth c H1 locs1 58 1078 Q (F0 m 1349 ls [])) : W p l e room_1 s m #[Value.ref b] below meth c H locs 58 1078 Q (F0 m 406 ls []) := by
  obtain ⟨r, X1, M1, hX, hM, hR2⟩ := m_serve hR (xs (i + 1))
  refine lw_al hC hl dL_law_406 rfl (q := 2) rfl ?_
  refine lw_arg 1 hC hL hl hQ (by omega) (by decide) dL_law_407 dL_law_408 dL_law_409 dL_law_410 dL_law_411 ?_
  refine lw_callX (As := [.int (xs (i + 1))]) (rest := []) hC hl hQ cfL_40 (by decide) rfl (kX4_serve hX) rfl rfl (Nat.le_of_ble_eq_true rfl) dL_law_412 rfl (fun H1 locs1 hQ1 => ?_)
  refine W.eq (g2 := F0 m 415 ls [.int r]) rfl ?_
  refine lw_al hC hl dL_law_415 rfl (q := 1) rfl ?_
  refine lw_arg 1 hC hL hl hQ1 (by omega) (by decide) dL_law_416 dL_law_417 dL_law_418 dL_law_419 dL_law_420 ?_
  refine lw_callM (As := [.int (xs (i + 1))]) (rest := [.int r]) hC hl hQ1 cfL_43 (by decide) rfl (kX5_serve hM) rfl rfl (Nat.le_of_ble_eq_true rfl) dL_law_421 rfl (fun H2 locs2 hQ2 => ?_)
  refine W.eq (g2 := F0 m 424 ls [.int r, .int r]) rfl ?_
  refine lv_icmp_eq (tgt := 1349) hC.1.1 hC.1.2.1 dL_law_424 (by decide) (fun _ => kk X1 M1 H2 locs2 hQ2 hR2) (fun h => absurd rfl h)
theorem lc_7 (hC : LC p s m meth c b L xs Ex Em Ax Am) (hL : L ≤ 3072) (hl : lv_has ls 4 (lw_lv b Ex Em i)) (hQ : QL Ex Em Ax Am s X M H locs) (hR : RR X M) (hi : i + 6 ≤ L) (kk : ∀ (X1 M1 : qs_D) (H1 : Heap) (locs1 : List Loc), QL Ex Em Ax Am s X1 M1 H1 locs1 → RR X1 M1 → W p l e room_1 s m #[Value.ref b] below meth c H1 locs1 58 1078 Q (F0 m 1349 ls [])) : W p l e room_1 s m #[Value.ref b] below meth c H locs 58 1078 Q (F0 m 429 ls []) := by
  obtain ⟨r, X1, M1, hX, hM, hR2⟩ := m_act hR (xs (i + 1))
  refine lw_al hC hl dL_law_429 rfl (q := 2) rfl ?_
  refine lw_arg 1 hC hL hl hQ (by omega) (by decide) dL_law_430 dL_law_431 dL_law_432 dL_law_433 dL_law_434 ?_
  refine lw_callX (As := [.int (xs (i + 1))]) (rest := []) hC hl hQ cfL_44 (by decide) rfl (kX4_act hX) rfl rfl (Nat.le_of_ble_eq_true rfl) dL_law_435 rfl (fun H1 locs1 hQ1 => ?_)
  refine W.eq (g2 := F0 m 438 ls [.int r]) rfl ?_
  refine lw_al hC hl dL_law_438 rfl (q := 1) rfl ?_
  refine lw_arg 1 hC hL hl hQ1 (by omega) (by decide) dL_law_439 dL_law_440 dL_law_441 dL_law_442 dL_law_443 ?_
  refine lw_callM (As := [.int (xs (i + 1))]) (rest := [.int r]) hC hl hQ1 cfL_47 (by decide) rfl (kX5_act hM) rfl rfl (Nat.le_of_ble_eq_true rfl) dL_law_444 rfl (fun H2 locs2 hQ2 => ?_)
  refine W.eq (g2 := F0 m 447 ls [.int r, .int r]) rfl ?_
  refine lv_icmp_eq (tgt := 1349) hC.1.1 hC.1.2.1 dL_law_447 (by decide) (fun _ => kk X1 M1 H2 locs2 hQ2 hR2) (fun h => absurd rfl h)
theorem lc_8 (hC : LC p s m meth c b L xs Ex Em Ax Am) (hL : L ≤ 3072) (hl : lv_has ls 4 (lw_lv b Ex Em i)) (hQ : QL Ex Em Ax Am s X M H locs) (hR : RR X M) (hi : i + 6 ≤ L) (kk : ∀ (X1 M1 : qs_D) (H1 : Heap) (locs1 : List Loc), QL Ex Em Ax Am s X1 M1 H1 locs1 → RR X1 M1 → W p l e room_1 s m #[Value.ref b] below meth c H1 locs1 58 1078 Q (F0 m 1349 ls [])) : W p l e room_1 s m #[Value.ref b] below meth c H locs 58 1078 Q (F0 m 452 ls []) := by
  obtain ⟨r, X1, M1, hX, hM, hR2⟩ := m_go hR (xs (i + 1))
  refine lw_al hC hl dL_law_452 rfl (q := 2) rfl ?_
  refine lw_arg 1 hC hL hl hQ (by omega) (by decide) dL_law_453 dL_law_454 dL_law_455 dL_law_456 dL_law_457 ?_
  refine lw_callX (As := [.int (xs (i + 1))]) (rest := []) hC hl hQ cfL_48 (by decide) rfl (kX4_go hX) rfl rfl (Nat.le_of_ble_eq_true rfl) dL_law_458 rfl (fun H1 locs1 hQ1 => ?_)
  refine W.eq (g2 := F0 m 461 ls [.int r]) rfl ?_
  refine lw_al hC hl dL_law_461 rfl (q := 1) rfl ?_
  refine lw_arg 1 hC hL hl hQ1 (by omega) (by decide) dL_law_462 dL_law_463 dL_law_464 dL_law_465 dL_law_466 ?_
  refine lw_callM (As := [.int (xs (i + 1))]) (rest := [.int r]) hC hl hQ1 cfL_51 (by decide) rfl (kX5_go hM) rfl rfl (Nat.le_of_ble_eq_true rfl) dL_law_467 rfl (fun H2 locs2 hQ2 => ?_)
  refine W.eq (g2 := F0 m 470 ls [.int r, .int r]) rfl ?_
  refine lv_icmp_eq (tgt := 1349) hC.1.1 hC.1.2.1 dL_law_470 (by decide) (fun _ => kk X1 M1 H2 locs2 hQ2 hR2) (fun h => absurd rfl h)
theorem lc_9 (hC : LC p s m meth c b L xs Ex Em Ax Am) (hL : L ≤ 3072) (hl : lv_has ls 4 (lw_lv b Ex Em i)) (hQ : QL Ex Em Ax Am s X M H locs) (hR : RR X M) (hi : i + 6 ≤ L) (kk : ∀ (X1 M1 : qs_D) (H1 : Heap) (locs1 : List Loc), QL Ex Em Ax Am s X1 M1 H1 locs1 → RR X1 M1 → W p l e room_1 s m #[Value.ref b] below meth c H1 locs1 58 1078 Q (F0 m 1349 ls [])) : W p l e room_1 s m #[Value.ref b] below meth c H locs 58 1078 Q (F0 m 475 ls []) := by
  obtain ⟨r, X1, M1, hX, hM, hR2⟩ := m_now hR (xs (i + 1))
  refine lw_al hC hl dL_law_475 rfl (q := 2) rfl ?_
  refine lw_arg 1 hC hL hl hQ (by omega) (by decide) dL_law_476 dL_law_477 dL_law_478 dL_law_479 dL_law_480 ?_
  refine lw_callX (As := [.int (xs (i + 1))]) (rest := []) hC hl hQ cfL_52 (by decide) rfl (kX4_now hX) rfl rfl (Nat.le_of_ble_eq_true rfl) dL_law_481 rfl (fun H1 locs1 hQ1 => ?_)
  refine W.eq (g2 := F0 m 484 ls [.int r]) rfl ?_
  refine lw_al hC hl dL_law_484 rfl (q := 1) rfl ?_
  refine lw_arg 1 hC hL hl hQ1 (by omega) (by decide) dL_law_485 dL_law_486 dL_law_487 dL_law_488 dL_law_489 ?_
  refine lw_callM (As := [.int (xs (i + 1))]) (rest := [.int r]) hC hl hQ1 cfL_55 (by decide) rfl (kX5_now hM) rfl rfl (Nat.le_of_ble_eq_true rfl) dL_law_490 rfl (fun H2 locs2 hQ2 => ?_)
  refine W.eq (g2 := F0 m 493 ls [.int r, .int r]) rfl ?_
  refine lv_icmp_eq (tgt := 1349) hC.1.1 hC.1.2.1 dL_law_493 (by decide) (fun _ => kk X1 M1 H2 locs2 hQ2 hR2) (fun h => absurd rfl h)
theorem lc_10 (hC : LC p s m meth c b L xs Ex Em Ax Am) (hL : L ≤ 3072) (hl : lv_has ls 4 (lw_lv b Ex Em i)) (hQ : QL Ex Em Ax Am s X M H locs) (hR : RR X M) (hi : i + 6 ≤ L) (kk : ∀ (X1 M1 : qs_D) (H1 : Heap) (locs1 : List Loc), QL Ex Em Ax Am s X1 M1 H1 locs1 → RR X1 M1 → W p l e room_1 s m #[Value.ref b] below meth c H1 locs1 58 1078 Q (F0 m 1349 ls [])) : W p l e room_1 s m #[Value.ref b] below meth c H locs 58 1078 Q (F0 m 498 ls []) := by
  obtain ⟨r, X1, M1, hX, hM, hR2⟩ := m_ahead hR (xs (i + 1)) (xs (i + 2)) (xs (i + 3))
  refine lw_al hC hl dL_law_498 rfl (q := 2) rfl ?_
  refine lw_arg 1 hC hL hl hQ (by omega) (by decide) dL_law_499 dL_law_500 dL_law_501 dL_law_502 dL_law_503 ?_
  refine lw_arg 2 hC hL hl hQ (by omega) (by decide) dL_law_504 dL_law_505 dL_law_506 dL_law_507 dL_law_508 ?_
  refine lw_arg 3 hC hL hl hQ (by omega) (by decide) dL_law_509 dL_law_510 dL_law_511 dL_law_512 dL_law_513 ?_
  refine lw_callX (As := [.int (xs (i + 1)), .int (xs (i + 2)), .int (xs (i + 3))]) (rest := []) hC hl hQ cfL_56 (by decide) rfl (kX4_ahead hX) rfl rfl (Nat.le_of_ble_eq_true rfl) dL_law_514 rfl (fun H1 locs1 hQ1 => ?_)
  refine W.eq (g2 := F0 m 517 ls [.int r]) rfl ?_
  refine lw_al hC hl dL_law_517 rfl (q := 1) rfl ?_
  refine lw_arg 1 hC hL hl hQ1 (by omega) (by decide) dL_law_518 dL_law_519 dL_law_520 dL_law_521 dL_law_522 ?_
  refine lw_arg 2 hC hL hl hQ1 (by omega) (by decide) dL_law_523 dL_law_524 dL_law_525 dL_law_526 dL_law_527 ?_
  refine lw_arg 3 hC hL hl hQ1 (by omega) (by decide) dL_law_528 dL_law_529 dL_law_530 dL_law_531 dL_law_532 ?_
  refine lw_callM (As := [.int (xs (i + 1)), .int (xs (i + 2)), .int (xs (i + 3))]) (rest := [.int r]) hC hl hQ1 cfL_59 (by decide) rfl (kX5_ahead hM) rfl rfl (Nat.le_of_ble_eq_true rfl) dL_law_533 rfl (fun H2 locs2 hQ2 => ?_)
  refine W.eq (g2 := F0 m 536 ls [.int r, .int r]) rfl ?_
  refine lv_icmp_eq (tgt := 1349) hC.1.1 hC.1.2.1 dL_law_536 (by decide) (fun _ => kk X1 M1 H2 locs2 hQ2 hR2) (fun h => absurd rfl h)
theorem lc_11 (hC : LC p s m meth c b L xs Ex Em Ax Am) (hL : L ≤ 3072) (hl : lv_has ls 4 (lw_lv b Ex Em i)) (hQ : QL Ex Em Ax Am s X M H locs) (hR : RR X M) (hi : i + 6 ≤ L) (kk : ∀ (X1 M1 : qs_D) (H1 : Heap) (locs1 : List Loc), QL Ex Em Ax Am s X1 M1 H1 locs1 → RR X1 M1 → W p l e room_1 s m #[Value.ref b] below meth c H1 locs1 58 1078 Q (F0 m 1349 ls [])) : W p l e room_1 s m #[Value.ref b] below meth c H locs 58 1078 Q (F0 m 541 ls []) := by
  obtain ⟨r, X1, M1, hX, hM, hR2⟩ := m_mood hR (xs (i + 1))
  refine lw_al hC hl dL_law_541 rfl (q := 2) rfl ?_
  refine lw_arg 1 hC hL hl hQ (by omega) (by decide) dL_law_542 dL_law_543 dL_law_544 dL_law_545 dL_law_546 ?_
  refine lw_callX (As := [.int (xs (i + 1))]) (rest := []) hC hl hQ cfL_60 (by decide) rfl (kX4_mood hX) rfl rfl (Nat.le_of_ble_eq_true rfl) dL_law_547 rfl (fun H1 locs1 hQ1 => ?_)
  refine W.eq (g2 := F0 m 550 ls [.int r]) rfl ?_
  refine lw_al hC hl dL_law_550 rfl (q := 1) rfl ?_
  refine lw_arg 1 hC hL hl hQ1 (by omega) (by decide) dL_law_551 dL_law_552 dL_law_553 dL_law_554 dL_law_555 ?_
  refine lw_callM (As := [.int (xs (i + 1))]) (rest := [.int r]) hC hl hQ1 cfL_63 (by decide) rfl (kX5_mood hM) rfl rfl (Nat.le_of_ble_eq_true rfl) dL_law_556 rfl (fun H2 locs2 hQ2 => ?_)
  refine W.eq (g2 := F0 m 559 ls [.int r, .int r]) rfl ?_
  refine lv_icmp_eq (tgt := 1349) hC.1.1 hC.1.2.1 dL_law_559 (by decide) (fun _ => kk X1 M1 H2 locs2 hQ2 hR2) (fun h => absurd rfl h)
theorem lc_12 (hC : LC p s m meth c b L xs Ex Em Ax Am) (hL : L ≤ 3072) (hl : lv_has ls 4 (lw_lv b Ex Em i)) (hQ : QL Ex Em Ax Am s X M H locs) (hR : RR X M) (hi : i + 6 ≤ L) (kk : ∀ (X1 M1 : qs_D) (H1 : Heap) (locs1 : List Loc), QL Ex Em Ax Am s X1 M1 H1 locs1 → RR X1 M1 → W p l e room_1 s m #[Value.ref b] below meth c H1 locs1 58 1078 Q (F0 m 1349 ls [])) : W p l e room_1 s m #[Value.ref b] below meth c H locs 58 1078 Q (F0 m 564 ls []) := by
  obtain ⟨r, X1, M1, hX, hM, hR2⟩ := m_splits hR (xs (i + 1))
  refine lw_al hC hl dL_law_564 rfl (q := 2) rfl ?_
  refine lw_arg 1 hC hL hl hQ (by omega) (by decide) dL_law_565 dL_law_566 dL_law_567 dL_law_568 dL_law_569 ?_
  refine lw_callX (As := [.int (xs (i + 1))]) (rest := []) hC hl hQ cfL_64 (by decide) rfl (kX4_splits hX) rfl rfl (Nat.le_of_ble_eq_true rfl) dL_law_570 rfl (fun H1 locs1 hQ1 => ?_)
  refine W.eq (g2 := F0 m 573 ls [.int r]) rfl ?_
  refine lw_al hC hl dL_law_573 rfl (q := 1) rfl ?_
  refine lw_arg 1 hC hL hl hQ1 (by omega) (by decide) dL_law_574 dL_law_575 dL_law_576 dL_law_577 dL_law_578 ?_
  refine lw_callM (As := [.int (xs (i + 1))]) (rest := [.int r]) hC hl hQ1 cfL_67 (by decide) rfl (kX5_splits hM) rfl rfl (Nat.le_of_ble_eq_true rfl) dL_law_579 rfl (fun H2 locs2 hQ2 => ?_)
  refine W.eq (g2 := F0 m 582 ls [.int r, .int r]) rfl ?_
  refine lv_icmp_eq (tgt := 1349) hC.1.1 hC.1.2.1 dL_law_582 (by decide) (fun _ => kk X1 M1 H2 locs2 hQ2 hR2) (fun h => absurd rfl h)
theorem lc_13 (hC : LC p s m meth c b L xs Ex Em Ax Am) (hL : L ≤ 3072) (hl : lv_has ls 4 (lw_lv b Ex Em i)) (hQ : QL Ex Em Ax Am s X M H locs) (hR : RR X M) (hi : i + 6 ≤ L) (kk : ∀ (X1 M1 : qs_D) (H1 : Heap) (locs1 : List Loc), QL Ex Em Ax Am s X1 M1 H1 locs1 → RR X1 M1 → W p l e room_1 s m #[Value.ref b] below meth c H1 locs1 58 1078 Q (F0 m 1349 ls [])) : W p l e room_1 s m #[Value.ref b] below meth c H locs 58 1078 Q (F0 m 587 ls []) := by
  obtain ⟨r, X1, M1, hX, hM, hR2⟩ := m_ready hR (xs (i + 1)) (xs (i + 2))
  refine lw_al hC hl dL_law_587 rfl (q := 2) rfl ?_
  refine lw_arg 1 hC hL hl hQ (by omega) (by decide) dL_law_588 dL_law_589 dL_law_590 dL_law_591 dL_law_592 ?_
  refine lw_arg 2 hC hL hl hQ (by omega) (by decide) dL_law_593 dL_law_594 dL_law_595 dL_law_596 dL_law_597 ?_
  refine lw_callX (As := [.int (xs (i + 1)), .int (xs (i + 2))]) (rest := []) hC hl hQ cfL_68 (by decide) rfl (kX4_ready hX) rfl rfl (Nat.le_of_ble_eq_true rfl) dL_law_598 rfl (fun H1 locs1 hQ1 => ?_)
  refine W.eq (g2 := F0 m 601 ls [.int r]) rfl ?_
  refine lw_al hC hl dL_law_601 rfl (q := 1) rfl ?_
  refine lw_arg 1 hC hL hl hQ1 (by omega) (by decide) dL_law_602 dL_law_603 dL_law_604 dL_law_605 dL_law_606 ?_
  refine lw_arg 2 hC hL hl hQ1 (by omega) (by decide) dL_law_607 dL_law_608 dL_law_609 dL_law_610 dL_law_611 ?_
  refine lw_callM (As := [.int (xs (i + 1)), .int (xs (i + 2))]) (rest := [.int r]) hC hl hQ1 cfL_71 (by decide) rfl (kX5_ready hM) rfl rfl (Nat.le_of_ble_eq_true rfl) dL_law_612 rfl (fun H2 locs2 hQ2 => ?_)
  refine W.eq (g2 := F0 m 615 ls [.int r, .int r]) rfl ?_
  refine lv_icmp_eq (tgt := 1349) hC.1.1 hC.1.2.1 dL_law_615 (by decide) (fun _ => kk X1 M1 H2 locs2 hQ2 hR2) (fun h => absurd rfl h)
theorem lc_14 (hC : LC p s m meth c b L xs Ex Em Ax Am) (hL : L ≤ 3072) (hl : lv_has ls 4 (lw_lv b Ex Em i)) (hQ : QL Ex Em Ax Am s X M H locs) (hR : RR X M) (hi : i + 6 ≤ L) (kk : ∀ (X1 M1 : qs_D) (H1 : Heap) (locs1 : List Loc), QL Ex Em Ax Am s X1 M1 H1 locs1 → RR X1 M1 → W p l e room_1 s m #[Value.ref b] below meth c H1 locs1 58 1078 Q (F0 m 1349 ls [])) : W p l e room_1 s m #[Value.ref b] below meth c H locs 58 1078 Q (F0 m 620 ls []) := by
  obtain ⟨r, X1, M1, hX, hM, hR2⟩ := m_peace hR (xs (i + 1))
  refine lw_al hC hl dL_law_620 rfl (q := 2) rfl ?_
  refine lw_arg 1 hC hL hl hQ (by omega) (by decide) dL_law_621 dL_law_622 dL_law_623 dL_law_624 dL_law_625 ?_
  refine lw_callX (As := [.int (xs (i + 1))]) (rest := []) hC hl hQ cfL_72 (by decide) rfl (kX4_peace hX) rfl rfl (Nat.le_of_ble_eq_true rfl) dL_law_626 rfl (fun H1 locs1 hQ1 => ?_)
  refine W.eq (g2 := F0 m 629 ls [.int r]) rfl ?_
  refine lw_al hC hl dL_law_629 rfl (q := 1) rfl ?_
  refine lw_arg 1 hC hL hl hQ1 (by omega) (by decide) dL_law_630 dL_law_631 dL_law_632 dL_law_633 dL_law_634 ?_
  refine lw_callM (As := [.int (xs (i + 1))]) (rest := [.int r]) hC hl hQ1 cfL_75 (by decide) rfl (kX5_peace hM) rfl rfl (Nat.le_of_ble_eq_true rfl) dL_law_635 rfl (fun H2 locs2 hQ2 => ?_)
  refine W.eq (g2 := F0 m 638 ls [.int r, .int r]) rfl ?_
  refine lv_icmp_eq (tgt := 1349) hC.1.1 hC.1.2.1 dL_law_638 (by decide) (fun _ => kk X1 M1 H2 locs2 hQ2 hR2) (fun h => absurd rfl h)
theorem lc_15 (hC : LC p s m meth c b L xs Ex Em Ax Am) (hL : L ≤ 3072) (hl : lv_has ls 4 (lw_lv b Ex Em i)) (hQ : QL Ex Em Ax Am s X M H locs) (hR : RR X M) (hi : i + 6 ≤ L) (kk : ∀ (X1 M1 : qs_D) (H1 : Heap) (locs1 : List Loc), QL Ex Em Ax Am s X1 M1 H1 locs1 → RR X1 M1 → W p l e room_1 s m #[Value.ref b] below meth c H1 locs1 58 1078 Q (F0 m 1349 ls [])) : W p l e room_1 s m #[Value.ref b] below meth c H locs 58 1078 Q (F0 m 643 ls []) := by
  obtain ⟨r, X1, M1, hX, hM, hR2⟩ := m_deedFor hR (xs (i + 1)) (xs (i + 2))
  refine lw_al hC hl dL_law_643 rfl (q := 2) rfl ?_
  refine lw_arg 1 hC hL hl hQ (by omega) (by decide) dL_law_644 dL_law_645 dL_law_646 dL_law_647 dL_law_648 ?_
  refine lw_arg 2 hC hL hl hQ (by omega) (by decide) dL_law_649 dL_law_650 dL_law_651 dL_law_652 dL_law_653 ?_
  refine lw_callX (As := [.int (xs (i + 1)), .int (xs (i + 2))]) (rest := []) hC hl hQ cfL_76 (by decide) rfl (kX4_deedFor hX) rfl rfl (Nat.le_of_ble_eq_true rfl) dL_law_654 rfl (fun H1 locs1 hQ1 => ?_)
  refine W.eq (g2 := F0 m 657 ls [.int r]) rfl ?_
  refine lw_al hC hl dL_law_657 rfl (q := 1) rfl ?_
  refine lw_arg 1 hC hL hl hQ1 (by omega) (by decide) dL_law_658 dL_law_659 dL_law_660 dL_law_661 dL_law_662 ?_
  refine lw_arg 2 hC hL hl hQ1 (by omega) (by decide) dL_law_663 dL_law_664 dL_law_665 dL_law_666 dL_law_667 ?_
  refine lw_callM (As := [.int (xs (i + 1)), .int (xs (i + 2))]) (rest := [.int r]) hC hl hQ1 cfL_79 (by decide) rfl (kX5_deedFor hM) rfl rfl (Nat.le_of_ble_eq_true rfl) dL_law_668 rfl (fun H2 locs2 hQ2 => ?_)
  refine W.eq (g2 := F0 m 671 ls [.int r, .int r]) rfl ?_
  refine lv_icmp_eq (tgt := 1349) hC.1.1 hC.1.2.1 dL_law_671 (by decide) (fun _ => kk X1 M1 H2 locs2 hQ2 hR2) (fun h => absurd rfl h)
theorem lc_16 (hC : LC p s m meth c b L xs Ex Em Ax Am) (hL : L ≤ 3072) (hl : lv_has ls 4 (lw_lv b Ex Em i)) (hQ : QL Ex Em Ax Am s X M H locs) (hR : RR X M) (hi : i + 6 ≤ L) (kk : ∀ (X1 M1 : qs_D) (H1 : Heap) (locs1 : List Loc), QL Ex Em Ax Am s X1 M1 H1 locs1 → RR X1 M1 → W p l e room_1 s m #[Value.ref b] below meth c H1 locs1 58 1078 Q (F0 m 1349 ls [])) : W p l e room_1 s m #[Value.ref b] below meth c H locs 58 1078 Q (F0 m 676 ls []) := by
  obtain ⟨r, X1, M1, hX, hM, hR2⟩ := m_grudgeFor hR (xs (i + 1)) (xs (i + 2))
  refine lw_al hC hl dL_law_676 rfl (q := 2) rfl ?_
  refine lw_arg 1 hC hL hl hQ (by omega) (by decide) dL_law_677 dL_law_678 dL_law_679 dL_law_680 dL_law_681 ?_
  refine lw_arg 2 hC hL hl hQ (by omega) (by decide) dL_law_682 dL_law_683 dL_law_684 dL_law_685 dL_law_686 ?_
  refine lw_callX (As := [.int (xs (i + 1)), .int (xs (i + 2))]) (rest := []) hC hl hQ cfL_80 (by decide) rfl (kX4_grudgeFor hX) rfl rfl (Nat.le_of_ble_eq_true rfl) dL_law_687 rfl (fun H1 locs1 hQ1 => ?_)
  refine W.eq (g2 := F0 m 690 ls [.int r]) rfl ?_
  refine lw_al hC hl dL_law_690 rfl (q := 1) rfl ?_
  refine lw_arg 1 hC hL hl hQ1 (by omega) (by decide) dL_law_691 dL_law_692 dL_law_693 dL_law_694 dL_law_695 ?_
  refine lw_arg 2 hC hL hl hQ1 (by omega) (by decide) dL_law_696 dL_law_697 dL_law_698 dL_law_699 dL_law_700 ?_
  refine lw_callM (As := [.int (xs (i + 1)), .int (xs (i + 2))]) (rest := [.int r]) hC hl hQ1 cfL_83 (by decide) rfl (kX5_grudgeFor hM) rfl rfl (Nat.le_of_ble_eq_true rfl) dL_law_701 rfl (fun H2 locs2 hQ2 => ?_)
  refine W.eq (g2 := F0 m 704 ls [.int r, .int r]) rfl ?_
  refine lv_icmp_eq (tgt := 1349) hC.1.1 hC.1.2.1 dL_law_704 (by decide) (fun _ => kk X1 M1 H2 locs2 hQ2 hR2) (fun h => absurd rfl h)
theorem lc_17 (hC : LC p s m meth c b L xs Ex Em Ax Am) (hL : L ≤ 3072) (hl : lv_has ls 4 (lw_lv b Ex Em i)) (hQ : QL Ex Em Ax Am s X M H locs) (hR : RR X M) (hi : i + 6 ≤ L) (kk : ∀ (X1 M1 : qs_D) (H1 : Heap) (locs1 : List Loc), QL Ex Em Ax Am s X1 M1 H1 locs1 → RR X1 M1 → W p l e room_1 s m #[Value.ref b] below meth c H1 locs1 58 1078 Q (F0 m 1349 ls [])) : W p l e room_1 s m #[Value.ref b] below meth c H locs 58 1078 Q (F0 m 709 ls []) := by
  obtain ⟨r, X1, M1, hX, hM, hR2⟩ := m_kindFor hR (xs (i + 1)) (xs (i + 2))
  refine lw_al hC hl dL_law_709 rfl (q := 2) rfl ?_
  refine lw_arg 1 hC hL hl hQ (by omega) (by decide) dL_law_710 dL_law_711 dL_law_712 dL_law_713 dL_law_714 ?_
  refine lw_arg 2 hC hL hl hQ (by omega) (by decide) dL_law_715 dL_law_716 dL_law_717 dL_law_718 dL_law_719 ?_
  refine lw_callX (As := [.int (xs (i + 1)), .int (xs (i + 2))]) (rest := []) hC hl hQ cfL_84 (by decide) rfl (kX4_kindFor hX) rfl rfl (Nat.le_of_ble_eq_true rfl) dL_law_720 rfl (fun H1 locs1 hQ1 => ?_)
  refine W.eq (g2 := F0 m 723 ls [.int r]) rfl ?_
  refine lw_al hC hl dL_law_723 rfl (q := 1) rfl ?_
  refine lw_arg 1 hC hL hl hQ1 (by omega) (by decide) dL_law_724 dL_law_725 dL_law_726 dL_law_727 dL_law_728 ?_
  refine lw_arg 2 hC hL hl hQ1 (by omega) (by decide) dL_law_729 dL_law_730 dL_law_731 dL_law_732 dL_law_733 ?_
  refine lw_callM (As := [.int (xs (i + 1)), .int (xs (i + 2))]) (rest := [.int r]) hC hl hQ1 cfL_87 (by decide) rfl (kX5_kindFor hM) rfl rfl (Nat.le_of_ble_eq_true rfl) dL_law_734 rfl (fun H2 locs2 hQ2 => ?_)
  refine W.eq (g2 := F0 m 737 ls [.int r, .int r]) rfl ?_
  refine lv_icmp_eq (tgt := 1349) hC.1.1 hC.1.2.1 dL_law_737 (by decide) (fun _ => kk X1 M1 H2 locs2 hQ2 hR2) (fun h => absurd rfl h)
theorem lc_18 (hC : LC p s m meth c b L xs Ex Em Ax Am) (hL : L ≤ 3072) (hl : lv_has ls 4 (lw_lv b Ex Em i)) (hQ : QL Ex Em Ax Am s X M H locs) (hR : RR X M) (hi : i + 6 ≤ L) (kk : ∀ (X1 M1 : qs_D) (H1 : Heap) (locs1 : List Loc), QL Ex Em Ax Am s X1 M1 H1 locs1 → RR X1 M1 → W p l e room_1 s m #[Value.ref b] below meth c H1 locs1 58 1078 Q (F0 m 1349 ls [])) : W p l e room_1 s m #[Value.ref b] below meth c H locs 58 1078 Q (F0 m 742 ls []) := by
  obtain ⟨r, X1, M1, hX, hM, hR2⟩ := m_best hR (xs (i + 1))
  refine lw_al hC hl dL_law_742 rfl (q := 2) rfl ?_
  refine lw_arg 1 hC hL hl hQ (by omega) (by decide) dL_law_743 dL_law_744 dL_law_745 dL_law_746 dL_law_747 ?_
  refine lw_callX (As := [.int (xs (i + 1))]) (rest := []) hC hl hQ cfL_88 (by decide) rfl (kX4_best hX) rfl rfl (Nat.le_of_ble_eq_true rfl) dL_law_748 rfl (fun H1 locs1 hQ1 => ?_)
  refine W.eq (g2 := F0 m 751 ls [.int r]) rfl ?_
  refine lw_al hC hl dL_law_751 rfl (q := 1) rfl ?_
  refine lw_arg 1 hC hL hl hQ1 (by omega) (by decide) dL_law_752 dL_law_753 dL_law_754 dL_law_755 dL_law_756 ?_
  refine lw_callM (As := [.int (xs (i + 1))]) (rest := [.int r]) hC hl hQ1 cfL_91 (by decide) rfl (kX5_best hM) rfl rfl (Nat.le_of_ble_eq_true rfl) dL_law_757 rfl (fun H2 locs2 hQ2 => ?_)
  refine W.eq (g2 := F0 m 760 ls [.int r, .int r]) rfl ?_
  refine lv_icmp_eq (tgt := 1349) hC.1.1 hC.1.2.1 dL_law_760 (by decide) (fun _ => kk X1 M1 H2 locs2 hQ2 hR2) (fun h => absurd rfl h)
theorem lc_19 (hC : LC p s m meth c b L xs Ex Em Ax Am) (hL : L ≤ 3072) (hl : lv_has ls 4 (lw_lv b Ex Em i)) (hQ : QL Ex Em Ax Am s X M H locs) (hR : RR X M) (hi : i + 6 ≤ L) (kk : ∀ (X1 M1 : qs_D) (H1 : Heap) (locs1 : List Loc), QL Ex Em Ax Am s X1 M1 H1 locs1 → RR X1 M1 → W p l e room_1 s m #[Value.ref b] below meth c H1 locs1 58 1078 Q (F0 m 1349 ls [])) : W p l e room_1 s m #[Value.ref b] below meth c H locs 58 1078 Q (F0 m 765 ls []) := by
  obtain ⟨r, X1, M1, hX, hM, hR2⟩ := m_takeOff hR (xs (i + 1))
  refine lw_al hC hl dL_law_765 rfl (q := 2) rfl ?_
  refine lw_arg 1 hC hL hl hQ (by omega) (by decide) dL_law_766 dL_law_767 dL_law_768 dL_law_769 dL_law_770 ?_
  refine lw_callX (As := [.int (xs (i + 1))]) (rest := []) hC hl hQ cfL_92 (by decide) rfl (kX4_takeOff hX) rfl rfl (Nat.le_of_ble_eq_true rfl) dL_law_771 rfl (fun H1 locs1 hQ1 => ?_)
  refine W.eq (g2 := F0 m 774 ls [.int r]) rfl ?_
  refine lw_al hC hl dL_law_774 rfl (q := 1) rfl ?_
  refine lw_arg 1 hC hL hl hQ1 (by omega) (by decide) dL_law_775 dL_law_776 dL_law_777 dL_law_778 dL_law_779 ?_
  refine lw_callM (As := [.int (xs (i + 1))]) (rest := [.int r]) hC hl hQ1 cfL_95 (by decide) rfl (kX5_takeOff hM) rfl rfl (Nat.le_of_ble_eq_true rfl) dL_law_780 rfl (fun H2 locs2 hQ2 => ?_)
  refine W.eq (g2 := F0 m 783 ls [.int r, .int r]) rfl ?_
  refine lv_icmp_eq (tgt := 1349) hC.1.1 hC.1.2.1 dL_law_783 (by decide) (fun _ => kk X1 M1 H2 locs2 hQ2 hR2) (fun h => absurd rfl h)
theorem lc_20 (hC : LC p s m meth c b L xs Ex Em Ax Am) (hL : L ≤ 3072) (hl : lv_has ls 4 (lw_lv b Ex Em i)) (hQ : QL Ex Em Ax Am s X M H locs) (hR : RR X M) (hi : i + 6 ≤ L) (kk : ∀ (X1 M1 : qs_D) (H1 : Heap) (locs1 : List Loc), QL Ex Em Ax Am s X1 M1 H1 locs1 → RR X1 M1 → W p l e room_1 s m #[Value.ref b] below meth c H1 locs1 58 1078 Q (F0 m 1349 ls [])) : W p l e room_1 s m #[Value.ref b] below meth c H locs 58 1078 Q (F0 m 788 ls []) := by
  obtain ⟨r, X1, M1, hX, hM, hR2⟩ := m_fits hR (xs (i + 1)) (xs (i + 2))
  refine lw_al hC hl dL_law_788 rfl (q := 2) rfl ?_
  refine lw_arg 1 hC hL hl hQ (by omega) (by decide) dL_law_789 dL_law_790 dL_law_791 dL_law_792 dL_law_793 ?_
  refine lw_arg 2 hC hL hl hQ (by omega) (by decide) dL_law_794 dL_law_795 dL_law_796 dL_law_797 dL_law_798 ?_
  refine lw_callX (As := [.int (xs (i + 1)), .int (xs (i + 2))]) (rest := []) hC hl hQ cfL_96 (by decide) rfl (kX4_fits hX) rfl rfl (Nat.le_of_ble_eq_true rfl) dL_law_799 rfl (fun H1 locs1 hQ1 => ?_)
  refine W.eq (g2 := F0 m 802 ls [.int r]) rfl ?_
  refine lw_al hC hl dL_law_802 rfl (q := 1) rfl ?_
  refine lw_arg 1 hC hL hl hQ1 (by omega) (by decide) dL_law_803 dL_law_804 dL_law_805 dL_law_806 dL_law_807 ?_
  refine lw_arg 2 hC hL hl hQ1 (by omega) (by decide) dL_law_808 dL_law_809 dL_law_810 dL_law_811 dL_law_812 ?_
  refine lw_callM (As := [.int (xs (i + 1)), .int (xs (i + 2))]) (rest := [.int r]) hC hl hQ1 cfL_99 (by decide) rfl (kX5_fits hM) rfl rfl (Nat.le_of_ble_eq_true rfl) dL_law_813 rfl (fun H2 locs2 hQ2 => ?_)
  refine W.eq (g2 := F0 m 816 ls [.int r, .int r]) rfl ?_
  refine lv_icmp_eq (tgt := 1349) hC.1.1 hC.1.2.1 dL_law_816 (by decide) (fun _ => kk X1 M1 H2 locs2 hQ2 hR2) (fun h => absurd rfl h)
theorem lc_21 (hC : LC p s m meth c b L xs Ex Em Ax Am) (hL : L ≤ 3072) (hl : lv_has ls 4 (lw_lv b Ex Em i)) (hQ : QL Ex Em Ax Am s X M H locs) (hR : RR X M) (hi : i + 6 ≤ L) (kk : ∀ (X1 M1 : qs_D) (H1 : Heap) (locs1 : List Loc), QL Ex Em Ax Am s X1 M1 H1 locs1 → RR X1 M1 → W p l e room_1 s m #[Value.ref b] below meth c H1 locs1 58 1078 Q (F0 m 1349 ls [])) : W p l e room_1 s m #[Value.ref b] below meth c H locs 58 1078 Q (F0 m 821 ls []) := by
  obtain ⟨r, X1, M1, hX, hM, hR2⟩ := m_kinds hR (xs (i + 1)) (xs (i + 2))
  refine lw_al hC hl dL_law_821 rfl (q := 2) rfl ?_
  refine lw_arg 1 hC hL hl hQ (by omega) (by decide) dL_law_822 dL_law_823 dL_law_824 dL_law_825 dL_law_826 ?_
  refine lw_arg 2 hC hL hl hQ (by omega) (by decide) dL_law_827 dL_law_828 dL_law_829 dL_law_830 dL_law_831 ?_
  refine lw_callX (As := [.int (xs (i + 1)), .int (xs (i + 2))]) (rest := []) hC hl hQ cfL_100 (by decide) rfl (kX4_kinds hX) rfl rfl (Nat.le_of_ble_eq_true rfl) dL_law_832 rfl (fun H1 locs1 hQ1 => ?_)
  refine W.eq (g2 := F0 m 835 ls [.int r]) rfl ?_
  refine lw_al hC hl dL_law_835 rfl (q := 1) rfl ?_
  refine lw_arg 1 hC hL hl hQ1 (by omega) (by decide) dL_law_836 dL_law_837 dL_law_838 dL_law_839 dL_law_840 ?_
  refine lw_arg 2 hC hL hl hQ1 (by omega) (by decide) dL_law_841 dL_law_842 dL_law_843 dL_law_844 dL_law_845 ?_
  refine lw_callM (As := [.int (xs (i + 1)), .int (xs (i + 2))]) (rest := [.int r]) hC hl hQ1 cfL_103 (by decide) rfl (kX5_kinds hM) rfl rfl (Nat.le_of_ble_eq_true rfl) dL_law_846 rfl (fun H2 locs2 hQ2 => ?_)
  refine W.eq (g2 := F0 m 849 ls [.int r, .int r]) rfl ?_
  refine lv_icmp_eq (tgt := 1349) hC.1.1 hC.1.2.1 dL_law_849 (by decide) (fun _ => kk X1 M1 H2 locs2 hQ2 hR2) (fun h => absurd rfl h)
theorem lc_22 (hC : LC p s m meth c b L xs Ex Em Ax Am) (hL : L ≤ 3072) (hl : lv_has ls 4 (lw_lv b Ex Em i)) (hQ : QL Ex Em Ax Am s X M H locs) (hR : RR X M) (hi : i + 6 ≤ L) (kk : ∀ (X1 M1 : qs_D) (H1 : Heap) (locs1 : List Loc), QL Ex Em Ax Am s X1 M1 H1 locs1 → RR X1 M1 → W p l e room_1 s m #[Value.ref b] below meth c H1 locs1 58 1078 Q (F0 m 1349 ls [])) : W p l e room_1 s m #[Value.ref b] below meth c H locs 58 1078 Q (F0 m 854 ls []) := by
  obtain ⟨r, X1, M1, hX, hM, hR2⟩ := m_service hR (xs (i + 1))
  refine lw_al hC hl dL_law_854 rfl (q := 2) rfl ?_
  refine lw_arg 1 hC hL hl hQ (by omega) (by decide) dL_law_855 dL_law_856 dL_law_857 dL_law_858 dL_law_859 ?_
  refine lw_callX (As := [.int (xs (i + 1))]) (rest := []) hC hl hQ cfL_104 (by decide) rfl (kX4_service hX) rfl rfl (Nat.le_of_ble_eq_true rfl) dL_law_860 rfl (fun H1 locs1 hQ1 => ?_)
  refine W.eq (g2 := F0 m 863 ls [.int r]) rfl ?_
  refine lw_al hC hl dL_law_863 rfl (q := 1) rfl ?_
  refine lw_arg 1 hC hL hl hQ1 (by omega) (by decide) dL_law_864 dL_law_865 dL_law_866 dL_law_867 dL_law_868 ?_
  refine lw_callM (As := [.int (xs (i + 1))]) (rest := [.int r]) hC hl hQ1 cfL_107 (by decide) rfl (kX5_service hM) rfl rfl (Nat.le_of_ble_eq_true rfl) dL_law_869 rfl (fun H2 locs2 hQ2 => ?_)
  refine W.eq (g2 := F0 m 872 ls [.int r, .int r]) rfl ?_
  refine lv_icmp_eq (tgt := 1349) hC.1.1 hC.1.2.1 dL_law_872 (by decide) (fun _ => kk X1 M1 H2 locs2 hQ2 hR2) (fun h => absurd rfl h)
theorem lc_23 (hC : LC p s m meth c b L xs Ex Em Ax Am) (hL : L ≤ 3072) (hl : lv_has ls 4 (lw_lv b Ex Em i)) (hQ : QL Ex Em Ax Am s X M H locs) (hR : RR X M) (hi : i + 6 ≤ L) (kk : ∀ (X1 M1 : qs_D) (H1 : Heap) (locs1 : List Loc), QL Ex Em Ax Am s X1 M1 H1 locs1 → RR X1 M1 → W p l e room_1 s m #[Value.ref b] below meth c H1 locs1 58 1078 Q (F0 m 1349 ls [])) : W p l e room_1 s m #[Value.ref b] below meth c H locs 58 1078 Q (F0 m 877 ls []) := by
  obtain ⟨r, X1, M1, hX, hM, hR2⟩ := m_odds hR (xs (i + 1)) (xs (i + 2)) (xs (i + 3))
  refine lw_al hC hl dL_law_877 rfl (q := 2) rfl ?_
  refine lw_arg 1 hC hL hl hQ (by omega) (by decide) dL_law_878 dL_law_879 dL_law_880 dL_law_881 dL_law_882 ?_
  refine lw_arg 2 hC hL hl hQ (by omega) (by decide) dL_law_883 dL_law_884 dL_law_885 dL_law_886 dL_law_887 ?_
  refine lw_arg 3 hC hL hl hQ (by omega) (by decide) dL_law_888 dL_law_889 dL_law_890 dL_law_891 dL_law_892 ?_
  refine lw_callX (As := [.int (xs (i + 1)), .int (xs (i + 2)), .int (xs (i + 3))]) (rest := []) hC hl hQ cfL_108 (by decide) rfl (kX4_odds hX) rfl rfl (Nat.le_of_ble_eq_true rfl) dL_law_893 rfl (fun H1 locs1 hQ1 => ?_)
  refine W.eq (g2 := F0 m 896 ls [.long r]) rfl ?_
  refine lw_al hC hl dL_law_896 rfl (q := 1) rfl ?_
  refine lw_arg 1 hC hL hl hQ1 (by omega) (by decide) dL_law_897 dL_law_898 dL_law_899 dL_law_900 dL_law_901 ?_
  refine lw_arg 2 hC hL hl hQ1 (by omega) (by decide) dL_law_902 dL_law_903 dL_law_904 dL_law_905 dL_law_906 ?_
  refine lw_arg 3 hC hL hl hQ1 (by omega) (by decide) dL_law_907 dL_law_908 dL_law_909 dL_law_910 dL_law_911 ?_
  refine lw_callM (As := [.int (xs (i + 1)), .int (xs (i + 2)), .int (xs (i + 3))]) (rest := [.long r]) hC hl hQ1 cfL_112 (by decide) rfl (kX5_odds hM) rfl rfl (Nat.le_of_ble_eq_true rfl) dL_law_912 rfl (fun H2 locs2 hQ2 => ?_)
  refine W.eq (g2 := F0 m 915 ls [.long r, .long r]) rfl ?_
  refine W.lcmp hC.1.1 hC.1.2.1 dL_law_915 ?_
  refine lv_if_eq (tgt := 1349) hC.1.1 hC.1.2.1 dL_law_916 (by decide) (fun _ => kk X1 M1 H2 locs2 hQ2 hR2) (fun h => absurd (lg_cmp_self r) h)
theorem lc_24 (hC : LC p s m meth c b L xs Ex Em Ax Am) (hL : L ≤ 3072) (hl : lv_has ls 4 (lw_lv b Ex Em i)) (hQ : QL Ex Em Ax Am s X M H locs) (hR : RR X M) (hi : i + 6 ≤ L) (kk : ∀ (X1 M1 : qs_D) (H1 : Heap) (locs1 : List Loc), QL Ex Em Ax Am s X1 M1 H1 locs1 → RR X1 M1 → W p l e room_1 s m #[Value.ref b] below meth c H1 locs1 58 1078 Q (F0 m 1349 ls [])) : W p l e room_1 s m #[Value.ref b] below meth c H locs 58 1078 Q (F0 m 921 ls []) := by
  obtain ⟨r, X1, M1, hX, hM, hR2⟩ := m_seed hR (xs (i + 1))
  refine lw_al hC hl dL_law_921 rfl (q := 2) rfl ?_
  refine lw_arg 1 hC hL hl hQ (by omega) (by decide) dL_law_922 dL_law_923 dL_law_924 dL_law_925 dL_law_926 ?_
  refine lw_callX (As := [.int (xs (i + 1))]) (rest := []) hC hl hQ cfL_113 (by decide) rfl (kX4_seed hX) rfl rfl (Nat.le_of_ble_eq_true rfl) dL_law_927 rfl (fun H1 locs1 hQ1 => ?_)
  refine W.eq (g2 := F0 m 930 ls [.int r]) rfl ?_
  refine lw_al hC hl dL_law_930 rfl (q := 1) rfl ?_
  refine lw_arg 1 hC hL hl hQ1 (by omega) (by decide) dL_law_931 dL_law_932 dL_law_933 dL_law_934 dL_law_935 ?_
  refine lw_callM (As := [.int (xs (i + 1))]) (rest := [.int r]) hC hl hQ1 cfL_116 (by decide) rfl (kX5_seed hM) rfl rfl (Nat.le_of_ble_eq_true rfl) dL_law_936 rfl (fun H2 locs2 hQ2 => ?_)
  refine W.eq (g2 := F0 m 939 ls [.int r, .int r]) rfl ?_
  refine lv_icmp_eq (tgt := 1349) hC.1.1 hC.1.2.1 dL_law_939 (by decide) (fun _ => kk X1 M1 H2 locs2 hQ2 hR2) (fun h => absurd rfl h)
theorem lc_25 (hC : LC p s m meth c b L xs Ex Em Ax Am) (hL : L ≤ 3072) (hl : lv_has ls 4 (lw_lv b Ex Em i)) (hQ : QL Ex Em Ax Am s X M H locs) (hR : RR X M) (hi : i + 6 ≤ L) (kk : ∀ (X1 M1 : qs_D) (H1 : Heap) (locs1 : List Loc), QL Ex Em Ax Am s X1 M1 H1 locs1 → RR X1 M1 → W p l e room_1 s m #[Value.ref b] below meth c H1 locs1 58 1078 Q (F0 m 1349 ls [])) : W p l e room_1 s m #[Value.ref b] below meth c H locs 58 1078 Q (F0 m 944 ls []) := by
  obtain ⟨r, X1, M1, hX, hM, hR2⟩ := m_feed hR (xs (i + 1)) (xs (i + 2))
  refine lw_al hC hl dL_law_944 rfl (q := 2) rfl ?_
  refine lw_arg 1 hC hL hl hQ (by omega) (by decide) dL_law_945 dL_law_946 dL_law_947 dL_law_948 dL_law_949 ?_
  refine lw_arg 2 hC hL hl hQ (by omega) (by decide) dL_law_950 dL_law_951 dL_law_952 dL_law_953 dL_law_954 ?_
  refine lw_callX (As := [.int (xs (i + 1)), .int (xs (i + 2))]) (rest := []) hC hl hQ cfL_117 (by decide) rfl (kX4_feed hX) rfl rfl (Nat.le_of_ble_eq_true rfl) dL_law_955 rfl (fun H1 locs1 hQ1 => ?_)
  refine W.eq (g2 := F0 m 958 ls [.int r]) rfl ?_
  refine lw_al hC hl dL_law_958 rfl (q := 1) rfl ?_
  refine lw_arg 1 hC hL hl hQ1 (by omega) (by decide) dL_law_959 dL_law_960 dL_law_961 dL_law_962 dL_law_963 ?_
  refine lw_arg 2 hC hL hl hQ1 (by omega) (by decide) dL_law_964 dL_law_965 dL_law_966 dL_law_967 dL_law_968 ?_
  refine lw_callM (As := [.int (xs (i + 1)), .int (xs (i + 2))]) (rest := [.int r]) hC hl hQ1 cfL_120 (by decide) rfl (kX5_feed hM) rfl rfl (Nat.le_of_ble_eq_true rfl) dL_law_969 rfl (fun H2 locs2 hQ2 => ?_)
  refine W.eq (g2 := F0 m 972 ls [.int r, .int r]) rfl ?_
  refine lv_icmp_eq (tgt := 1349) hC.1.1 hC.1.2.1 dL_law_972 (by decide) (fun _ => kk X1 M1 H2 locs2 hQ2 hR2) (fun h => absurd rfl h)
theorem lc_26 (hC : LC p s m meth c b L xs Ex Em Ax Am) (hL : L ≤ 3072) (hl : lv_has ls 4 (lw_lv b Ex Em i)) (hQ : QL Ex Em Ax Am s X M H locs) (hR : RR X M) (hi : i + 6 ≤ L) (kk : ∀ (X1 M1 : qs_D) (H1 : Heap) (locs1 : List Loc), QL Ex Em Ax Am s X1 M1 H1 locs1 → RR X1 M1 → W p l e room_1 s m #[Value.ref b] below meth c H1 locs1 58 1078 Q (F0 m 1349 ls [])) : W p l e room_1 s m #[Value.ref b] below meth c H locs 58 1078 Q (F0 m 977 ls []) := by
  obtain ⟨r, X1, M1, hX, hM, hR2⟩ := m_wipe hR 
  refine lw_al hC hl dL_law_977 rfl (q := 2) rfl ?_
  refine lw_callX (As := []) (rest := []) hC hl hQ cfL_121 (by decide) rfl (kX4_wipe hX) rfl rfl (Nat.le_of_ble_eq_true rfl) dL_law_978 rfl (fun H1 locs1 hQ1 => ?_)
  refine W.eq (g2 := F0 m 981 ls [.int r]) rfl ?_
  refine lw_al hC hl dL_law_981 rfl (q := 1) rfl ?_
  refine lw_callM (As := []) (rest := [.int r]) hC hl hQ1 cfL_125 (by decide) rfl (kX5_wipe hM) rfl rfl (Nat.le_of_ble_eq_true rfl) dL_law_982 rfl (fun H2 locs2 hQ2 => ?_)
  refine W.eq (g2 := F0 m 985 ls [.int r, .int r]) rfl ?_
  refine lv_icmp_eq (tgt := 1349) hC.1.1 hC.1.2.1 dL_law_985 (by decide) (fun _ => kk X1 M1 H2 locs2 hQ2 hR2) (fun h => absurd rfl h)
theorem lc_27 (hC : LC p s m meth c b L xs Ex Em Ax Am) (hL : L ≤ 3072) (hl : lv_has ls 4 (lw_lv b Ex Em i)) (hQ : QL Ex Em Ax Am s X M H locs) (hR : RR X M) (hi : i + 6 ≤ L) (kk : ∀ (X1 M1 : qs_D) (H1 : Heap) (locs1 : List Loc), QL Ex Em Ax Am s X1 M1 H1 locs1 → RR X1 M1 → W p l e room_1 s m #[Value.ref b] below meth c H1 locs1 58 1078 Q (F0 m 1349 ls [])) : W p l e room_1 s m #[Value.ref b] below meth c H locs 58 1078 Q (F0 m 990 ls []) := by
  obtain ⟨r, X1, M1, hX, hM, hR2⟩ := m_text hR 
  refine lw_al hC hl dL_law_990 rfl (q := 2) rfl ?_
  refine lw_callX (As := []) (rest := []) hC hl hQ cfL_126 (by decide) rfl (kX4_text hX) rfl rfl (Nat.le_of_ble_eq_true rfl) dL_law_991 rfl (fun H1 locs1 hQ1 => ?_)
  refine W.eq (g2 := F0 m 994 ls [.int r]) rfl ?_
  refine lw_al hC hl dL_law_994 rfl (q := 1) rfl ?_
  refine lw_callM (As := []) (rest := [.int r]) hC hl hQ1 cfL_129 (by decide) rfl (kX5_text hM) rfl rfl (Nat.le_of_ble_eq_true rfl) dL_law_995 rfl (fun H2 locs2 hQ2 => ?_)
  refine W.eq (g2 := F0 m 998 ls [.int r, .int r]) rfl ?_
  refine lv_icmp_eq (tgt := 1349) hC.1.1 hC.1.2.1 dL_law_998 (by decide) (fun _ => kk X1 M1 H2 locs2 hQ2 hR2) (fun h => absurd rfl h)
theorem lc_28 (hC : LC p s m meth c b L xs Ex Em Ax Am) (hL : L ≤ 3072) (hl : lv_has ls 4 (lw_lv b Ex Em i)) (hQ : QL Ex Em Ax Am s X M H locs) (hR : RR X M) (hi : i + 6 ≤ L) (kk : ∀ (X1 M1 : qs_D) (H1 : Heap) (locs1 : List Loc), QL Ex Em Ax Am s X1 M1 H1 locs1 → RR X1 M1 → W p l e room_1 s m #[Value.ref b] below meth c H1 locs1 58 1078 Q (F0 m 1349 ls [])) : W p l e room_1 s m #[Value.ref b] below meth c H locs 58 1078 Q (F0 m 1003 ls []) := by
  obtain ⟨r, X1, M1, hX, hM, hR2⟩ := m_hold hR (xs (i + 1)) (xs (i + 2))
  refine lw_al hC hl dL_law_1003 rfl (q := 2) rfl ?_
  refine lw_arg 1 hC hL hl hQ (by omega) (by decide) dL_law_1004 dL_law_1005 dL_law_1006 dL_law_1007 dL_law_1008 ?_
  refine lw_arg 2 hC hL hl hQ (by omega) (by decide) dL_law_1009 dL_law_1010 dL_law_1011 dL_law_1012 dL_law_1013 ?_
  refine lw_callX (As := [.int (xs (i + 1)), .int (xs (i + 2))]) (rest := []) hC hl hQ cfL_130 (by decide) rfl (kX4_hold hX) rfl rfl (Nat.le_of_ble_eq_true rfl) dL_law_1014 rfl (fun H1 locs1 hQ1 => ?_)
  refine W.eq (g2 := F0 m 1017 ls [.int r]) rfl ?_
  refine lw_al hC hl dL_law_1017 rfl (q := 1) rfl ?_
  refine lw_arg 1 hC hL hl hQ1 (by omega) (by decide) dL_law_1018 dL_law_1019 dL_law_1020 dL_law_1021 dL_law_1022 ?_
  refine lw_arg 2 hC hL hl hQ1 (by omega) (by decide) dL_law_1023 dL_law_1024 dL_law_1025 dL_law_1026 dL_law_1027 ?_
  refine lw_callM (As := [.int (xs (i + 1)), .int (xs (i + 2))]) (rest := [.int r]) hC hl hQ1 cfL_133 (by decide) rfl (kX5_hold hM) rfl rfl (Nat.le_of_ble_eq_true rfl) dL_law_1028 rfl (fun H2 locs2 hQ2 => ?_)
  refine W.eq (g2 := F0 m 1031 ls [.int r, .int r]) rfl ?_
  refine lv_icmp_eq (tgt := 1349) hC.1.1 hC.1.2.1 dL_law_1031 (by decide) (fun _ => kk X1 M1 H2 locs2 hQ2 hR2) (fun h => absurd rfl h)
theorem lc_29 (hC : LC p s m meth c b L xs Ex Em Ax Am) (hL : L ≤ 3072) (hl : lv_has ls 4 (lw_lv b Ex Em i)) (hQ : QL Ex Em Ax Am s X M H locs) (hR : RR X M) (hi : i + 6 ≤ L) (kk : ∀ (X1 M1 : qs_D) (H1 : Heap) (locs1 : List Loc), QL Ex Em Ax Am s X1 M1 H1 locs1 → RR X1 M1 → W p l e room_1 s m #[Value.ref b] below meth c H1 locs1 58 1078 Q (F0 m 1349 ls [])) : W p l e room_1 s m #[Value.ref b] below meth c H locs 58 1078 Q (F0 m 1036 ls []) := by
  obtain ⟨r, X1, M1, hX, hM, hR2⟩ := m_as hR (xs (i + 1)) (xs (i + 2))
  refine lw_al hC hl dL_law_1036 rfl (q := 2) rfl ?_
  refine lw_arg 1 hC hL hl hQ (by omega) (by decide) dL_law_1037 dL_law_1038 dL_law_1039 dL_law_1040 dL_law_1041 ?_
  refine lw_arg 2 hC hL hl hQ (by omega) (by decide) dL_law_1042 dL_law_1043 dL_law_1044 dL_law_1045 dL_law_1046 ?_
  refine lw_callX (As := [.int (xs (i + 1)), .int (xs (i + 2))]) (rest := []) hC hl hQ cfL_134 (by decide) rfl (kX4_as hX) rfl rfl (Nat.le_of_ble_eq_true rfl) dL_law_1047 rfl (fun H1 locs1 hQ1 => ?_)
  refine W.eq (g2 := F0 m 1050 ls [.int r]) rfl ?_
  refine lw_al hC hl dL_law_1050 rfl (q := 1) rfl ?_
  refine lw_arg 1 hC hL hl hQ1 (by omega) (by decide) dL_law_1051 dL_law_1052 dL_law_1053 dL_law_1054 dL_law_1055 ?_
  refine lw_arg 2 hC hL hl hQ1 (by omega) (by decide) dL_law_1056 dL_law_1057 dL_law_1058 dL_law_1059 dL_law_1060 ?_
  refine lw_callM (As := [.int (xs (i + 1)), .int (xs (i + 2))]) (rest := [.int r]) hC hl hQ1 cfL_137 (by decide) rfl (kX5_as hM) rfl rfl (Nat.le_of_ble_eq_true rfl) dL_law_1061 rfl (fun H2 locs2 hQ2 => ?_)
  refine W.eq (g2 := F0 m 1064 ls [.int r, .int r]) rfl ?_
  refine lv_icmp_eq (tgt := 1349) hC.1.1 hC.1.2.1 dL_law_1064 (by decide) (fun _ => kk X1 M1 H2 locs2 hQ2 hR2) (fun h => absurd rfl h)
theorem lc_30 (hC : LC p s m meth c b L xs Ex Em Ax Am) (hL : L ≤ 3072) (hl : lv_has ls 4 (lw_lv b Ex Em i)) (hQ : QL Ex Em Ax Am s X M H locs) (hR : RR X M) (hi : i + 6 ≤ L) (kk : ∀ (X1 M1 : qs_D) (H1 : Heap) (locs1 : List Loc), QL Ex Em Ax Am s X1 M1 H1 locs1 → RR X1 M1 → W p l e room_1 s m #[Value.ref b] below meth c H1 locs1 58 1078 Q (F0 m 1349 ls [])) : W p l e room_1 s m #[Value.ref b] below meth c H locs 58 1078 Q (F0 m 1069 ls []) := by
  obtain ⟨r, X1, M1, hX, hM, hR2⟩ := m_sheet hR (xs (i + 1)) (xs (i + 2)) (xs (i + 3))
  refine lw_al hC hl dL_law_1069 rfl (q := 2) rfl ?_
  refine lw_arg 1 hC hL hl hQ (by omega) (by decide) dL_law_1070 dL_law_1071 dL_law_1072 dL_law_1073 dL_law_1074 ?_
  refine lw_arg 2 hC hL hl hQ (by omega) (by decide) dL_law_1075 dL_law_1076 dL_law_1077 dL_law_1078 dL_law_1079 ?_
  refine lw_arg 3 hC hL hl hQ (by omega) (by decide) dL_law_1080 dL_law_1081 dL_law_1082 dL_law_1083 dL_law_1084 ?_
  refine lw_callX (As := [.int (xs (i + 1)), .int (xs (i + 2)), .int (xs (i + 3))]) (rest := []) hC hl hQ cfL_138 (by decide) rfl (kX4_sheet hX) rfl rfl (Nat.le_of_ble_eq_true rfl) dL_law_1085 rfl (fun H1 locs1 hQ1 => ?_)
  refine W.eq (g2 := F0 m 1088 ls [.int r]) rfl ?_
  refine lw_al hC hl dL_law_1088 rfl (q := 1) rfl ?_
  refine lw_arg 1 hC hL hl hQ1 (by omega) (by decide) dL_law_1089 dL_law_1090 dL_law_1091 dL_law_1092 dL_law_1093 ?_
  refine lw_arg 2 hC hL hl hQ1 (by omega) (by decide) dL_law_1094 dL_law_1095 dL_law_1096 dL_law_1097 dL_law_1098 ?_
  refine lw_arg 3 hC hL hl hQ1 (by omega) (by decide) dL_law_1099 dL_law_1100 dL_law_1101 dL_law_1102 dL_law_1103 ?_
  refine lw_callM (As := [.int (xs (i + 1)), .int (xs (i + 2)), .int (xs (i + 3))]) (rest := [.int r]) hC hl hQ1 cfL_141 (by decide) rfl (kX5_sheet hM) rfl rfl (Nat.le_of_ble_eq_true rfl) dL_law_1104 rfl (fun H2 locs2 hQ2 => ?_)
  refine W.eq (g2 := F0 m 1107 ls [.int r, .int r]) rfl ?_
  refine lv_icmp_eq (tgt := 1349) hC.1.1 hC.1.2.1 dL_law_1107 (by decide) (fun _ => kk X1 M1 H2 locs2 hQ2 hR2) (fun h => absurd rfl h)
theorem lc_31 (hC : LC p s m meth c b L xs Ex Em Ax Am) (hL : L ≤ 3072) (hl : lv_has ls 4 (lw_lv b Ex Em i)) (hQ : QL Ex Em Ax Am s X M H locs) (hR : RR X M) (hi : i + 6 ≤ L) (kk : ∀ (X1 M1 : qs_D) (H1 : Heap) (locs1 : List Loc), QL Ex Em Ax Am s X1 M1 H1 locs1 → RR X1 M1 → W p l e room_1 s m #[Value.ref b] below meth c H1 locs1 58 1078 Q (F0 m 1349 ls [])) : W p l e room_1 s m #[Value.ref b] below meth c H locs 58 1078 Q (F0 m 1112 ls []) := by
  obtain ⟨r, X1, M1, hX, hM, hR2⟩ := m_write hR (xs (i + 1)) (xs (i + 2)) (xs (i + 3))
  refine lw_al hC hl dL_law_1112 rfl (q := 2) rfl ?_
  refine lw_arg 1 hC hL hl hQ (by omega) (by decide) dL_law_1113 dL_law_1114 dL_law_1115 dL_law_1116 dL_law_1117 ?_
  refine lw_arg 2 hC hL hl hQ (by omega) (by decide) dL_law_1118 dL_law_1119 dL_law_1120 dL_law_1121 dL_law_1122 ?_
  refine lw_arg 3 hC hL hl hQ (by omega) (by decide) dL_law_1123 dL_law_1124 dL_law_1125 dL_law_1126 dL_law_1127 ?_
  refine lw_callX (As := [.int (xs (i + 1)), .int (xs (i + 2)), .int (xs (i + 3))]) (rest := []) hC hl hQ cfL_142 (by decide) rfl (kX4_write hX) rfl rfl (Nat.le_of_ble_eq_true rfl) dL_law_1128 rfl (fun H1 locs1 hQ1 => ?_)
  refine W.eq (g2 := F0 m 1131 ls [.int r]) rfl ?_
  refine lw_al hC hl dL_law_1131 rfl (q := 1) rfl ?_
  refine lw_arg 1 hC hL hl hQ1 (by omega) (by decide) dL_law_1132 dL_law_1133 dL_law_1134 dL_law_1135 dL_law_1136 ?_
  refine lw_arg 2 hC hL hl hQ1 (by omega) (by decide) dL_law_1137 dL_law_1138 dL_law_1139 dL_law_1140 dL_law_1141 ?_
  refine lw_arg 3 hC hL hl hQ1 (by omega) (by decide) dL_law_1142 dL_law_1143 dL_law_1144 dL_law_1145 dL_law_1146 ?_
  refine lw_callM (As := [.int (xs (i + 1)), .int (xs (i + 2)), .int (xs (i + 3))]) (rest := [.int r]) hC hl hQ1 cfL_145 (by decide) rfl (kX5_write hM) rfl rfl (Nat.le_of_ble_eq_true rfl) dL_law_1147 rfl (fun H2 locs2 hQ2 => ?_)
  refine W.eq (g2 := F0 m 1150 ls [.int r, .int r]) rfl ?_
  refine lv_icmp_eq (tgt := 1349) hC.1.1 hC.1.2.1 dL_law_1150 (by decide) (fun _ => kk X1 M1 H2 locs2 hQ2 hR2) (fun h => absurd rfl h)
theorem lc_32 (hC : LC p s m meth c b L xs Ex Em Ax Am) (hL : L ≤ 3072) (hl : lv_has ls 4 (lw_lv b Ex Em i)) (hQ : QL Ex Em Ax Am s X M H locs) (hR : RR X M) (hi : i + 6 ≤ L) (kk : ∀ (X1 M1 : qs_D) (H1 : Heap) (locs1 : List Loc), QL Ex Em Ax Am s X1 M1 H1 locs1 → RR X1 M1 → W p l e room_1 s m #[Value.ref b] below meth c H1 locs1 58 1078 Q (F0 m 1349 ls [])) : W p l e room_1 s m #[Value.ref b] below meth c H locs 58 1078 Q (F0 m 1155 ls []) := by
  obtain ⟨r, X1, M1, hX, hM, hR2⟩ := m_copy hR (xs (i + 1)) (xs (i + 2)) (xs (i + 3)) (xs (i + 4)) (xs (i + 5))
  refine lw_al hC hl dL_law_1155 rfl (q := 2) rfl ?_
  refine lw_arg 1 hC hL hl hQ (by omega) (by decide) dL_law_1156 dL_law_1157 dL_law_1158 dL_law_1159 dL_law_1160 ?_
  refine lw_arg 2 hC hL hl hQ (by omega) (by decide) dL_law_1161 dL_law_1162 dL_law_1163 dL_law_1164 dL_law_1165 ?_
  refine lw_arg 3 hC hL hl hQ (by omega) (by decide) dL_law_1166 dL_law_1167 dL_law_1168 dL_law_1169 dL_law_1170 ?_
  refine lw_arg 4 hC hL hl hQ (by omega) (by decide) dL_law_1171 dL_law_1172 dL_law_1173 dL_law_1174 dL_law_1175 ?_
  refine lw_arg 5 hC hL hl hQ (by omega) (by decide) dL_law_1176 dL_law_1177 dL_law_1178 dL_law_1179 dL_law_1180 ?_
  refine lw_callX (As := [.int (xs (i + 1)), .int (xs (i + 2)), .int (xs (i + 3)), .int (xs (i + 4)), .int (xs (i + 5))]) (rest := []) hC hl hQ cfL_146 (by decide) rfl (kX4_copy hX) rfl rfl (Nat.le_of_ble_eq_true rfl) dL_law_1181 rfl (fun H1 locs1 hQ1 => ?_)
  refine W.eq (g2 := F0 m 1184 ls [.int r]) rfl ?_
  refine lw_al hC hl dL_law_1184 rfl (q := 1) rfl ?_
  refine lw_arg 1 hC hL hl hQ1 (by omega) (by decide) dL_law_1185 dL_law_1186 dL_law_1187 dL_law_1188 dL_law_1189 ?_
  refine lw_arg 2 hC hL hl hQ1 (by omega) (by decide) dL_law_1190 dL_law_1191 dL_law_1192 dL_law_1193 dL_law_1194 ?_
  refine lw_arg 3 hC hL hl hQ1 (by omega) (by decide) dL_law_1195 dL_law_1196 dL_law_1197 dL_law_1198 dL_law_1199 ?_
  refine lw_arg 4 hC hL hl hQ1 (by omega) (by decide) dL_law_1200 dL_law_1201 dL_law_1202 dL_law_1203 dL_law_1204 ?_
  refine lw_arg 5 hC hL hl hQ1 (by omega) (by decide) dL_law_1205 dL_law_1206 dL_law_1207 dL_law_1208 dL_law_1209 ?_
  refine lw_callM (As := [.int (xs (i + 1)), .int (xs (i + 2)), .int (xs (i + 3)), .int (xs (i + 4)), .int (xs (i + 5))]) (rest := [.int r]) hC hl hQ1 cfL_150 (by decide) rfl (kX5_copy hM) rfl rfl (Nat.le_of_ble_eq_true rfl) dL_law_1210 rfl (fun H2 locs2 hQ2 => ?_)
  refine W.eq (g2 := F0 m 1213 ls [.int r, .int r]) rfl ?_
  refine lv_icmp_eq (tgt := 1349) hC.1.1 hC.1.2.1 dL_law_1213 (by decide) (fun _ => kk X1 M1 H2 locs2 hQ2 hR2) (fun h => absurd rfl h)
theorem lc_33 (hC : LC p s m meth c b L xs Ex Em Ax Am) (hL : L ≤ 3072) (hl : lv_has ls 4 (lw_lv b Ex Em i)) (hQ : QL Ex Em Ax Am s X M H locs) (hR : RR X M) (hi : i + 6 ≤ L) (kk : ∀ (X1 M1 : qs_D) (H1 : Heap) (locs1 : List Loc), QL Ex Em Ax Am s X1 M1 H1 locs1 → RR X1 M1 → W p l e room_1 s m #[Value.ref b] below meth c H1 locs1 58 1078 Q (F0 m 1349 ls [])) : W p l e room_1 s m #[Value.ref b] below meth c H locs 58 1078 Q (F0 m 1218 ls []) := by
  obtain ⟨r, X1, M1, hX, hM, hR2⟩ := m_load hR (xs (i + 1))
  refine lw_al hC hl dL_law_1218 rfl (q := 2) rfl ?_
  refine lw_arg 1 hC hL hl hQ (by omega) (by decide) dL_law_1219 dL_law_1220 dL_law_1221 dL_law_1222 dL_law_1223 ?_
  refine lw_callX (As := [.int (xs (i + 1))]) (rest := []) hC hl hQ cfL_151 (by decide) rfl (kX4_load hX) rfl rfl (Nat.le_of_ble_eq_true rfl) dL_law_1224 rfl (fun H1 locs1 hQ1 => ?_)
  refine W.eq (g2 := F0 m 1227 ls [.int r]) rfl ?_
  refine lw_al hC hl dL_law_1227 rfl (q := 1) rfl ?_
  refine lw_arg 1 hC hL hl hQ1 (by omega) (by decide) dL_law_1228 dL_law_1229 dL_law_1230 dL_law_1231 dL_law_1232 ?_
  refine lw_callM (As := [.int (xs (i + 1))]) (rest := [.int r]) hC hl hQ1 cfL_154 (by decide) rfl (kX5_load hM) rfl rfl (Nat.le_of_ble_eq_true rfl) dL_law_1233 rfl (fun H2 locs2 hQ2 => ?_)
  refine W.eq (g2 := F0 m 1236 ls [.int r, .int r]) rfl ?_
  refine lv_icmp_eq (tgt := 1349) hC.1.1 hC.1.2.1 dL_law_1236 (by decide) (fun _ => kk X1 M1 H2 locs2 hQ2 hR2) (fun h => absurd rfl h)
theorem lc_34 (hC : LC p s m meth c b L xs Ex Em Ax Am) (hL : L ≤ 3072) (hl : lv_has ls 4 (lw_lv b Ex Em i)) (hQ : QL Ex Em Ax Am s X M H locs) (hR : RR X M) (hi : i + 6 ≤ L) (kk : ∀ (X1 M1 : qs_D) (H1 : Heap) (locs1 : List Loc), QL Ex Em Ax Am s X1 M1 H1 locs1 → RR X1 M1 → W p l e room_1 s m #[Value.ref b] below meth c H1 locs1 58 1078 Q (F0 m 1349 ls [])) : W p l e room_1 s m #[Value.ref b] below meth c H locs 58 1078 Q (F0 m 1241 ls []) := by
  obtain ⟨r, X1, M1, hX, hM, hR2⟩ := m_judge hR (xs (i + 1))
  refine lw_al hC hl dL_law_1241 rfl (q := 2) rfl ?_
  refine lw_arg 1 hC hL hl hQ (by omega) (by decide) dL_law_1242 dL_law_1243 dL_law_1244 dL_law_1245 dL_law_1246 ?_
  refine lw_callX (As := [.int (xs (i + 1))]) (rest := []) hC hl hQ cfL_155 (by decide) rfl (kX4_judge hX) rfl rfl (Nat.le_of_ble_eq_true rfl) dL_law_1247 rfl (fun H1 locs1 hQ1 => ?_)
  refine W.eq (g2 := F0 m 1250 ls [.int r]) rfl ?_
  refine lw_al hC hl dL_law_1250 rfl (q := 1) rfl ?_
  refine lw_arg 1 hC hL hl hQ1 (by omega) (by decide) dL_law_1251 dL_law_1252 dL_law_1253 dL_law_1254 dL_law_1255 ?_
  refine lw_callM (As := [.int (xs (i + 1))]) (rest := [.int r]) hC hl hQ1 cfL_158 (by decide) rfl (kX5_judge hM) rfl rfl (Nat.le_of_ble_eq_true rfl) dL_law_1256 rfl (fun H2 locs2 hQ2 => ?_)
  refine W.eq (g2 := F0 m 1259 ls [.int r, .int r]) rfl ?_
  refine lv_icmp_eq (tgt := 1349) hC.1.1 hC.1.2.1 dL_law_1259 (by decide) (fun _ => kk X1 M1 H2 locs2 hQ2 hR2) (fun h => absurd rfl h)
theorem lc_35 (hC : LC p s m meth c b L xs Ex Em Ax Am) (hL : L ≤ 3072) (hl : lv_has ls 4 (lw_lv b Ex Em i)) (hQ : QL Ex Em Ax Am s X M H locs) (hR : RR X M) (hi : i + 6 ≤ L) (kk : ∀ (X1 M1 : qs_D) (H1 : Heap) (locs1 : List Loc), QL Ex Em Ax Am s X1 M1 H1 locs1 → RR X1 M1 → W p l e room_1 s m #[Value.ref b] below meth c H1 locs1 58 1078 Q (F0 m 1349 ls [])) : W p l e room_1 s m #[Value.ref b] below meth c H locs 58 1078 Q (F0 m 1264 ls []) := by
  obtain ⟨r, X1, M1, hX, hM, hR2⟩ := m_image hR 
  refine lw_al hC hl dL_law_1264 rfl (q := 2) rfl ?_
  refine lw_callX (As := []) (rest := []) hC hl hQ cfL_159 (by decide) rfl (kX4_image hX) rfl rfl (Nat.le_of_ble_eq_true rfl) dL_law_1265 rfl (fun H1 locs1 hQ1 => ?_)
  refine W.eq (g2 := F0 m 1268 ls [.int r]) rfl ?_
  refine lw_al hC hl dL_law_1268 rfl (q := 1) rfl ?_
  refine lw_callM (As := []) (rest := [.int r]) hC hl hQ1 cfL_162 (by decide) rfl (kX5_image hM) rfl rfl (Nat.le_of_ble_eq_true rfl) dL_law_1269 rfl (fun H2 locs2 hQ2 => ?_)
  refine W.eq (g2 := F0 m 1272 ls [.int r, .int r]) rfl ?_
  refine lv_icmp_eq (tgt := 1349) hC.1.1 hC.1.2.1 dL_law_1272 (by decide) (fun _ => kk X1 M1 H2 locs2 hQ2 hR2) (fun h => absurd rfl h)
theorem lc_36 (hC : LC p s m meth c b L xs Ex Em Ax Am) (hL : L ≤ 3072) (hl : lv_has ls 4 (lw_lv b Ex Em i)) (hQ : QL Ex Em Ax Am s X M H locs) (hR : RR X M) (hi : i + 6 ≤ L) (kk : ∀ (X1 M1 : qs_D) (H1 : Heap) (locs1 : List Loc), QL Ex Em Ax Am s X1 M1 H1 locs1 → RR X1 M1 → W p l e room_1 s m #[Value.ref b] below meth c H1 locs1 58 1078 Q (F0 m 1349 ls [])) : W p l e room_1 s m #[Value.ref b] below meth c H locs 58 1078 Q (F0 m 1277 ls []) := by
  obtain ⟨r, X1, M1, hX, hM, hR2⟩ := m_undo hR 
  refine lw_al hC hl dL_law_1277 rfl (q := 2) rfl ?_
  refine lw_callX (As := []) (rest := []) hC hl hQ cfL_163 (by decide) rfl (kX4_undo hX) rfl rfl (Nat.le_of_ble_eq_true rfl) dL_law_1278 rfl (fun H1 locs1 hQ1 => ?_)
  refine W.eq (g2 := F0 m 1281 ls [.int r]) rfl ?_
  refine lw_al hC hl dL_law_1281 rfl (q := 1) rfl ?_
  refine lw_callM (As := []) (rest := [.int r]) hC hl hQ1 cfL_166 (by decide) rfl (kX5_undo hM) rfl rfl (Nat.le_of_ble_eq_true rfl) dL_law_1282 rfl (fun H2 locs2 hQ2 => ?_)
  refine W.eq (g2 := F0 m 1285 ls [.int r, .int r]) rfl ?_
  refine lv_icmp_eq (tgt := 1349) hC.1.1 hC.1.2.1 dL_law_1285 (by decide) (fun _ => kk X1 M1 H2 locs2 hQ2 hR2) (fun h => absurd rfl h)
theorem lc_37 (hC : LC p s m meth c b L xs Ex Em Ax Am) (hL : L ≤ 3072) (hl : lv_has ls 4 (lw_lv b Ex Em i)) (hQ : QL Ex Em Ax Am s X M H locs) (hR : RR X M) (hi : i + 6 ≤ L) (kk : ∀ (X1 M1 : qs_D) (H1 : Heap) (locs1 : List Loc), QL Ex Em Ax Am s X1 M1 H1 locs1 → RR X1 M1 → W p l e room_1 s m #[Value.ref b] below meth c H1 locs1 58 1078 Q (F0 m 1349 ls [])) : W p l e room_1 s m #[Value.ref b] below meth c H locs 58 1078 Q (F0 m 1290 ls []) := by
  obtain ⟨r, X1, M1, hX, hM, hR2⟩ := m_tear hR 
  refine lw_al hC hl dL_law_1290 rfl (q := 2) rfl ?_
  refine lw_callX (As := []) (rest := []) hC hl hQ cfL_167 (by decide) rfl (kX4_tear hX) rfl rfl (Nat.le_of_ble_eq_true rfl) dL_law_1291 rfl (fun H1 locs1 hQ1 => ?_)
  refine W.eq (g2 := F0 m 1294 ls [.int r]) rfl ?_
  refine lw_al hC hl dL_law_1294 rfl (q := 1) rfl ?_
  refine lw_callM (As := []) (rest := [.int r]) hC hl hQ1 cfL_170 (by decide) rfl (kX5_tear hM) rfl rfl (Nat.le_of_ble_eq_true rfl) dL_law_1295 rfl (fun H2 locs2 hQ2 => ?_)
  refine W.eq (g2 := F0 m 1298 ls [.int r, .int r]) rfl ?_
  refine lv_icmp_eq (tgt := 1349) hC.1.1 hC.1.2.1 dL_law_1298 (by decide) (fun _ => kk X1 M1 H2 locs2 hQ2 hR2) (fun h => absurd rfl h)
theorem lc_38 (hC : LC p s m meth c b L xs Ex Em Ax Am) (hL : L ≤ 3072) (hl : lv_has ls 4 (lw_lv b Ex Em i)) (hQ : QL Ex Em Ax Am s X M H locs) (hR : RR X M) (hi : i + 6 ≤ L) (kk : ∀ (X1 M1 : qs_D) (H1 : Heap) (locs1 : List Loc), QL Ex Em Ax Am s X1 M1 H1 locs1 → RR X1 M1 → W p l e room_1 s m #[Value.ref b] below meth c H1 locs1 58 1078 Q (F0 m 1349 ls [])) : W p l e room_1 s m #[Value.ref b] below meth c H locs 58 1078 Q (F0 m 1303 ls []) := by
  obtain ⟨r, X1, M1, hX, hM, hR2⟩ := m_count hR (xs (i + 1))
  refine lw_al hC hl dL_law_1303 rfl (q := 2) rfl ?_
  refine lw_arg 1 hC hL hl hQ (by omega) (by decide) dL_law_1304 dL_law_1305 dL_law_1306 dL_law_1307 dL_law_1308 ?_
  refine lw_callX (As := [.int (xs (i + 1))]) (rest := []) hC hl hQ cfL_171 (by decide) rfl (kX4_count hX) rfl rfl (Nat.le_of_ble_eq_true rfl) dL_law_1309 rfl (fun H1 locs1 hQ1 => ?_)
  refine W.eq (g2 := F0 m 1312 ls [.int r]) rfl ?_
  refine lw_al hC hl dL_law_1312 rfl (q := 1) rfl ?_
  refine lw_arg 1 hC hL hl hQ1 (by omega) (by decide) dL_law_1313 dL_law_1314 dL_law_1315 dL_law_1316 dL_law_1317 ?_
  refine lw_callM (As := [.int (xs (i + 1))]) (rest := [.int r]) hC hl hQ1 cfL_174 (by decide) rfl (kX5_count hM) rfl rfl (Nat.le_of_ble_eq_true rfl) dL_law_1318 rfl (fun H2 locs2 hQ2 => ?_)
  refine W.eq (g2 := F0 m 1321 ls [.int r, .int r]) rfl ?_
  refine lv_icmp_eq (tgt := 1349) hC.1.1 hC.1.2.1 dL_law_1321 (by decide) (fun _ => kk X1 M1 H2 locs2 hQ2 hR2) (fun h => absurd rfl h)
theorem lc_39 (hC : LC p s m meth c b L xs Ex Em Ax Am) (hL : L ≤ 3072) (hl : lv_has ls 4 (lw_lv b Ex Em i)) (hQ : QL Ex Em Ax Am s X M H locs) (hR : RR X M) (hi : i + 6 ≤ L) (kk : ∀ (X1 M1 : qs_D) (H1 : Heap) (locs1 : List Loc), QL Ex Em Ax Am s X1 M1 H1 locs1 → RR X1 M1 → W p l e room_1 s m #[Value.ref b] below meth c H1 locs1 58 1078 Q (F0 m 1349 ls [])) : W p l e room_1 s m #[Value.ref b] below meth c H locs 58 1078 Q (F0 m 1326 ls []) := by
  obtain ⟨r, X1, M1, hX, hM, hR2⟩ := m_status hR (xs (i + 1))
  refine lw_al hC hl dL_law_1326 rfl (q := 2) rfl ?_
  refine lw_arg 1 hC hL hl hQ (by omega) (by decide) dL_law_1327 dL_law_1328 dL_law_1329 dL_law_1330 dL_law_1331 ?_
  refine lw_callX (As := [.int (xs (i + 1))]) (rest := []) hC hl hQ cfL_175 (by decide) rfl (kX4_status hX) rfl rfl (Nat.le_of_ble_eq_true rfl) dL_law_1332 rfl (fun H1 locs1 hQ1 => ?_)
  refine W.eq (g2 := F0 m 1335 ls [.int r]) rfl ?_
  refine lw_al hC hl dL_law_1335 rfl (q := 1) rfl ?_
  refine lw_arg 1 hC hL hl hQ1 (by omega) (by decide) dL_law_1336 dL_law_1337 dL_law_1338 dL_law_1339 dL_law_1340 ?_
  refine lw_callM (As := [.int (xs (i + 1))]) (rest := [.int r]) hC hl hQ1 cfL_178 (by decide) rfl (kX5_status hM) rfl rfl (Nat.le_of_ble_eq_true rfl) dL_law_1341 rfl (fun H2 locs2 hQ2 => ?_)
  refine W.eq (g2 := F0 m 1344 ls [.int r, .int r]) rfl ?_
  refine lv_icmp_eq (tgt := 1349) hC.1.1 hC.1.2.1 dL_law_1344 (by decide) (fun _ => kk X1 M1 H2 locs2 hQ2 hR2) (fun h => absurd rfl h)
end CASES
