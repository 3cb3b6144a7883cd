set_option maxRecDepth 100000 in
theorem mo_0 : jmo 0 := ⟨w0m 655 rfl rfl, w0m 83 rfl rfl, by decide +kernel, by decide +kernel, by decide +kernel, by decide +kernel, Or.inl ⟨rfl, w0m 654 rfl rfl⟩⟩
theorem fa_0 : jfa 0 := ⟨mo_0, fun q h => ⟨List.all_eq_true.mp ck_0 q h, wo_0 q h⟩⟩
set_option maxRecDepth 100000 in
theorem mo_1 : jmo 1 := ⟨w0m 483 rfl rfl, w0m 77 rfl rfl, by decide +kernel, by decide +kernel, by decide +kernel, by decide +kernel, Or.inl ⟨rfl, w0m 482 rfl rfl⟩⟩
theorem fa_1 : jfa 1 := ⟨mo_1, fun q h => ⟨List.all_eq_true.mp ck_1 q h, wo_1 q h⟩⟩
set_option maxRecDepth 100000 in
theorem mo_2 : jmo 2 := ⟨w0m 823 rfl rfl, w0m 77 rfl rfl, by decide +kernel, by decide +kernel, by decide +kernel, by decide +kernel, Or.inl ⟨rfl, w0m 822 rfl rfl⟩⟩
theorem fa_2 : jfa 2 := ⟨mo_2, fun q h => ⟨List.all_eq_true.mp ck_2 q h, wo_2 q h⟩⟩
set_option maxRecDepth 100000 in
theorem mo_3 : jmo 3 := ⟨w0m 536 rfl rfl, w0m 80 rfl rfl, by decide +kernel, by decide +kernel, by decide +kernel, by decide +kernel, Or.inl ⟨rfl, w0m 535 rfl rfl⟩⟩
theorem fa_3 : jfa 3 := ⟨mo_3, fun q h => ⟨List.all_eq_true.mp ck_3 q h, wo_3 q h⟩⟩
set_option maxRecDepth 100000 in
theorem mo_4 : jmo 4 := ⟨w0m 511 rfl rfl, w0m 78 rfl rfl, by decide +kernel, by decide +kernel, by decide +kernel, by decide +kernel, Or.inr ⟨Or.inl ⟨rfl, rfl⟩, w0m 509 rfl rfl, w0m 510 rfl rfl⟩⟩
theorem fa_4 : jfa 4 := ⟨mo_4, fun q h => ⟨List.all_eq_true.mp ck_4 q h, wo_4 q h⟩⟩
set_option maxRecDepth 100000 in
theorem mo_5 : jmo 5 := ⟨w0m 515 rfl rfl, w0m 78 rfl rfl, by decide +kernel, by decide +kernel, by decide +kernel, by decide +kernel, Or.inr ⟨Or.inl ⟨rfl, rfl⟩, w0m 513 rfl rfl, w0m 514 rfl rfl⟩⟩
theorem fa_5 : jfa 5 := ⟨mo_5, fun q h => ⟨List.all_eq_true.mp ck_5 q h, wo_5 q h⟩⟩
set_option maxRecDepth 100000 in
theorem mo_6 : jmo 6 := ⟨w0m 521 rfl rfl, w0m 78 rfl rfl, by decide +kernel, by decide +kernel, by decide +kernel, by decide +kernel, Or.inr ⟨Or.inl ⟨rfl, rfl⟩, w0m 519 rfl rfl, w0m 520 rfl rfl⟩⟩
theorem fa_6 : jfa 6 := ⟨mo_6, fun q h => ⟨List.all_eq_true.mp ck_6 q h, wo_6 q h⟩⟩
set_option maxRecDepth 100000 in
theorem mo_7 : jmo 7 := ⟨w0m 525 rfl rfl, w0m 78 rfl rfl, by decide +kernel, by decide +kernel, by decide +kernel, by decide +kernel, Or.inr ⟨Or.inl ⟨rfl, rfl⟩, w0m 523 rfl rfl, w0m 524 rfl rfl⟩⟩
theorem fa_7 : jfa 7 := ⟨mo_7, fun q h => ⟨List.all_eq_true.mp ck_7 q h, wo_7 q h⟩⟩
set_option maxRecDepth 100000 in
theorem mo_8 : jmo 8 := ⟨w0m 531 rfl rfl, w0m 78 rfl rfl, by decide +kernel, by decide +kernel, by decide +kernel, by decide +kernel, Or.inl ⟨rfl, w0m 530 rfl rfl⟩⟩
theorem fa_8 : jfa 8 := ⟨mo_8, fun q h => ⟨List.all_eq_true.mp ck_8 q h, wo_8 q h⟩⟩
set_option maxRecDepth 100000 in
theorem mo_9 : jmo 9 := ⟨w0m 528 rfl rfl, w0m 79 rfl rfl, by decide +kernel, by decide +kernel, by decide +kernel, by decide +kernel, Or.inl ⟨rfl, w0m 527 rfl rfl⟩⟩
theorem fa_9 : jfa 9 := ⟨mo_9, fun q h => ⟨List.all_eq_true.mp ck_9 q h, wo_9 q h⟩⟩
set_option maxRecDepth 100000 in
theorem mo_10 : jmo 10 := ⟨w0m 391 rfl rfl, w0m 76 rfl rfl, by decide +kernel, by decide +kernel, by decide +kernel, by decide +kernel, Or.inl ⟨rfl, w0m 390 rfl rfl⟩⟩
theorem fa_10 : jfa 10 := ⟨mo_10, fun q h => ⟨List.all_eq_true.mp ck_10 q h, wo_10 q h⟩⟩
set_option maxRecDepth 100000 in
theorem mo_11 : jmo 11 := ⟨w0m 449 rfl rfl, w0m 76 rfl rfl, by decide +kernel, by decide +kernel, by decide +kernel, by decide +kernel, Or.inl ⟨rfl, w0m 448 rfl rfl⟩⟩
theorem fa_11 : jfa 11 := ⟨mo_11, fun q h => ⟨List.all_eq_true.mp ck_11 q h, wo_11 q h⟩⟩
set_option maxRecDepth 100000 in
theorem mo_12 : jmo 12 := ⟨w0m 611 rfl rfl, w0m 76 rfl rfl, by decide +kernel, by decide +kernel, by decide +kernel, by decide +kernel, Or.inl ⟨rfl, w0m 610 rfl rfl⟩⟩
theorem fa_12 : jfa 12 := ⟨mo_12, fun q h => ⟨List.all_eq_true.mp ck_12 q h, wo_12 q h⟩⟩
set_option maxRecDepth 100000 in
theorem mo_13 : jmo 13 := ⟨w0m 620 rfl rfl, w0m 76 rfl rfl, by decide +kernel, by decide +kernel, by decide +kernel, by decide +kernel, Or.inl ⟨rfl, w0m 619 rfl rfl⟩⟩
theorem fa_13 : jfa 13 := ⟨mo_13, fun q h => ⟨List.all_eq_true.mp ck_13 q h, wo_13 q h⟩⟩
set_option maxRecDepth 100000 in
theorem mo_14 : jmo 14 := ⟨w0m 623 rfl rfl, w0m 76 rfl rfl, by decide +kernel, by decide +kernel, by decide +kernel, by decide +kernel, Or.inl ⟨rfl, w0m 622 rfl rfl⟩⟩
theorem fa_14 : jfa 14 := ⟨mo_14, fun q h => ⟨List.all_eq_true.mp ck_14 q h, wo_14 q h⟩⟩
set_option maxRecDepth 100000 in
theorem mo_15 : jmo 15 := ⟨w0m 362 rfl rfl, w0m 66 rfl rfl, by decide +kernel, by decide +kernel, by decide +kernel, by decide +kernel, Or.inr ⟨Or.inr ⟨_, rfl, rfl, by decide⟩, w0m 360 rfl rfl, w0m 361 rfl rfl⟩⟩
theorem fa_15 : jfa 15 := ⟨mo_15, fun q h => ⟨List.all_eq_true.mp ck_15 q h, wo_15 q h⟩⟩
set_option maxRecDepth 100000 in
theorem mo_16 : jmo 16 := ⟨w0m 365 rfl rfl, w0m 66 rfl rfl, by decide +kernel, by decide +kernel, by decide +kernel, by decide +kernel, Or.inl ⟨rfl, w0m 364 rfl rfl⟩⟩
theorem fa_16 : jfa 16 := ⟨mo_16, fun q h => ⟨List.all_eq_true.mp ck_16 q h, wo_16 q h⟩⟩
set_option maxRecDepth 100000 in
theorem mo_17 : jmo 17 := ⟨w0m 380 rfl rfl, w0m 66 rfl rfl, by decide +kernel, by decide +kernel, by decide +kernel, by decide +kernel, Or.inr ⟨Or.inr ⟨_, rfl, rfl, by decide⟩, w0m 378 rfl rfl, w0m 379 rfl rfl⟩⟩
theorem fa_17 : jfa 17 := ⟨mo_17, fun q h => ⟨List.all_eq_true.mp ck_17 q h, wo_17 q h⟩⟩
set_option maxRecDepth 100000 in
theorem mo_18 : jmo 18 := ⟨w0m 388 rfl rfl, w0m 66 rfl rfl, by decide +kernel, by decide +kernel, by decide +kernel, by decide +kernel, Or.inr ⟨Or.inr ⟨_, rfl, rfl, by decide⟩, w0m 386 rfl rfl, w0m 387 rfl rfl⟩⟩
theorem fa_18 : jfa 18 := ⟨mo_18, fun q h => ⟨List.all_eq_true.mp ck_18 q h, wo_18 q h⟩⟩
set_option maxRecDepth 100000 in
theorem mo_19 : jmo 19 := ⟨w0m 399 rfl rfl, w0m 66 rfl rfl, by decide +kernel, by decide +kernel, by decide +kernel, by decide +kernel, Or.inr ⟨Or.inr ⟨_, rfl, rfl, by decide⟩, w0m 397 rfl rfl, w0m 398 rfl rfl⟩⟩
theorem fa_19 : jfa 19 := ⟨mo_19, fun q h => ⟨List.all_eq_true.mp ck_19 q h, wo_19 q h⟩⟩
set_option maxRecDepth 100000 in
theorem mo_20 : jmo 20 := ⟨w0m 403 rfl rfl, w0m 66 rfl rfl, by decide +kernel, by decide +kernel, by decide +kernel, by decide +kernel, Or.inr ⟨Or.inr ⟨_, rfl, rfl, by decide⟩, w0m 401 rfl rfl, w0m 402 rfl rfl⟩⟩
theorem fa_20 : jfa 20 := ⟨mo_20, fun q h => ⟨List.all_eq_true.mp ck_20 q h, wo_20 q h⟩⟩
set_option maxRecDepth 100000 in
theorem mo_21 : jmo 21 := ⟨w0m 411 rfl rfl, w0m 66 rfl rfl, by decide +kernel, by decide +kernel, by decide +kernel, by decide +kernel, Or.inr ⟨Or.inr ⟨_, rfl, rfl, by decide⟩, w0m 409 rfl rfl, w0m 410 rfl rfl⟩⟩
theorem fa_21 : jfa 21 := ⟨mo_21, fun q h => ⟨List.all_eq_true.mp ck_21 q h, wo_21 q h⟩⟩
set_option maxRecDepth 100000 in
theorem mo_22 : jmo 22 := ⟨w0m 419 rfl rfl, w0m 66 rfl rfl, by decide +kernel, by decide +kernel, by decide +kernel, by decide +kernel, Or.inr ⟨Or.inr ⟨_, rfl, rfl, by decide⟩, w0m 417 rfl rfl, w0m 418 rfl rfl⟩⟩
theorem fa_22 : jfa 22 := ⟨mo_22, fun q h => ⟨List.all_eq_true.mp ck_22 q h, wo_22 q h⟩⟩
set_option maxRecDepth 100000 in
theorem mo_23 : jmo 23 := ⟨w0m 423 rfl rfl, w0m 66 rfl rfl, by decide +kernel, by decide +kernel, by decide +kernel, by decide +kernel, Or.inr ⟨Or.inr ⟨_, rfl, rfl, by decide⟩, w0m 422 rfl rfl, w0m 1 rfl rfl⟩⟩
theorem fa_23 : jfa 23 := ⟨mo_23, fun q h => ⟨List.all_eq_true.mp ck_23 q h, wo_23 q h⟩⟩
set_option maxRecDepth 100000 in
theorem mo_24 : jmo 24 := ⟨w0m 431 rfl rfl, w0m 66 rfl rfl, by decide +kernel, by decide +kernel, by decide +kernel, by decide +kernel, Or.inr ⟨Or.inr ⟨_, rfl, rfl, by decide⟩, w0m 429 rfl rfl, w0m 430 rfl rfl⟩⟩
theorem fa_24 : jfa 24 := ⟨mo_24, fun q h => ⟨List.all_eq_true.mp ck_24 q h, wo_24 q h⟩⟩
set_option maxRecDepth 100000 in
theorem mo_25 : jmo 25 := ⟨w0m 439 rfl rfl, w0m 66 rfl rfl, by decide +kernel, by decide +kernel, by decide +kernel, by decide +kernel, Or.inr ⟨Or.inr ⟨_, rfl, rfl, by decide⟩, w0m 437 rfl rfl, w0m 438 rfl rfl⟩⟩
theorem fa_25 : jfa 25 := ⟨mo_25, fun q h => ⟨List.all_eq_true.mp ck_25 q h, wo_25 q h⟩⟩
set_option maxRecDepth 100000 in
theorem mo_26 : jmo 26 := ⟨w0m 443 rfl rfl, w0m 66 rfl rfl, by decide +kernel, by decide +kernel, by decide +kernel, by decide +kernel, Or.inr ⟨Or.inr ⟨_, rfl, rfl, by decide⟩, w0m 441 rfl rfl, w0m 442 rfl rfl⟩⟩
theorem fa_26 : jfa 26 := ⟨mo_26, fun q h => ⟨List.all_eq_true.mp ck_26 q h, wo_26 q h⟩⟩
set_option maxRecDepth 100000 in
theorem mo_27 : jmo 27 := ⟨w0m 480 rfl rfl, w0m 66 rfl rfl, by decide +kernel, by decide +kernel, by decide +kernel, by decide +kernel, Or.inr ⟨Or.inr ⟨_, rfl, rfl, by decide⟩, w0m 478 rfl rfl, w0m 479 rfl rfl⟩⟩
theorem fa_27 : jfa 27 := ⟨mo_27, fun q h => ⟨List.all_eq_true.mp ck_27 q h, wo_27 q h⟩⟩
set_option maxRecDepth 100000 in
theorem mo_28 : jmo 28 := ⟨w0m 582 rfl rfl, w0m 66 rfl rfl, by decide +kernel, by decide +kernel, by decide +kernel, by decide +kernel, Or.inr ⟨Or.inr ⟨_, rfl, rfl, by decide⟩, w0m 580 rfl rfl, w0m 581 rfl rfl⟩⟩
theorem fa_28 : jfa 28 := ⟨mo_28, fun q h => ⟨List.all_eq_true.mp ck_28 q h, wo_28 q h⟩⟩
set_option maxRecDepth 100000 in
theorem mo_29 : jmo 29 := ⟨w0m 589 rfl rfl, w0m 66 rfl rfl, by decide +kernel, by decide +kernel, by decide +kernel, by decide +kernel, Or.inr ⟨Or.inr ⟨_, rfl, rfl, by decide⟩, w0m 587 rfl rfl, w0m 588 rfl rfl⟩⟩
theorem fa_29 : jfa 29 := ⟨mo_29, fun q h => ⟨List.all_eq_true.mp ck_29 q h, wo_29 q h⟩⟩
set_option maxRecDepth 100000 in
theorem mo_30 : jmo 30 := ⟨w0m 598 rfl rfl, w0m 66 rfl rfl, by decide +kernel, by decide +kernel, by decide +kernel, by decide +kernel, Or.inr ⟨Or.inr ⟨_, rfl, rfl, by decide⟩, w0m 596 rfl rfl, w0m 597 rfl rfl⟩⟩
theorem fa_30 : jfa 30 := ⟨mo_30, fun q h => ⟨List.all_eq_true.mp ck_30 q h, wo_30 q h⟩⟩
set_option maxRecDepth 100000 in
theorem mo_31 : jmo 31 := ⟨w0m 632 rfl rfl, w0m 66 rfl rfl, by decide +kernel, by decide +kernel, by decide +kernel, by decide +kernel, Or.inr ⟨Or.inr ⟨_, rfl, rfl, by decide⟩, w0m 630 rfl rfl, w0m 631 rfl rfl⟩⟩
theorem fa_31 : jfa 31 := ⟨mo_31, fun q h => ⟨List.all_eq_true.mp ck_31 q h, wo_31 q h⟩⟩
set_option maxRecDepth 100000 in
theorem mo_32 : jmo 32 := ⟨w0m 644 rfl rfl, w0m 66 rfl rfl, by decide +kernel, by decide +kernel, by decide +kernel, by decide +kernel, Or.inr ⟨Or.inr ⟨_, rfl, rfl, by decide⟩, w0m 642 rfl rfl, w0m 643 rfl rfl⟩⟩
theorem fa_32 : jfa 32 := ⟨mo_32, fun q h => ⟨List.all_eq_true.mp ck_32 q h, wo_32 q h⟩⟩
set_option maxRecDepth 100000 in
theorem mo_33 : jmo 33 := ⟨w0m 667 rfl rfl, w0m 66 rfl rfl, by decide +kernel, by decide +kernel, by decide +kernel, by decide +kernel, Or.inr ⟨Or.inr ⟨_, rfl, rfl, by decide⟩, w0m 665 rfl rfl, w0m 666 rfl rfl⟩⟩
theorem fa_33 : jfa 33 := ⟨mo_33, fun q h => ⟨List.all_eq_true.mp ck_33 q h, wo_33 q h⟩⟩
set_option maxRecDepth 100000 in
theorem mo_34 : jmo 34 := ⟨w0m 676 rfl rfl, w0m 66 rfl rfl, by decide +kernel, by decide +kernel, by decide +kernel, by decide +kernel, Or.inr ⟨Or.inr ⟨_, rfl, rfl, by decide⟩, w0m 674 rfl rfl, w0m 675 rfl rfl⟩⟩
theorem fa_34 : jfa 34 := ⟨mo_34, fun q h => ⟨List.all_eq_true.mp ck_34 q h, wo_34 q h⟩⟩
set_option maxRecDepth 100000 in
theorem mo_35 : jmo 35 := ⟨w0m 696 rfl rfl, w0m 66 rfl rfl, by decide +kernel, by decide +kernel, by decide +kernel, by decide +kernel, Or.inr ⟨Or.inr ⟨_, rfl, rfl, by decide⟩, w0m 694 rfl rfl, w0m 695 rfl rfl⟩⟩
theorem fa_35 : jfa 35 := ⟨mo_35, fun q h => ⟨List.all_eq_true.mp ck_35 q h, wo_35 q h⟩⟩
set_option maxRecDepth 100000 in
theorem mo_36 : jmo 36 := ⟨w0m 787 rfl rfl, w0m 66 rfl rfl, by decide +kernel, by decide +kernel, by decide +kernel, by decide +kernel, Or.inr ⟨Or.inr ⟨_, rfl, rfl, by decide⟩, w0m 785 rfl rfl, w0m 786 rfl rfl⟩⟩
theorem fa_36 : jfa 36 := ⟨mo_36, fun q h => ⟨List.all_eq_true.mp ck_36 q h, wo_36 q h⟩⟩
set_option maxRecDepth 100000 in
theorem mo_37 : jmo 37 := ⟨w0m 796 rfl rfl, w0m 66 rfl rfl, by decide +kernel, by decide +kernel, by decide +kernel, by decide +kernel, Or.inr ⟨Or.inr ⟨_, rfl, rfl, by decide⟩, w0m 794 rfl rfl, w0m 795 rfl rfl⟩⟩
theorem fa_37 : jfa 37 := ⟨mo_37, fun q h => ⟨List.all_eq_true.mp ck_37 q h, wo_37 q h⟩⟩
set_option maxRecDepth 100000 in
theorem mo_38 : jmo 38 := ⟨w0m 804 rfl rfl, w0m 66 rfl rfl, by decide +kernel, by decide +kernel, by decide +kernel, by decide +kernel, Or.inr ⟨Or.inr ⟨_, rfl, rfl, by decide⟩, w0m 802 rfl rfl, w0m 803 rfl rfl⟩⟩
theorem fa_38 : jfa 38 := ⟨mo_38, fun q h => ⟨List.all_eq_true.mp ck_38 q h, wo_38 q h⟩⟩
set_option maxRecDepth 100000 in
theorem mo_39 : jmo 39 := ⟨w0m 808 rfl rfl, w0m 66 rfl rfl, by decide +kernel, by decide +kernel, by decide +kernel, by decide +kernel, Or.inr ⟨Or.inr ⟨_, rfl, rfl, by decide⟩, w0m 806 rfl rfl, w0m 807 rfl rfl⟩⟩
theorem fa_39 : jfa 39 := ⟨mo_39, fun q h => ⟨List.all_eq_true.mp ck_39 q h, wo_39 q h⟩⟩
set_option maxRecDepth 100000 in
theorem mo_40 : jmo 40 := ⟨w0m 905 rfl rfl, w0m 66 rfl rfl, by decide +kernel, by decide +kernel, by decide +kernel, by decide +kernel, Or.inr ⟨Or.inr ⟨_, rfl, rfl, by decide⟩, w0m 903 rfl rfl, w0m 904 rfl rfl⟩⟩
theorem fa_40 : jfa 40 := ⟨mo_40, fun q h => ⟨List.all_eq_true.mp ck_40 q h, wo_40 q h⟩⟩
set_option maxRecDepth 100000 in
theorem mo_41 : jmo 41 := ⟨w0m 909 rfl rfl, w0m 66 rfl rfl, by decide +kernel, by decide +kernel, by decide +kernel, by decide +kernel, Or.inr ⟨Or.inr ⟨_, rfl, rfl, by decide⟩, w0m 908 rfl rfl, w0m 25 rfl rfl⟩⟩
theorem fa_41 : jfa 41 := ⟨mo_41, fun q h => ⟨List.all_eq_true.mp ck_41 q h, wo_41 q h⟩⟩
set_option maxRecDepth 100000 in
theorem mo_42 : jmo 42 := ⟨w0m 947 rfl rfl, w0m 66 rfl rfl, by decide +kernel, by decide +kernel, by decide +kernel, by decide +kernel, Or.inr ⟨Or.inr ⟨_, rfl, rfl, by decide⟩, w0m 945 rfl rfl, w0m 946 rfl rfl⟩⟩
theorem fa_42 : jfa 42 := ⟨mo_42, fun q h => ⟨List.all_eq_true.mp ck_42 q h, wo_42 q h⟩⟩
set_option maxRecDepth 100000 in
theorem mo_43 : jmo 43 := ⟨w0m 951 rfl rfl, w0m 66 rfl rfl, by decide +kernel, by decide +kernel, by decide +kernel, by decide +kernel, Or.inr ⟨Or.inr ⟨_, rfl, rfl, by decide⟩, w0m 950 rfl rfl, w0m 27 rfl rfl⟩⟩
theorem fa_43 : jfa 43 := ⟨mo_43, fun q h => ⟨List.all_eq_true.mp ck_43 q h, wo_43 q h⟩⟩
set_option maxRecDepth 100000 in
theorem mo_44 : jmo 44 := ⟨w0m 836 rfl rfl, w0m 68 rfl rfl, by decide +kernel, by decide +kernel, by decide +kernel, by decide +kernel, Or.inr ⟨Or.inr ⟨_, rfl, rfl, by decide⟩, w0m 834 rfl rfl, w0m 835 rfl rfl⟩⟩
theorem fa_44 : jfa 44 := ⟨mo_44, fun q h => ⟨List.all_eq_true.mp ck_44 q h, wo_44 q h⟩⟩
set_option maxRecDepth 100000 in
theorem mo_45 : jmo 45 := ⟨w0m 839 rfl rfl, w0m 68 rfl rfl, by decide +kernel, by decide +kernel, by decide +kernel, by decide +kernel, Or.inl ⟨rfl, w0m 838 rfl rfl⟩⟩
theorem fa_45 : jfa 45 := ⟨mo_45, fun q h => ⟨List.all_eq_true.mp ck_45 q h, wo_45 q h⟩⟩
set_option maxRecDepth 100000 in
theorem mo_46 : jmo 46 := ⟨w0m 446 rfl rfl, w0m 69 rfl rfl, by decide +kernel, by decide +kernel, by decide +kernel, by decide +kernel, Or.inl ⟨rfl, w0m 445 rfl rfl⟩⟩
theorem fa_46 : jfa 46 := ⟨mo_46, fun q h => ⟨List.all_eq_true.mp ck_46 q h, wo_46 q h⟩⟩
set_option maxRecDepth 100000 in
theorem mo_47 : jmo 47 := ⟨w0m 452 rfl rfl, w0m 69 rfl rfl, by decide +kernel, by decide +kernel, by decide +kernel, by decide +kernel, Or.inl ⟨rfl, w0m 451 rfl rfl⟩⟩
theorem fa_47 : jfa 47 := ⟨mo_47, fun q h => ⟨List.all_eq_true.mp ck_47 q h, wo_47 q h⟩⟩
set_option maxRecDepth 100000 in
theorem mo_48 : jmo 48 := ⟨w0m 602 rfl rfl, w0m 69 rfl rfl, by decide +kernel, by decide +kernel, by decide +kernel, by decide +kernel, Or.inr ⟨Or.inr ⟨_, rfl, rfl, by decide⟩, w0m 600 rfl rfl, w0m 601 rfl rfl⟩⟩
theorem fa_48 : jfa 48 := ⟨mo_48, fun q h => ⟨List.all_eq_true.mp ck_48 q h, wo_48 q h⟩⟩
set_option maxRecDepth 100000 in
theorem mo_49 : jmo 49 := ⟨w0m 606 rfl rfl, w0m 69 rfl rfl, by decide +kernel, by decide +kernel, by decide +kernel, by decide +kernel, Or.inr ⟨Or.inr ⟨_, rfl, rfl, by decide⟩, w0m 605 rfl rfl, w0m 8 rfl rfl⟩⟩
theorem fa_49 : jfa 49 := ⟨mo_49, fun q h => ⟨List.all_eq_true.mp ck_49 q h, wo_49 q h⟩⟩
set_option maxRecDepth 100000 in
theorem mo_50 : jmo 50 := ⟨w0m 617 rfl rfl, w0m 69 rfl rfl, by decide +kernel, by decide +kernel, by decide +kernel, by decide +kernel, Or.inr ⟨Or.inr ⟨_, rfl, rfl, by decide⟩, w0m 616 rfl rfl, w0m 9 rfl rfl⟩⟩
theorem fa_50 : jfa 50 := ⟨mo_50, fun q h => ⟨List.all_eq_true.mp ck_50 q h, wo_50 q h⟩⟩
set_option maxRecDepth 100000 in
theorem mo_51 : jmo 51 := ⟨w0m 636 rfl rfl, w0m 69 rfl rfl, by decide +kernel, by decide +kernel, by decide +kernel, by decide +kernel, Or.inr ⟨Or.inr ⟨_, rfl, rfl, by decide⟩, w0m 634 rfl rfl, w0m 635 rfl rfl⟩⟩
theorem fa_51 : jfa 51 := ⟨mo_51, fun q h => ⟨List.all_eq_true.mp ck_51 q h, wo_51 q h⟩⟩
set_option maxRecDepth 100000 in
theorem mo_52 : jmo 52 := ⟨w0m 652 rfl rfl, w0m 69 rfl rfl, by decide +kernel, by decide +kernel, by decide +kernel, by decide +kernel, Or.inr ⟨Or.inr ⟨_, rfl, rfl, by decide⟩, w0m 650 rfl rfl, w0m 651 rfl rfl⟩⟩
theorem fa_52 : jfa 52 := ⟨mo_52, fun q h => ⟨List.all_eq_true.mp ck_52 q h, wo_52 q h⟩⟩
set_option maxRecDepth 100000 in
theorem mo_53 : jmo 53 := ⟨w0m 713 rfl rfl, w0m 69 rfl rfl, by decide +kernel, by decide +kernel, by decide +kernel, by decide +kernel, Or.inr ⟨Or.inr ⟨_, rfl, rfl, by decide⟩, w0m 711 rfl rfl, w0m 712 rfl rfl⟩⟩
theorem fa_53 : jfa 53 := ⟨mo_53, fun q h => ⟨List.all_eq_true.mp ck_53 q h, wo_53 q h⟩⟩
set_option maxRecDepth 100000 in
theorem mo_54 : jmo 54 := ⟨w0m 847 rfl rfl, w0m 69 rfl rfl, by decide +kernel, by decide +kernel, by decide +kernel, by decide +kernel, Or.inr ⟨Or.inr ⟨_, rfl, rfl, by decide⟩, w0m 845 rfl rfl, w0m 846 rfl rfl⟩⟩
theorem fa_54 : jfa 54 := ⟨mo_54, fun q h => ⟨List.all_eq_true.mp ck_54 q h, wo_54 q h⟩⟩
set_option maxRecDepth 100000 in
theorem mo_55 : jmo 55 := ⟨w0m 856 rfl rfl, w0m 69 rfl rfl, by decide +kernel, by decide +kernel, by decide +kernel, by decide +kernel, Or.inr ⟨Or.inr ⟨_, rfl, rfl, by decide⟩, w0m 854 rfl rfl, w0m 855 rfl rfl⟩⟩
theorem fa_55 : jfa 55 := ⟨mo_55, fun q h => ⟨List.all_eq_true.mp ck_55 q h, wo_55 q h⟩⟩
set_option maxRecDepth 100000 in
theorem mo_56 : jmo 56 := ⟨w0m 899 rfl rfl, w0m 69 rfl rfl, by decide +kernel, by decide +kernel, by decide +kernel, by decide +kernel, Or.inr ⟨Or.inr ⟨_, rfl, rfl, by decide⟩, w0m 897 rfl rfl, w0m 898 rfl rfl⟩⟩
theorem fa_56 : jfa 56 := ⟨mo_56, fun q h => ⟨List.all_eq_true.mp ck_56 q h, wo_56 q h⟩⟩
set_option maxRecDepth 100000 in
theorem mo_57 : jmo 57 := ⟨w0m 684 rfl rfl, w0m 70 rfl rfl, by decide +kernel, by decide +kernel, by decide +kernel, by decide +kernel, Or.inr ⟨Or.inr ⟨_, rfl, rfl, by decide⟩, w0m 682 rfl rfl, w0m 683 rfl rfl⟩⟩
theorem fa_57 : jfa 57 := ⟨mo_57, fun q h => ⟨List.all_eq_true.mp ck_57 q h, wo_57 q h⟩⟩
set_option maxRecDepth 100000 in
theorem mo_58 : jmo 58 := ⟨w0m 688 rfl rfl, w0m 70 rfl rfl, by decide +kernel, by decide +kernel, by decide +kernel, by decide +kernel, Or.inr ⟨Or.inr ⟨_, rfl, rfl, by decide⟩, w0m 687 rfl rfl, w0m 10 rfl rfl⟩⟩
theorem fa_58 : jfa 58 := ⟨mo_58, fun q h => ⟨List.all_eq_true.mp ck_58 q h, wo_58 q h⟩⟩
set_option maxRecDepth 100000 in
theorem mo_59 : jmo 59 := ⟨w0m 692 rfl rfl, w0m 70 rfl rfl, by decide +kernel, by decide +kernel, by decide +kernel, by decide +kernel, Or.inr ⟨Or.inr ⟨_, rfl, rfl, by decide⟩, w0m 691 rfl rfl, w0m 11 rfl rfl⟩⟩
theorem fa_59 : jfa 59 := ⟨mo_59, fun q h => ⟨List.all_eq_true.mp ck_59 q h, wo_59 q h⟩⟩
set_option maxRecDepth 100000 in
theorem mo_60 : jmo 60 := ⟨w0m 700 rfl rfl, w0m 70 rfl rfl, by decide +kernel, by decide +kernel, by decide +kernel, by decide +kernel, Or.inr ⟨Or.inr ⟨_, rfl, rfl, by decide⟩, w0m 699 rfl rfl, w0m 12 rfl rfl⟩⟩
theorem fa_60 : jfa 60 := ⟨mo_60, fun q h => ⟨List.all_eq_true.mp ck_60 q h, wo_60 q h⟩⟩
set_option maxRecDepth 100000 in
theorem mo_61 : jmo 61 := ⟨w0m 704 rfl rfl, w0m 70 rfl rfl, by decide +kernel, by decide +kernel, by decide +kernel, by decide +kernel, Or.inr ⟨Or.inr ⟨_, rfl, rfl, by decide⟩, w0m 703 rfl rfl, w0m 13 rfl rfl⟩⟩
theorem fa_61 : jfa 61 := ⟨mo_61, fun q h => ⟨List.all_eq_true.mp ck_61 q h, wo_61 q h⟩⟩
set_option maxRecDepth 100000 in
theorem mo_62 : jmo 62 := ⟨w0m 708 rfl rfl, w0m 70 rfl rfl, by decide +kernel, by decide +kernel, by decide +kernel, by decide +kernel, Or.inr ⟨Or.inr ⟨_, rfl, rfl, by decide⟩, w0m 707 rfl rfl, w0m 14 rfl rfl⟩⟩
theorem fa_62 : jfa 62 := ⟨mo_62, fun q h => ⟨List.all_eq_true.mp ck_62 q h, wo_62 q h⟩⟩
set_option maxRecDepth 100000 in
theorem mo_63 : jmo 63 := ⟨w0m 727 rfl rfl, w0m 71 rfl rfl, by decide +kernel, by decide +kernel, by decide +kernel, by decide +kernel, Or.inl ⟨rfl, w0m 726 rfl rfl⟩⟩
theorem fa_63 : jfa 63 := ⟨mo_63, fun q h => ⟨List.all_eq_true.mp ck_63 q h, wo_63 q h⟩⟩
set_option maxRecDepth 100000 in
theorem mo_64 : jmo 64 := ⟨w0m 738 rfl rfl, w0m 71 rfl rfl, by decide +kernel, by decide +kernel, by decide +kernel, by decide +kernel, Or.inr ⟨Or.inr ⟨_, rfl, rfl, by decide⟩, w0m 736 rfl rfl, w0m 737 rfl rfl⟩⟩
theorem fa_64 : jfa 64 := ⟨mo_64, fun q h => ⟨List.all_eq_true.mp ck_64 q h, wo_64 q h⟩⟩
set_option maxRecDepth 100000 in
theorem mo_65 : jmo 65 := ⟨w0m 742 rfl rfl, w0m 71 rfl rfl, by decide +kernel, by decide +kernel, by decide +kernel, by decide +kernel, Or.inr ⟨Or.inr ⟨_, rfl, rfl, by decide⟩, w0m 741 rfl rfl, w0m 15 rfl rfl⟩⟩
theorem fa_65 : jfa 65 := ⟨mo_65, fun q h => ⟨List.all_eq_true.mp ck_65 q h, wo_65 q h⟩⟩
set_option maxRecDepth 100000 in
theorem mo_66 : jmo 66 := ⟨w0m 748 rfl rfl, w0m 71 rfl rfl, by decide +kernel, by decide +kernel, by decide +kernel, by decide +kernel, Or.inr ⟨Or.inr ⟨_, rfl, rfl, by decide⟩, w0m 747 rfl rfl, w0m 16 rfl rfl⟩⟩
theorem fa_66 : jfa 66 := ⟨mo_66, fun q h => ⟨List.all_eq_true.mp ck_66 q h, wo_66 q h⟩⟩
set_option maxRecDepth 100000 in
theorem mo_67 : jmo 67 := ⟨w0m 760 rfl rfl, w0m 72 rfl rfl, by decide +kernel, by decide +kernel, by decide +kernel, by decide +kernel, Or.inr ⟨Or.inr ⟨_, rfl, rfl, by decide⟩, w0m 758 rfl rfl, w0m 759 rfl rfl⟩⟩
theorem fa_67 : jfa 67 := ⟨mo_67, fun q h => ⟨List.all_eq_true.mp ck_67 q h, wo_67 q h⟩⟩
set_option maxRecDepth 100000 in
theorem mo_68 : jmo 68 := ⟨w0m 764 rfl rfl, w0m 72 rfl rfl, by decide +kernel, by decide +kernel, by decide +kernel, by decide +kernel, Or.inr ⟨Or.inr ⟨_, rfl, rfl, by decide⟩, w0m 763 rfl rfl, w0m 18 rfl rfl⟩⟩
theorem fa_68 : jfa 68 := ⟨mo_68, fun q h => ⟨List.all_eq_true.mp ck_68 q h, wo_68 q h⟩⟩
set_option maxRecDepth 100000 in
theorem mo_69 : jmo 69 := ⟨w0m 768 rfl rfl, w0m 72 rfl rfl, by decide +kernel, by decide +kernel, by decide +kernel, by decide +kernel, Or.inr ⟨Or.inr ⟨_, rfl, rfl, by decide⟩, w0m 767 rfl rfl, w0m 19 rfl rfl⟩⟩
theorem fa_69 : jfa 69 := ⟨mo_69, fun q h => ⟨List.all_eq_true.mp ck_69 q h, wo_69 q h⟩⟩
set_option maxRecDepth 100000 in
theorem mo_70 : jmo 70 := ⟨w0m 775 rfl rfl, w0m 72 rfl rfl, by decide +kernel, by decide +kernel, by decide +kernel, by decide +kernel, Or.inr ⟨Or.inr ⟨_, rfl, rfl, by decide⟩, w0m 773 rfl rfl, w0m 774 rfl rfl⟩⟩
theorem fa_70 : jfa 70 := ⟨mo_70, fun q h => ⟨List.all_eq_true.mp ck_70 q h, wo_70 q h⟩⟩
set_option maxRecDepth 100000 in
theorem mo_71 : jmo 71 := ⟨w0m 779 rfl rfl, w0m 72 rfl rfl, by decide +kernel, by decide +kernel, by decide +kernel, by decide +kernel, Or.inr ⟨Or.inr ⟨_, rfl, rfl, by decide⟩, w0m 777 rfl rfl, w0m 778 rfl rfl⟩⟩
theorem fa_71 : jfa 71 := ⟨mo_71, fun q h => ⟨List.all_eq_true.mp ck_71 q h, wo_71 q h⟩⟩
set_option maxRecDepth 100000 in
theorem mo_72 : jmo 72 := ⟨w0m 816 rfl rfl, w0m 73 rfl rfl, by decide +kernel, by decide +kernel, by decide +kernel, by decide +kernel, Or.inr ⟨Or.inr ⟨_, rfl, rfl, by decide⟩, w0m 814 rfl rfl, w0m 815 rfl rfl⟩⟩
theorem fa_72 : jfa 72 := ⟨mo_72, fun q h => ⟨List.all_eq_true.mp ck_72 q h, wo_72 q h⟩⟩
set_option maxRecDepth 100000 in
theorem mo_73 : jmo 73 := ⟨w0m 820 rfl rfl, w0m 73 rfl rfl, by decide +kernel, by decide +kernel, by decide +kernel, by decide +kernel, Or.inr ⟨Or.inr ⟨_, rfl, rfl, by decide⟩, w0m 819 rfl rfl, w0m 20 rfl rfl⟩⟩
theorem fa_73 : jfa 73 := ⟨mo_73, fun q h => ⟨List.all_eq_true.mp ck_73 q h, wo_73 q h⟩⟩
set_option maxRecDepth 100000 in
theorem mo_74 : jmo 74 := ⟨w0m 832 rfl rfl, w0m 73 rfl rfl, by decide +kernel, by decide +kernel, by decide +kernel, by decide +kernel, Or.inr ⟨Or.inr ⟨_, rfl, rfl, by decide⟩, w0m 830 rfl rfl, w0m 831 rfl rfl⟩⟩
theorem fa_74 : jfa 74 := ⟨mo_74, fun q h => ⟨List.all_eq_true.mp ck_74 q h, wo_74 q h⟩⟩
set_option maxRecDepth 100000 in
theorem mo_75 : jmo 75 := ⟨w0m 864 rfl rfl, w0m 74 rfl rfl, by decide +kernel, by decide +kernel, by decide +kernel, by decide +kernel, Or.inr ⟨Or.inr ⟨_, rfl, rfl, by decide⟩, w0m 862 rfl rfl, w0m 863 rfl rfl⟩⟩
theorem fa_75 : jfa 75 := ⟨mo_75, fun q h => ⟨List.all_eq_true.mp ck_75 q h, wo_75 q h⟩⟩
set_option maxRecDepth 100000 in
theorem mo_76 : jmo 76 := ⟨w0m 868 rfl rfl, w0m 74 rfl rfl, by decide +kernel, by decide +kernel, by decide +kernel, by decide +kernel, Or.inr ⟨Or.inr ⟨_, rfl, rfl, by decide⟩, w0m 867 rfl rfl, w0m 21 rfl rfl⟩⟩
theorem fa_76 : jfa 76 := ⟨mo_76, fun q h => ⟨List.all_eq_true.mp ck_76 q h, wo_76 q h⟩⟩
set_option maxRecDepth 100000 in
theorem mo_77 : jmo 77 := ⟨w0m 873 rfl rfl, w0m 74 rfl rfl, by decide +kernel, by decide +kernel, by decide +kernel, by decide +kernel, Or.inr ⟨Or.inr ⟨_, rfl, rfl, by decide⟩, w0m 872 rfl rfl, w0m 22 rfl rfl⟩⟩
theorem fa_77 : jfa 77 := ⟨mo_77, fun q h => ⟨List.all_eq_true.mp ck_77 q h, wo_77 q h⟩⟩
set_option maxRecDepth 100000 in
theorem mo_78 : jmo 78 := ⟨w0m 877 rfl rfl, w0m 74 rfl rfl, by decide +kernel, by decide +kernel, by decide +kernel, by decide +kernel, Or.inr ⟨Or.inr ⟨_, rfl, rfl, by decide⟩, w0m 876 rfl rfl, w0m 23 rfl rfl⟩⟩
theorem fa_78 : jfa 78 := ⟨mo_78, fun q h => ⟨List.all_eq_true.mp ck_78 q h, wo_78 q h⟩⟩
set_option maxRecDepth 100000 in
theorem mo_79 : jmo 79 := ⟨w0m 881 rfl rfl, w0m 74 rfl rfl, by decide +kernel, by decide +kernel, by decide +kernel, by decide +kernel, Or.inr ⟨Or.inr ⟨_, rfl, rfl, by decide⟩, w0m 879 rfl rfl, w0m 880 rfl rfl⟩⟩
theorem fa_79 : jfa 79 := ⟨mo_79, fun q h => ⟨List.all_eq_true.mp ck_79 q h, wo_79 q h⟩⟩
set_option maxRecDepth 100000 in
theorem mo_80 : jmo 80 := ⟨w0m 885 rfl rfl, w0m 74 rfl rfl, by decide +kernel, by decide +kernel, by decide +kernel, by decide +kernel, Or.inr ⟨Or.inr ⟨_, rfl, rfl, by decide⟩, w0m 883 rfl rfl, w0m 884 rfl rfl⟩⟩
theorem fa_80 : jfa 80 := ⟨mo_80, fun q h => ⟨List.all_eq_true.mp ck_80 q h, wo_80 q h⟩⟩
set_option maxRecDepth 100000 in
theorem mo_81 : jmo 81 := ⟨w0m 891 rfl rfl, w0m 74 rfl rfl, by decide +kernel, by decide +kernel, by decide +kernel, by decide +kernel, Or.inr ⟨Or.inr ⟨_, rfl, rfl, by decide⟩, w0m 890 rfl rfl, w0m 24 rfl rfl⟩⟩
theorem fa_81 : jfa 81 := ⟨mo_81, fun q h => ⟨List.all_eq_true.mp ck_81 q h, wo_81 q h⟩⟩
set_option maxRecDepth 100000 in
theorem mo_82 : jmo 82 := ⟨w0m 460 rfl rfl, w0m 67 rfl rfl, by decide +kernel, by decide +kernel, by decide +kernel, by decide +kernel, Or.inr ⟨Or.inr ⟨_, rfl, rfl, by decide⟩, w0m 458 rfl rfl, w0m 459 rfl rfl⟩⟩
theorem fa_82 : jfa 82 := ⟨mo_82, fun q h => ⟨List.all_eq_true.mp ck_82 q h, wo_82 q h⟩⟩
set_option maxRecDepth 100000 in
theorem mo_83 : jmo 83 := ⟨w0m 468 rfl rfl, w0m 67 rfl rfl, by decide +kernel, by decide +kernel, by decide +kernel, by decide +kernel, Or.inr ⟨Or.inr ⟨_, rfl, rfl, by decide⟩, w0m 466 rfl rfl, w0m 467 rfl rfl⟩⟩
theorem fa_83 : jfa 83 := ⟨mo_83, fun q h => ⟨List.all_eq_true.mp ck_83 q h, wo_83 q h⟩⟩
set_option maxRecDepth 100000 in
theorem mo_84 : jmo 84 := ⟨w0m 476 rfl rfl, w0m 67 rfl rfl, by decide +kernel, by decide +kernel, by decide +kernel, by decide +kernel, Or.inr ⟨Or.inr ⟨_, rfl, rfl, by decide⟩, w0m 474 rfl rfl, w0m 475 rfl rfl⟩⟩
theorem fa_84 : jfa 84 := ⟨mo_84, fun q h => ⟨List.all_eq_true.mp ck_84 q h, wo_84 q h⟩⟩
set_option maxRecDepth 100000 in
theorem mo_85 : jmo 85 := ⟨w0m 487 rfl rfl, w0m 67 rfl rfl, by decide +kernel, by decide +kernel, by decide +kernel, by decide +kernel, Or.inr ⟨Or.inr ⟨_, rfl, rfl, by decide⟩, w0m 486 rfl rfl, w0m 2 rfl rfl⟩⟩
theorem fa_85 : jfa 85 := ⟨mo_85, fun q h => ⟨List.all_eq_true.mp ck_85 q h, wo_85 q h⟩⟩
set_option maxRecDepth 100000 in
theorem mo_86 : jmo 86 := ⟨w0m 490 rfl rfl, w0m 67 rfl rfl, by decide +kernel, by decide +kernel, by decide +kernel, by decide +kernel, Or.inl ⟨rfl, w0m 489 rfl rfl⟩⟩
theorem fa_86 : jfa 86 := ⟨mo_86, fun q h => ⟨List.all_eq_true.mp ck_86 q h, wo_86 q h⟩⟩
set_option maxRecDepth 100000 in
theorem mo_87 : jmo 87 := ⟨w0m 494 rfl rfl, w0m 67 rfl rfl, by decide +kernel, by decide +kernel, by decide +kernel, by decide +kernel, Or.inr ⟨Or.inr ⟨_, rfl, rfl, by decide⟩, w0m 493 rfl rfl, w0m 3 rfl rfl⟩⟩
theorem fa_87 : jfa 87 := ⟨mo_87, fun q h => ⟨List.all_eq_true.mp ck_87 q h, wo_87 q h⟩⟩
set_option maxRecDepth 100000 in
theorem mo_88 : jmo 88 := ⟨w0m 497 rfl rfl, w0m 67 rfl rfl, by decide +kernel, by decide +kernel, by decide +kernel, by decide +kernel, Or.inl ⟨rfl, w0m 496 rfl rfl⟩⟩
theorem fa_88 : jfa 88 := ⟨mo_88, fun q h => ⟨List.all_eq_true.mp ck_88 q h, wo_88 q h⟩⟩
set_option maxRecDepth 100000 in
theorem mo_89 : jmo 89 := ⟨w0m 507 rfl rfl, w0m 67 rfl rfl, by decide +kernel, by decide +kernel, by decide +kernel, by decide +kernel, Or.inr ⟨Or.inr ⟨_, rfl, rfl, by decide⟩, w0m 506 rfl rfl, w0m 4 rfl rfl⟩⟩
theorem fa_89 : jfa 89 := ⟨mo_89, fun q h => ⟨List.all_eq_true.mp ck_89 q h, wo_89 q h⟩⟩
set_option maxRecDepth 100000 in
theorem mo_90 : jmo 90 := ⟨w0m 558 rfl rfl, w0m 67 rfl rfl, by decide +kernel, by decide +kernel, by decide +kernel, by decide +kernel, Or.inl ⟨rfl, w0m 557 rfl rfl⟩⟩
theorem fa_90 : jfa 90 := ⟨mo_90, fun q h => ⟨List.all_eq_true.mp ck_90 q h, wo_90 q h⟩⟩
set_option maxRecDepth 100000 in
theorem mo_91 : jmo 91 := ⟨w0m 562 rfl rfl, w0m 67 rfl rfl, by decide +kernel, by decide +kernel, by decide +kernel, by decide +kernel, Or.inr ⟨Or.inr ⟨_, rfl, rfl, by decide⟩, w0m 561 rfl rfl, w0m 5 rfl rfl⟩⟩
theorem fa_91 : jfa 91 := ⟨mo_91, fun q h => ⟨List.all_eq_true.mp ck_91 q h, wo_91 q h⟩⟩
set_option maxRecDepth 100000 in
theorem mo_92 : jmo 92 := ⟨w0m 566 rfl rfl, w0m 67 rfl rfl, by decide +kernel, by decide +kernel, by decide +kernel, by decide +kernel, Or.inr ⟨Or.inr ⟨_, rfl, rfl, by decide⟩, w0m 565 rfl rfl, w0m 6 rfl rfl⟩⟩
theorem fa_92 : jfa 92 := ⟨mo_92, fun q h => ⟨List.all_eq_true.mp ck_92 q h, wo_92 q h⟩⟩
set_option maxRecDepth 100000 in
theorem mo_93 : jmo 93 := ⟨w0m 572 rfl rfl, w0m 67 rfl rfl, by decide +kernel, by decide +kernel, by decide +kernel, by decide +kernel, Or.inr ⟨Or.inr ⟨_, rfl, rfl, by decide⟩, w0m 571 rfl rfl, w0m 7 rfl rfl⟩⟩
theorem fa_93 : jfa 93 := ⟨mo_93, fun q h => ⟨List.all_eq_true.mp ck_93 q h, wo_93 q h⟩⟩
set_option maxRecDepth 100000 in
theorem mo_94 : jmo 94 := ⟨w0m 358 rfl rfl, w0m 65 rfl rfl, by decide +kernel, by decide +kernel, by decide +kernel, by decide +kernel, Or.inr ⟨Or.inr ⟨_, rfl, rfl, by decide⟩, w0m 356 rfl rfl, w0m 357 rfl rfl⟩⟩
theorem fa_94 : jfa 94 := ⟨mo_94, fun q h => ⟨List.all_eq_true.mp ck_94 q h, wo_94 q h⟩⟩
set_option maxRecDepth 100000 in
theorem mo_95 : jmo 95 := ⟨w0m 368 rfl rfl, w0m 65 rfl rfl, by decide +kernel, by decide +kernel, by decide +kernel, by decide +kernel, Or.inl ⟨rfl, w0m 367 rfl rfl⟩⟩
theorem fa_95 : jfa 95 := ⟨mo_95, fun q h => ⟨List.all_eq_true.mp ck_95 q h, wo_95 q h⟩⟩
set_option maxRecDepth 100000 in
theorem mo_96 : jmo 96 := ⟨w0m 372 rfl rfl, w0m 65 rfl rfl, by decide +kernel, by decide +kernel, by decide +kernel, by decide +kernel, Or.inr ⟨Or.inr ⟨_, rfl, rfl, by decide⟩, w0m 371 rfl rfl, w0m 0 rfl rfl⟩⟩
theorem fa_96 : jfa 96 := ⟨mo_96, fun q h => ⟨List.all_eq_true.mp ck_96 q h, wo_96 q h⟩⟩
set_option maxRecDepth 100000 in
theorem mo_97 : jmo 97 := ⟨w0m 376 rfl rfl, w0m 65 rfl rfl, by decide +kernel, by decide +kernel, by decide +kernel, by decide +kernel, Or.inr ⟨Or.inr ⟨_, rfl, rfl, by decide⟩, w0m 374 rfl rfl, w0m 375 rfl rfl⟩⟩
theorem fa_97 : jfa 97 := ⟨mo_97, fun q h => ⟨List.all_eq_true.mp ck_97 q h, wo_97 q h⟩⟩
set_option maxRecDepth 100000 in
theorem mo_98 : jmo 98 := ⟨w0m 384 rfl rfl, w0m 65 rfl rfl, by decide +kernel, by decide +kernel, by decide +kernel, by decide +kernel, Or.inr ⟨Or.inr ⟨_, rfl, rfl, by decide⟩, w0m 382 rfl rfl, w0m 383 rfl rfl⟩⟩
theorem fa_98 : jfa 98 := ⟨mo_98, fun q h => ⟨List.all_eq_true.mp ck_98 q h, wo_98 q h⟩⟩
set_option maxRecDepth 100000 in
theorem mo_99 : jmo 99 := ⟨w0m 395 rfl rfl, w0m 65 rfl rfl, by decide +kernel, by decide +kernel, by decide +kernel, by decide +kernel, Or.inr ⟨Or.inr ⟨_, rfl, rfl, by decide⟩, w0m 393 rfl rfl, w0m 394 rfl rfl⟩⟩
theorem fa_99 : jfa 99 := ⟨mo_99, fun q h => ⟨List.all_eq_true.mp ck_99 q h, wo_99 q h⟩⟩
set_option maxRecDepth 100000 in
theorem mo_100 : jmo 100 := ⟨w0m 407 rfl rfl, w0m 65 rfl rfl, by decide +kernel, by decide +kernel, by decide +kernel, by decide +kernel, Or.inr ⟨Or.inr ⟨_, rfl, rfl, by decide⟩, w0m 405 rfl rfl, w0m 406 rfl rfl⟩⟩
theorem fa_100 : jfa 100 := ⟨mo_100, fun q h => ⟨List.all_eq_true.mp ck_100 q h, wo_100 q h⟩⟩
set_option maxRecDepth 100000 in
theorem mo_101 : jmo 101 := ⟨w0m 415 rfl rfl, w0m 65 rfl rfl, by decide +kernel, by decide +kernel, by decide +kernel, by decide +kernel, Or.inr ⟨Or.inr ⟨_, rfl, rfl, by decide⟩, w0m 413 rfl rfl, w0m 414 rfl rfl⟩⟩
theorem fa_101 : jfa 101 := ⟨mo_101, fun q h => ⟨List.all_eq_true.mp ck_101 q h, wo_101 q h⟩⟩
set_option maxRecDepth 100000 in
theorem mo_102 : jmo 102 := ⟨w0m 427 rfl rfl, w0m 65 rfl rfl, by decide +kernel, by decide +kernel, by decide +kernel, by decide +kernel, Or.inr ⟨Or.inr ⟨_, rfl, rfl, by decide⟩, w0m 425 rfl rfl, w0m 426 rfl rfl⟩⟩
theorem fa_102 : jfa 102 := ⟨mo_102, fun q h => ⟨List.all_eq_true.mp ck_102 q h, wo_102 q h⟩⟩
set_option maxRecDepth 100000 in
theorem mo_103 : jmo 103 := ⟨w0m 435 rfl rfl, w0m 65 rfl rfl, by decide +kernel, by decide +kernel, by decide +kernel, by decide +kernel, Or.inr ⟨Or.inr ⟨_, rfl, rfl, by decide⟩, w0m 433 rfl rfl, w0m 434 rfl rfl⟩⟩
theorem fa_103 : jfa 103 := ⟨mo_103, fun q h => ⟨List.all_eq_true.mp ck_103 q h, wo_103 q h⟩⟩
set_option maxRecDepth 100000 in
theorem mo_104 : jmo 104 := ⟨w0m 456 rfl rfl, w0m 65 rfl rfl, by decide +kernel, by decide +kernel, by decide +kernel, by decide +kernel, Or.inr ⟨Or.inr ⟨_, rfl, rfl, by decide⟩, w0m 454 rfl rfl, w0m 455 rfl rfl⟩⟩
theorem fa_104 : jfa 104 := ⟨mo_104, fun q h => ⟨List.all_eq_true.mp ck_104 q h, wo_104 q h⟩⟩
set_option maxRecDepth 100000 in
theorem mo_105 : jmo 105 := ⟨w0m 464 rfl rfl, w0m 65 rfl rfl, by decide +kernel, by decide +kernel, by decide +kernel, by decide +kernel, Or.inr ⟨Or.inr ⟨_, rfl, rfl, by decide⟩, w0m 462 rfl rfl, w0m 463 rfl rfl⟩⟩
theorem fa_105 : jfa 105 := ⟨mo_105, fun q h => ⟨List.all_eq_true.mp ck_105 q h, wo_105 q h⟩⟩
set_option maxRecDepth 100000 in
theorem mo_106 : jmo 106 := ⟨w0m 472 rfl rfl, w0m 65 rfl rfl, by decide +kernel, by decide +kernel, by decide +kernel, by decide +kernel, Or.inr ⟨Or.inr ⟨_, rfl, rfl, by decide⟩, w0m 470 rfl rfl, w0m 471 rfl rfl⟩⟩
theorem fa_106 : jfa 106 := ⟨mo_106, fun q h => ⟨List.all_eq_true.mp ck_106 q h, wo_106 q h⟩⟩
set_option maxRecDepth 100000 in
theorem mo_107 : jmo 107 := ⟨w0m 593 rfl rfl, w0m 65 rfl rfl, by decide +kernel, by decide +kernel, by decide +kernel, by decide +kernel, Or.inr ⟨Or.inr ⟨_, rfl, rfl, by decide⟩, w0m 591 rfl rfl, w0m 592 rfl rfl⟩⟩
theorem fa_107 : jfa 107 := ⟨mo_107, fun q h => ⟨List.all_eq_true.mp ck_107 q h, wo_107 q h⟩⟩
set_option maxRecDepth 100000 in
theorem mo_108 : jmo 108 := ⟨w0m 627 rfl rfl, w0m 65 rfl rfl, by decide +kernel, by decide +kernel, by decide +kernel, by decide +kernel, Or.inr ⟨Or.inr ⟨_, rfl, rfl, by decide⟩, w0m 625 rfl rfl, w0m 626 rfl rfl⟩⟩
theorem fa_108 : jfa 108 := ⟨mo_108, fun q h => ⟨List.all_eq_true.mp ck_108 q h, wo_108 q h⟩⟩
set_option maxRecDepth 100000 in
theorem mo_109 : jmo 109 := ⟨w0m 640 rfl rfl, w0m 65 rfl rfl, by decide +kernel, by decide +kernel, by decide +kernel, by decide +kernel, Or.inr ⟨Or.inr ⟨_, rfl, rfl, by decide⟩, w0m 638 rfl rfl, w0m 639 rfl rfl⟩⟩
theorem fa_109 : jfa 109 := ⟨mo_109, fun q h => ⟨List.all_eq_true.mp ck_109 q h, wo_109 q h⟩⟩
set_option maxRecDepth 100000 in
theorem mo_110 : jmo 110 := ⟨w0m 648 rfl rfl, w0m 65 rfl rfl, by decide +kernel, by decide +kernel, by decide +kernel, by decide +kernel, Or.inr ⟨Or.inr ⟨_, rfl, rfl, by decide⟩, w0m 646 rfl rfl, w0m 647 rfl rfl⟩⟩
theorem fa_110 : jfa 110 := ⟨mo_110, fun q h => ⟨List.all_eq_true.mp ck_110 q h, wo_110 q h⟩⟩
set_option maxRecDepth 100000 in
theorem mo_111 : jmo 111 := ⟨w0m 663 rfl rfl, w0m 65 rfl rfl, by decide +kernel, by decide +kernel, by decide +kernel, by decide +kernel, Or.inr ⟨Or.inr ⟨_, rfl, rfl, by decide⟩, w0m 661 rfl rfl, w0m 662 rfl rfl⟩⟩
theorem fa_111 : jfa 111 := ⟨mo_111, fun q h => ⟨List.all_eq_true.mp ck_111 q h, wo_111 q h⟩⟩
set_option maxRecDepth 100000 in
theorem mo_112 : jmo 112 := ⟨w0m 672 rfl rfl, w0m 65 rfl rfl, by decide +kernel, by decide +kernel, by decide +kernel, by decide +kernel, Or.inr ⟨Or.inr ⟨_, rfl, rfl, by decide⟩, w0m 670 rfl rfl, w0m 671 rfl rfl⟩⟩
theorem fa_112 : jfa 112 := ⟨mo_112, fun q h => ⟨List.all_eq_true.mp ck_112 q h, wo_112 q h⟩⟩
set_option maxRecDepth 100000 in
theorem mo_113 : jmo 113 := ⟨w0m 680 rfl rfl, w0m 65 rfl rfl, by decide +kernel, by decide +kernel, by decide +kernel, by decide +kernel, Or.inr ⟨Or.inr ⟨_, rfl, rfl, by decide⟩, w0m 678 rfl rfl, w0m 679 rfl rfl⟩⟩
theorem fa_113 : jfa 113 := ⟨mo_113, fun q h => ⟨List.all_eq_true.mp ck_113 q h, wo_113 q h⟩⟩
set_option maxRecDepth 100000 in
theorem mo_114 : jmo 114 := ⟨w0m 717 rfl rfl, w0m 65 rfl rfl, by decide +kernel, by decide +kernel, by decide +kernel, by decide +kernel, Or.inr ⟨Or.inr ⟨_, rfl, rfl, by decide⟩, w0m 715 rfl rfl, w0m 716 rfl rfl⟩⟩
theorem fa_114 : jfa 114 := ⟨mo_114, fun q h => ⟨List.all_eq_true.mp ck_114 q h, wo_114 q h⟩⟩
set_option maxRecDepth 100000 in
theorem mo_115 : jmo 115 := ⟨w0m 721 rfl rfl, w0m 65 rfl rfl, by decide +kernel, by decide +kernel, by decide +kernel, by decide +kernel, Or.inr ⟨Or.inr ⟨_, rfl, rfl, by decide⟩, w0m 719 rfl rfl, w0m 720 rfl rfl⟩⟩
theorem fa_115 : jfa 115 := ⟨mo_115, fun q h => ⟨List.all_eq_true.mp ck_115 q h, wo_115 q h⟩⟩
set_option maxRecDepth 100000 in
theorem mo_116 : jmo 116 := ⟨w0m 724 rfl rfl, w0m 65 rfl rfl, by decide +kernel, by decide +kernel, by decide +kernel, by decide +kernel, Or.inl ⟨rfl, w0m 723 rfl rfl⟩⟩
theorem fa_116 : jfa 116 := ⟨mo_116, fun q h => ⟨List.all_eq_true.mp ck_116 q h, wo_116 q h⟩⟩
set_option maxRecDepth 100000 in
theorem mo_117 : jmo 117 := ⟨w0m 734 rfl rfl, w0m 65 rfl rfl, by decide +kernel, by decide +kernel, by decide +kernel, by decide +kernel, Or.inr ⟨Or.inr ⟨_, rfl, rfl, by decide⟩, w0m 732 rfl rfl, w0m 733 rfl rfl⟩⟩
theorem fa_117 : jfa 117 := ⟨mo_117, fun q h => ⟨List.all_eq_true.mp ck_117 q h, wo_117 q h⟩⟩
set_option maxRecDepth 100000 in
theorem mo_118 : jmo 118 := ⟨w0m 752 rfl rfl, w0m 65 rfl rfl, by decide +kernel, by decide +kernel, by decide +kernel, by decide +kernel, Or.inr ⟨Or.inr ⟨_, rfl, rfl, by decide⟩, w0m 750 rfl rfl, w0m 751 rfl rfl⟩⟩
theorem fa_118 : jfa 118 := ⟨mo_118, fun q h => ⟨List.all_eq_true.mp ck_118 q h, wo_118 q h⟩⟩
set_option maxRecDepth 100000 in
theorem mo_119 : jmo 119 := ⟨w0m 756 rfl rfl, w0m 65 rfl rfl, by decide +kernel, by decide +kernel, by decide +kernel, by decide +kernel, Or.inr ⟨Or.inr ⟨_, rfl, rfl, by decide⟩, w0m 755 rfl rfl, w0m 17 rfl rfl⟩⟩
theorem fa_119 : jfa 119 := ⟨mo_119, fun q h => ⟨List.all_eq_true.mp ck_119 q h, wo_119 q h⟩⟩
set_option maxRecDepth 100000 in
theorem mo_120 : jmo 120 := ⟨w0m 783 rfl rfl, w0m 65 rfl rfl, by decide +kernel, by decide +kernel, by decide +kernel, by decide +kernel, Or.inr ⟨Or.inr ⟨_, rfl, rfl, by decide⟩, w0m 781 rfl rfl, w0m 782 rfl rfl⟩⟩
theorem fa_120 : jfa 120 := ⟨mo_120, fun q h => ⟨List.all_eq_true.mp ck_120 q h, wo_120 q h⟩⟩
set_option maxRecDepth 100000 in
theorem mo_121 : jmo 121 := ⟨w0m 792 rfl rfl, w0m 65 rfl rfl, by decide +kernel, by decide +kernel, by decide +kernel, by decide +kernel, Or.inr ⟨Or.inr ⟨_, rfl, rfl, by decide⟩, w0m 790 rfl rfl, w0m 791 rfl rfl⟩⟩
theorem fa_121 : jfa 121 := ⟨mo_121, fun q h => ⟨List.all_eq_true.mp ck_121 q h, wo_121 q h⟩⟩
set_option maxRecDepth 100000 in
theorem mo_122 : jmo 122 := ⟨w0m 800 rfl rfl, w0m 65 rfl rfl, by decide +kernel, by decide +kernel, by decide +kernel, by decide +kernel, Or.inr ⟨Or.inr ⟨_, rfl, rfl, by decide⟩, w0m 798 rfl rfl, w0m 799 rfl rfl⟩⟩
theorem fa_122 : jfa 122 := ⟨mo_122, fun q h => ⟨List.all_eq_true.mp ck_122 q h, wo_122 q h⟩⟩
set_option maxRecDepth 100000 in
theorem mo_123 : jmo 123 := ⟨w0m 812 rfl rfl, w0m 65 rfl rfl, by decide +kernel, by decide +kernel, by decide +kernel, by decide +kernel, Or.inr ⟨Or.inr ⟨_, rfl, rfl, by decide⟩, w0m 810 rfl rfl, w0m 811 rfl rfl⟩⟩
theorem fa_123 : jfa 123 := ⟨mo_123, fun q h => ⟨List.all_eq_true.mp ck_123 q h, wo_123 q h⟩⟩
set_option maxRecDepth 100000 in
theorem mo_124 : jmo 124 := ⟨w0m 828 rfl rfl, w0m 65 rfl rfl, by decide +kernel, by decide +kernel, by decide +kernel, by decide +kernel, Or.inr ⟨Or.inr ⟨_, rfl, rfl, by decide⟩, w0m 826 rfl rfl, w0m 827 rfl rfl⟩⟩
theorem fa_124 : jfa 124 := ⟨mo_124, fun q h => ⟨List.all_eq_true.mp ck_124 q h, wo_124 q h⟩⟩
set_option maxRecDepth 100000 in
theorem mo_125 : jmo 125 := ⟨w0m 843 rfl rfl, w0m 65 rfl rfl, by decide +kernel, by decide +kernel, by decide +kernel, by decide +kernel, Or.inr ⟨Or.inr ⟨_, rfl, rfl, by decide⟩, w0m 841 rfl rfl, w0m 842 rfl rfl⟩⟩
theorem fa_125 : jfa 125 := ⟨mo_125, fun q h => ⟨List.all_eq_true.mp ck_125 q h, wo_125 q h⟩⟩
set_option maxRecDepth 100000 in
theorem mo_126 : jmo 126 := ⟨w0m 851 rfl rfl, w0m 65 rfl rfl, by decide +kernel, by decide +kernel, by decide +kernel, by decide +kernel, Or.inr ⟨Or.inr ⟨_, rfl, rfl, by decide⟩, w0m 849 rfl rfl, w0m 850 rfl rfl⟩⟩
theorem fa_126 : jfa 126 := ⟨mo_126, fun q h => ⟨List.all_eq_true.mp ck_126 q h, wo_126 q h⟩⟩
set_option maxRecDepth 100000 in
theorem mo_127 : jmo 127 := ⟨w0m 860 rfl rfl, w0m 65 rfl rfl, by decide +kernel, by decide +kernel, by decide +kernel, by decide +kernel, Or.inr ⟨Or.inr ⟨_, rfl, rfl, by decide⟩, w0m 858 rfl rfl, w0m 859 rfl rfl⟩⟩
theorem fa_127 : jfa 127 := ⟨mo_127, fun q h => ⟨List.all_eq_true.mp ck_127 q h, wo_127 q h⟩⟩
set_option maxRecDepth 100000 in
theorem mo_128 : jmo 128 := ⟨w0m 895 rfl rfl, w0m 65 rfl rfl, by decide +kernel, by decide +kernel, by decide +kernel, by decide +kernel, Or.inr ⟨Or.inr ⟨_, rfl, rfl, by decide⟩, w0m 893 rfl rfl, w0m 894 rfl rfl⟩⟩
theorem fa_128 : jfa 128 := ⟨mo_128, fun q h => ⟨List.all_eq_true.mp ck_128 q h, wo_128 q h⟩⟩
set_option maxRecDepth 100000 in
theorem mo_129 : jmo 129 := ⟨w0m 914 rfl rfl, w0m 65 rfl rfl, by decide +kernel, by decide +kernel, by decide +kernel, by decide +kernel, Or.inr ⟨Or.inr ⟨_, rfl, rfl, by decide⟩, w0m 912 rfl rfl, w0m 913 rfl rfl⟩⟩
theorem fa_129 : jfa 129 := ⟨mo_129, fun q h => ⟨List.all_eq_true.mp ck_129 q h, wo_129 q h⟩⟩
set_option maxRecDepth 100000 in
theorem mo_130 : jmo 130 := ⟨w0m 918 rfl rfl, w0m 65 rfl rfl, by decide +kernel, by decide +kernel, by decide +kernel, by decide +kernel, Or.inr ⟨Or.inr ⟨_, rfl, rfl, by decide⟩, w0m 916 rfl rfl, w0m 917 rfl rfl⟩⟩
theorem fa_130 : jfa 130 := ⟨mo_130, fun q h => ⟨List.all_eq_true.mp ck_130 q h, wo_130 q h⟩⟩
set_option maxRecDepth 100000 in
theorem mo_131 : jmo 131 := ⟨w0m 921 rfl rfl, w0m 65 rfl rfl, by decide +kernel, by decide +kernel, by decide +kernel, by decide +kernel, Or.inl ⟨rfl, w0m 920 rfl rfl⟩⟩
theorem fa_131 : jfa 131 := ⟨mo_131, fun q h => ⟨List.all_eq_true.mp ck_131 q h, wo_131 q h⟩⟩
set_option maxRecDepth 100000 in
theorem mo_132 : jmo 132 := ⟨w0m 925 rfl rfl, w0m 65 rfl rfl, by decide +kernel, by decide +kernel, by decide +kernel, by decide +kernel, Or.inr ⟨Or.inr ⟨_, rfl, rfl, by decide⟩, w0m 923 rfl rfl, w0m 924 rfl rfl⟩⟩
theorem fa_132 : jfa 132 := ⟨mo_132, fun q h => ⟨List.all_eq_true.mp ck_132 q h, wo_132 q h⟩⟩
set_option maxRecDepth 100000 in
theorem mo_133 : jmo 133 := ⟨w0m 929 rfl rfl, w0m 65 rfl rfl, by decide +kernel, by decide +kernel, by decide +kernel, by decide +kernel, Or.inr ⟨Or.inr ⟨_, rfl, rfl, by decide⟩, w0m 927 rfl rfl, w0m 928 rfl rfl⟩⟩
theorem fa_133 : jfa 133 := ⟨mo_133, fun q h => ⟨List.all_eq_true.mp ck_133 q h, wo_133 q h⟩⟩
set_option maxRecDepth 100000 in
theorem mo_134 : jmo 134 := ⟨w0m 933 rfl rfl, w0m 65 rfl rfl, by decide +kernel, by decide +kernel, by decide +kernel, by decide +kernel, Or.inr ⟨Or.inr ⟨_, rfl, rfl, by decide⟩, w0m 931 rfl rfl, w0m 932 rfl rfl⟩⟩
theorem fa_134 : jfa 134 := ⟨mo_134, fun q h => ⟨List.all_eq_true.mp ck_134 q h, wo_134 q h⟩⟩
set_option maxRecDepth 100000 in
theorem mo_135 : jmo 135 := ⟨w0m 937 rfl rfl, w0m 65 rfl rfl, by decide +kernel, by decide +kernel, by decide +kernel, by decide +kernel, Or.inr ⟨Or.inr ⟨_, rfl, rfl, by decide⟩, w0m 936 rfl rfl, w0m 26 rfl rfl⟩⟩
theorem fa_135 : jfa 135 := ⟨mo_135, fun q h => ⟨List.all_eq_true.mp ck_135 q h, wo_135 q h⟩⟩
set_option maxRecDepth 100000 in
theorem mo_136 : jmo 136 := ⟨w0m 941 rfl rfl, w0m 65 rfl rfl, by decide +kernel, by decide +kernel, by decide +kernel, by decide +kernel, Or.inr ⟨Or.inr ⟨_, rfl, rfl, by decide⟩, w0m 939 rfl rfl, w0m 940 rfl rfl⟩⟩
theorem fa_136 : jfa 136 := ⟨mo_136, fun q h => ⟨List.all_eq_true.mp ck_136 q h, wo_136 q h⟩⟩
set_option maxRecDepth 100000 in
theorem mo_137 : jmo 137 := ⟨w0m 1033 rfl rfl, w0m 75 rfl rfl, by decide +kernel, by decide +kernel, by decide +kernel, by decide +kernel, Or.inr ⟨Or.inr ⟨_, rfl, rfl, by decide⟩, w0m 1031 rfl rfl, w0m 1032 rfl rfl⟩⟩
theorem fa_137 : jfa 137 := ⟨mo_137, fun q h => ⟨List.all_eq_true.mp ck_137 q h, wo_137 q h⟩⟩
set_option maxRecDepth 100000 in
theorem mo_138 : jmo 138 := ⟨w0m 1037 rfl rfl, w0m 75 rfl rfl, by decide +kernel, by decide +kernel, by decide +kernel, by decide +kernel, Or.inr ⟨Or.inr ⟨_, rfl, rfl, by decide⟩, w0m 1036 rfl rfl, w0m 28 rfl rfl⟩⟩
theorem fa_138 : jfa 138 := ⟨mo_138, fun q h => ⟨List.all_eq_true.mp ck_138 q h, wo_138 q h⟩⟩
set_option maxRecDepth 100000 in
theorem mo_139 : jmo 139 := ⟨w0m 1040 rfl rfl, w0m 75 rfl rfl, by decide +kernel, by decide +kernel, by decide +kernel, by decide +kernel, Or.inl ⟨rfl, w0m 1039 rfl rfl⟩⟩
theorem fa_139 : jfa 139 := ⟨mo_139, fun q h => ⟨List.all_eq_true.mp ck_139 q h, wo_139 q h⟩⟩
set_option maxRecDepth 100000 in
theorem mo_140 : jmo 140 := ⟨w0m 1044 rfl rfl, w0m 75 rfl rfl, by decide +kernel, by decide +kernel, by decide +kernel, by decide +kernel, Or.inl ⟨rfl, w0m 1043 rfl rfl⟩⟩
theorem fa_140 : jfa 140 := ⟨mo_140, fun q h => ⟨List.all_eq_true.mp ck_140 q h, wo_140 q h⟩⟩
set_option maxRecDepth 100000 in
theorem mo_141 : jmo 141 := ⟨w0m 1048 rfl rfl, w0m 75 rfl rfl, by decide +kernel, by decide +kernel, by decide +kernel, by decide +kernel, Or.inr ⟨Or.inr ⟨_, rfl, rfl, by decide⟩, w0m 1047 rfl rfl, w0m 29 rfl rfl⟩⟩
theorem fa_141 : jfa 141 := ⟨mo_141, fun q h => ⟨List.all_eq_true.mp ck_141 q h, wo_141 q h⟩⟩
set_option maxRecDepth 100000 in
theorem mo_142 : jmo 142 := ⟨w0m 1052 rfl rfl, w0m 75 rfl rfl, by decide +kernel, by decide +kernel, by decide +kernel, by decide +kernel, Or.inr ⟨Or.inr ⟨_, rfl, rfl, by decide⟩, w0m 1050 rfl rfl, w0m 1051 rfl rfl⟩⟩
theorem fa_142 : jfa 142 := ⟨mo_142, fun q h => ⟨List.all_eq_true.mp ck_142 q h, wo_142 q h⟩⟩
set_option maxRecDepth 100000 in
theorem mo_143 : jmo 143 := ⟨w0m 1056 rfl rfl, w0m 75 rfl rfl, by decide +kernel, by decide +kernel, by decide +kernel, by decide +kernel, Or.inr ⟨Or.inr ⟨_, rfl, rfl, by decide⟩, w0m 1054 rfl rfl, w0m 1055 rfl rfl⟩⟩
theorem fa_143 : jfa 143 := ⟨mo_143, fun q h => ⟨List.all_eq_true.mp ck_143 q h, wo_143 q h⟩⟩
set_option maxRecDepth 100000 in
theorem mo_144 : jmo 144 := ⟨w0m 1060 rfl rfl, w0m 75 rfl rfl, by decide +kernel, by decide +kernel, by decide +kernel, by decide +kernel, Or.inr ⟨Or.inr ⟨_, rfl, rfl, by decide⟩, w0m 1059 rfl rfl, w0m 30 rfl rfl⟩⟩
theorem fa_144 : jfa 144 := ⟨mo_144, fun q h => ⟨List.all_eq_true.mp ck_144 q h, wo_144 q h⟩⟩
set_option maxRecDepth 100000 in
theorem mo_145 : jmo 145 := ⟨w0m 1065 rfl rfl, w0m 75 rfl rfl, by decide +kernel, by decide +kernel, by decide +kernel, by decide +kernel, Or.inr ⟨Or.inr ⟨_, rfl, rfl, by decide⟩, w0m 1063 rfl rfl, w0m 1064 rfl rfl⟩⟩
theorem fa_145 : jfa 145 := ⟨mo_145, fun q h => ⟨List.all_eq_true.mp ck_145 q h, wo_145 q h⟩⟩
set_option maxRecDepth 100000 in
theorem mo_146 : jmo 146 := ⟨w0m 1069 rfl rfl, w0m 75 rfl rfl, by decide +kernel, by decide +kernel, by decide +kernel, by decide +kernel, Or.inr ⟨Or.inr ⟨_, rfl, rfl, by decide⟩, w0m 1068 rfl rfl, w0m 31 rfl rfl⟩⟩
theorem fa_146 : jfa 146 := ⟨mo_146, fun q h => ⟨List.all_eq_true.mp ck_146 q h, wo_146 q h⟩⟩
set_option maxRecDepth 100000 in
theorem mo_147 : jmo 147 := ⟨w0m 1073 rfl rfl, w0m 75 rfl rfl, by decide +kernel, by decide +kernel, by decide +kernel, by decide +kernel, Or.inr ⟨Or.inr ⟨_, rfl, rfl, by decide⟩, w0m 1072 rfl rfl, w0m 32 rfl rfl⟩⟩
theorem fa_147 : jfa 147 := ⟨mo_147, fun q h => ⟨List.all_eq_true.mp ck_147 q h, wo_147 q h⟩⟩
set_option maxRecDepth 100000 in
theorem mo_148 : jmo 148 := ⟨w0m 1077 rfl rfl, w0m 75 rfl rfl, by decide +kernel, by decide +kernel, by decide +kernel, by decide +kernel, Or.inr ⟨Or.inr ⟨_, rfl, rfl, by decide⟩, w0m 1075 rfl rfl, w0m 1076 rfl rfl⟩⟩
theorem fa_148 : jfa 148 := ⟨mo_148, fun q h => ⟨List.all_eq_true.mp ck_148 q h, wo_148 q h⟩⟩
set_option maxRecDepth 100000 in
theorem mo_149 : jmo 149 := ⟨w0m 1081 rfl rfl, w0m 75 rfl rfl, by decide +kernel, by decide +kernel, by decide +kernel, by decide +kernel, Or.inr ⟨Or.inr ⟨_, rfl, rfl, by decide⟩, w0m 1079 rfl rfl, w0m 1080 rfl rfl⟩⟩
theorem fa_149 : jfa 149 := ⟨mo_149, fun q h => ⟨List.all_eq_true.mp ck_149 q h, wo_149 q h⟩⟩
set_option maxRecDepth 100000 in
theorem mo_150 : jmo 150 := ⟨w0m 1085 rfl rfl, w0m 75 rfl rfl, by decide +kernel, by decide +kernel, by decide +kernel, by decide +kernel, Or.inr ⟨Or.inr ⟨_, rfl, rfl, by decide⟩, w0m 1084 rfl rfl, w0m 33 rfl rfl⟩⟩
theorem fa_150 : jfa 150 := ⟨mo_150, fun q h => ⟨List.all_eq_true.mp ck_150 q h, wo_150 q h⟩⟩
set_option maxRecDepth 100000 in
theorem mo_151 : jmo 151 := ⟨w0m 1090 rfl rfl, w0m 75 rfl rfl, by decide +kernel, by decide +kernel, by decide +kernel, by decide +kernel, Or.inr ⟨Or.inr ⟨_, rfl, rfl, by decide⟩, w0m 1088 rfl rfl, w0m 1089 rfl rfl⟩⟩
theorem fa_151 : jfa 151 := ⟨mo_151, fun q h => ⟨List.all_eq_true.mp ck_151 q h, wo_151 q h⟩⟩
set_option maxRecDepth 100000 in
theorem mo_152 : jmo 152 := ⟨w0m 1094 rfl rfl, w0m 75 rfl rfl, by decide +kernel, by decide +kernel, by decide +kernel, by decide +kernel, Or.inr ⟨Or.inr ⟨_, rfl, rfl, by decide⟩, w0m 1093 rfl rfl, w0m 34 rfl rfl⟩⟩
theorem fa_152 : jfa 152 := ⟨mo_152, fun q h => ⟨List.all_eq_true.mp ck_152 q h, wo_152 q h⟩⟩
set_option maxRecDepth 100000 in
theorem mo_153 : jmo 153 := ⟨w0m 1099 rfl rfl, w0m 75 rfl rfl, by decide +kernel, by decide +kernel, by decide +kernel, by decide +kernel, Or.inr ⟨Or.inr ⟨_, rfl, rfl, by decide⟩, w0m 1097 rfl rfl, w0m 1098 rfl rfl⟩⟩
theorem fa_153 : jfa 153 := ⟨mo_153, fun q h => ⟨List.all_eq_true.mp ck_153 q h, wo_153 q h⟩⟩
set_option maxRecDepth 100000 in
theorem mo_154 : jmo 154 := ⟨w0m 1103 rfl rfl, w0m 75 rfl rfl, by decide +kernel, by decide +kernel, by decide +kernel, by decide +kernel, Or.inr ⟨Or.inr ⟨_, rfl, rfl, by decide⟩, w0m 1102 rfl rfl, w0m 35 rfl rfl⟩⟩
theorem fa_154 : jfa 154 := ⟨mo_154, fun q h => ⟨List.all_eq_true.mp ck_154 q h, wo_154 q h⟩⟩
set_option maxRecDepth 100000 in
theorem mo_155 : jmo 155 := ⟨w0m 1106 rfl rfl, w0m 75 rfl rfl, by decide +kernel, by decide +kernel, by decide +kernel, by decide +kernel, Or.inl ⟨rfl, w0m 1105 rfl rfl⟩⟩
theorem fa_155 : jfa 155 := ⟨mo_155, fun q h => ⟨List.all_eq_true.mp ck_155 q h, wo_155 q h⟩⟩
set_option maxRecDepth 100000 in
theorem mo_156 : jmo 156 := ⟨w0m 1110 rfl rfl, w0m 75 rfl rfl, by decide +kernel, by decide +kernel, by decide +kernel, by decide +kernel, Or.inr ⟨Or.inr ⟨_, rfl, rfl, by decide⟩, w0m 1109 rfl rfl, w0m 36 rfl rfl⟩⟩
theorem fa_156 : jfa 156 := ⟨mo_156, fun q h => ⟨List.all_eq_true.mp ck_156 q h, wo_156 q h⟩⟩
set_option maxRecDepth 100000 in
theorem mo_157 : jmo 157 := ⟨w0m 1113 rfl rfl, w0m 75 rfl rfl, by decide +kernel, by decide +kernel, by decide +kernel, by decide +kernel, Or.inl ⟨rfl, w0m 1112 rfl rfl⟩⟩
theorem fa_157 : jfa 157 := ⟨mo_157, fun q h => ⟨List.all_eq_true.mp ck_157 q h, wo_157 q h⟩⟩
set_option maxRecDepth 100000 in
theorem mo_158 : jmo 158 := ⟨w0m 1117 rfl rfl, w0m 75 rfl rfl, by decide +kernel, by decide +kernel, by decide +kernel, by decide +kernel, Or.inr ⟨Or.inr ⟨_, rfl, rfl, by decide⟩, w0m 1115 rfl rfl, w0m 1116 rfl rfl⟩⟩
theorem fa_158 : jfa 158 := ⟨mo_158, fun q h => ⟨List.all_eq_true.mp ck_158 q h, wo_158 q h⟩⟩
set_option maxRecDepth 100000 in
theorem mo_159 : jmo 159 := ⟨w0m 1123 rfl rfl, w0m 75 rfl rfl, by decide +kernel, by decide +kernel, by decide +kernel, by decide +kernel, Or.inr ⟨Or.inr ⟨_, rfl, rfl, by decide⟩, w0m 1121 rfl rfl, w0m 1122 rfl rfl⟩⟩
theorem fa_159 : jfa 159 := ⟨mo_159, fun q h => ⟨List.all_eq_true.mp ck_159 q h, wo_159 q h⟩⟩
set_option maxRecDepth 100000 in
theorem mo_160 : jmo 160 := ⟨w0m 1127 rfl rfl, w0m 75 rfl rfl, by decide +kernel, by decide +kernel, by decide +kernel, by decide +kernel, Or.inr ⟨Or.inr ⟨_, rfl, rfl, by decide⟩, w0m 1125 rfl rfl, w0m 1126 rfl rfl⟩⟩
theorem fa_160 : jfa 160 := ⟨mo_160, fun q h => ⟨List.all_eq_true.mp ck_160 q h, wo_160 q h⟩⟩
set_option maxRecDepth 100000 in
theorem mo_161 : jmo 161 := ⟨w0m 1131 rfl rfl, w0m 75 rfl rfl, by decide +kernel, by decide +kernel, by decide +kernel, by decide +kernel, Or.inr ⟨Or.inr ⟨_, rfl, rfl, by decide⟩, w0m 1130 rfl rfl, w0m 37 rfl rfl⟩⟩
theorem fa_161 : jfa 161 := ⟨mo_161, fun q h => ⟨List.all_eq_true.mp ck_161 q h, wo_161 q h⟩⟩
set_option maxRecDepth 100000 in
theorem mo_162 : jmo 162 := ⟨w0m 1135 rfl rfl, w0m 75 rfl rfl, by decide +kernel, by decide +kernel, by decide +kernel, by decide +kernel, Or.inr ⟨Or.inr ⟨_, rfl, rfl, by decide⟩, w0m 1134 rfl rfl, w0m 38 rfl rfl⟩⟩
theorem fa_162 : jfa 162 := ⟨mo_162, fun q h => ⟨List.all_eq_true.mp ck_162 q h, wo_162 q h⟩⟩
set_option maxRecDepth 100000 in
theorem mo_163 : jmo 163 := ⟨w0m 1139 rfl rfl, w0m 75 rfl rfl, by decide +kernel, by decide +kernel, by decide +kernel, by decide +kernel, Or.inr ⟨Or.inr ⟨_, rfl, rfl, by decide⟩, w0m 1138 rfl rfl, w0m 39 rfl rfl⟩⟩
theorem fa_163 : jfa 163 := ⟨mo_163, fun q h => ⟨List.all_eq_true.mp ck_163 q h, wo_163 q h⟩⟩
set_option maxRecDepth 100000 in
theorem mo_164 : jmo 164 := ⟨w0m 1146 rfl rfl, w0m 75 rfl rfl, by decide +kernel, by decide +kernel, by decide +kernel, by decide +kernel, Or.inl ⟨rfl, w0m 1145 rfl rfl⟩⟩
theorem fa_164 : jfa 164 := ⟨mo_164, fun q h => ⟨List.all_eq_true.mp ck_164 q h, wo_164 q h⟩⟩
set_option maxRecDepth 100000 in
theorem mo_165 : jmo 165 := ⟨w0m 1155 rfl rfl, w0m 75 rfl rfl, by decide +kernel, by decide +kernel, by decide +kernel, by decide +kernel, Or.inl ⟨rfl, w0m 1154 rfl rfl⟩⟩
theorem fa_165 : jfa 165 := ⟨mo_165, fun q h => ⟨List.all_eq_true.mp ck_165 q h, wo_165 q h⟩⟩
set_option maxRecDepth 100000 in
theorem mo_166 : jmo 166 := ⟨w0m 1159 rfl rfl, w0m 75 rfl rfl, by decide +kernel, by decide +kernel, by decide +kernel, by decide +kernel, Or.inr ⟨Or.inr ⟨_, rfl, rfl, by decide⟩, w0m 1158 rfl rfl, w0m 40 rfl rfl⟩⟩
theorem fa_166 : jfa 166 := ⟨mo_166, fun q h => ⟨List.all_eq_true.mp ck_166 q h, wo_166 q h⟩⟩
set_option maxRecDepth 100000 in
theorem mo_167 : jmo 167 := ⟨w0m 1165 rfl rfl, w0m 75 rfl rfl, by decide +kernel, by decide +kernel, by decide +kernel, by decide +kernel, Or.inr ⟨Or.inr ⟨_, rfl, rfl, by decide⟩, w0m 1164 rfl rfl, w0m 41 rfl rfl⟩⟩
theorem fa_167 : jfa 167 := ⟨mo_167, fun q h => ⟨List.all_eq_true.mp ck_167 q h, wo_167 q h⟩⟩
set_option maxRecDepth 100000 in
theorem mo_168 : jmo 168 := ⟨w0m 1169 rfl rfl, w0m 75 rfl rfl, by decide +kernel, by decide +kernel, by decide +kernel, by decide +kernel, Or.inr ⟨Or.inr ⟨_, rfl, rfl, by decide⟩, w0m 1168 rfl rfl, w0m 42 rfl rfl⟩⟩
theorem fa_168 : jfa 168 := ⟨mo_168, fun q h => ⟨List.all_eq_true.mp ck_168 q h, wo_168 q h⟩⟩
set_option maxRecDepth 100000 in
theorem mo_169 : jmo 169 := ⟨w0m 1173 rfl rfl, w0m 75 rfl rfl, by decide +kernel, by decide +kernel, by decide +kernel, by decide +kernel, Or.inr ⟨Or.inr ⟨_, rfl, rfl, by decide⟩, w0m 1171 rfl rfl, w0m 1172 rfl rfl⟩⟩
theorem fa_169 : jfa 169 := ⟨mo_169, fun q h => ⟨List.all_eq_true.mp ck_169 q h, wo_169 q h⟩⟩
set_option maxRecDepth 100000 in
theorem mo_170 : jmo 170 := ⟨w0m 1177 rfl rfl, w0m 75 rfl rfl, by decide +kernel, by decide +kernel, by decide +kernel, by decide +kernel, Or.inr ⟨Or.inr ⟨_, rfl, rfl, by decide⟩, w0m 1176 rfl rfl, w0m 43 rfl rfl⟩⟩
theorem fa_170 : jfa 170 := ⟨mo_170, fun q h => ⟨List.all_eq_true.mp ck_170 q h, wo_170 q h⟩⟩
set_option maxRecDepth 100000 in
theorem mo_171 : jmo 171 := ⟨w0m 1181 rfl rfl, w0m 75 rfl rfl, by decide +kernel, by decide +kernel, by decide +kernel, by decide +kernel, Or.inr ⟨Or.inr ⟨_, rfl, rfl, by decide⟩, w0m 1180 rfl rfl, w0m 44 rfl rfl⟩⟩
theorem fa_171 : jfa 171 := ⟨mo_171, fun q h => ⟨List.all_eq_true.mp ck_171 q h, wo_171 q h⟩⟩
set_option maxRecDepth 100000 in
theorem mo_172 : jmo 172 := ⟨w0m 1185 rfl rfl, w0m 75 rfl rfl, by decide +kernel, by decide +kernel, by decide +kernel, by decide +kernel, Or.inr ⟨Or.inr ⟨_, rfl, rfl, by decide⟩, w0m 1184 rfl rfl, w0m 45 rfl rfl⟩⟩
theorem fa_172 : jfa 172 := ⟨mo_172, fun q h => ⟨List.all_eq_true.mp ck_172 q h, wo_172 q h⟩⟩
set_option maxRecDepth 100000 in
theorem mo_173 : jmo 173 := ⟨w0m 1188 rfl rfl, w0m 75 rfl rfl, by decide +kernel, by decide +kernel, by decide +kernel, by decide +kernel, Or.inl ⟨rfl, w0m 1187 rfl rfl⟩⟩
theorem fa_173 : jfa 173 := ⟨mo_173, fun q h => ⟨List.all_eq_true.mp ck_173 q h, wo_173 q h⟩⟩
set_option maxRecDepth 100000 in
theorem mo_174 : jmo 174 := ⟨w0m 1192 rfl rfl, w0m 75 rfl rfl, by decide +kernel, by decide +kernel, by decide +kernel, by decide +kernel, Or.inr ⟨Or.inr ⟨_, rfl, rfl, by decide⟩, w0m 1190 rfl rfl, w0m 1191 rfl rfl⟩⟩
theorem fa_174 : jfa 174 := ⟨mo_174, fun q h => ⟨List.all_eq_true.mp ck_174 q h, wo_174 q h⟩⟩
set_option maxRecDepth 100000 in
theorem mo_175 : jmo 175 := ⟨w0m 1196 rfl rfl, w0m 75 rfl rfl, by decide +kernel, by decide +kernel, by decide +kernel, by decide +kernel, Or.inr ⟨Or.inr ⟨_, rfl, rfl, by decide⟩, w0m 1195 rfl rfl, w0m 46 rfl rfl⟩⟩
theorem fa_175 : jfa 175 := ⟨mo_175, fun q h => ⟨List.all_eq_true.mp ck_175 q h, wo_175 q h⟩⟩
set_option maxRecDepth 100000 in
theorem mo_176 : jmo 176 := ⟨w0m 1200 rfl rfl, w0m 75 rfl rfl, by decide +kernel, by decide +kernel, by decide +kernel, by decide +kernel, Or.inr ⟨Or.inr ⟨_, rfl, rfl, by decide⟩, w0m 1199 rfl rfl, w0m 47 rfl rfl⟩⟩
theorem fa_176 : jfa 176 := ⟨mo_176, fun q h => ⟨List.all_eq_true.mp ck_176 q h, wo_176 q h⟩⟩
set_option maxRecDepth 100000 in
theorem mo_177 : jmo 177 := ⟨w0m 1204 rfl rfl, w0m 75 rfl rfl, by decide +kernel, by decide +kernel, by decide +kernel, by decide +kernel, Or.inr ⟨Or.inr ⟨_, rfl, rfl, by decide⟩, w0m 1202 rfl rfl, w0m 1203 rfl rfl⟩⟩
theorem fa_177 : jfa 177 := ⟨mo_177, fun q h => ⟨List.all_eq_true.mp ck_177 q h, wo_177 q h⟩⟩
set_option maxRecDepth 100000 in
theorem mo_178 : jmo 178 := ⟨w0m 1208 rfl rfl, w0m 75 rfl rfl, by decide +kernel, by decide +kernel, by decide +kernel, by decide +kernel, Or.inr ⟨Or.inr ⟨_, rfl, rfl, by decide⟩, w0m 1206 rfl rfl, w0m 1207 rfl rfl⟩⟩
theorem fa_178 : jfa 178 := ⟨mo_178, fun q h => ⟨List.all_eq_true.mp ck_178 q h, wo_178 q h⟩⟩
set_option maxRecDepth 100000 in
theorem mo_179 : jmo 179 := ⟨w0m 1212 rfl rfl, w0m 75 rfl rfl, by decide +kernel, by decide +kernel, by decide +kernel, by decide +kernel, Or.inr ⟨Or.inr ⟨_, rfl, rfl, by decide⟩, w0m 1210 rfl rfl, w0m 1211 rfl rfl⟩⟩
theorem fa_179 : jfa 179 := ⟨mo_179, fun q h => ⟨List.all_eq_true.mp ck_179 q h, wo_179 q h⟩⟩
set_option maxRecDepth 100000 in
theorem mo_180 : jmo 180 := ⟨w0m 1216 rfl rfl, w0m 75 rfl rfl, by decide +kernel, by decide +kernel, by decide +kernel, by decide +kernel, Or.inr ⟨Or.inr ⟨_, rfl, rfl, by decide⟩, w0m 1214 rfl rfl, w0m 1215 rfl rfl⟩⟩
theorem fa_180 : jfa 180 := ⟨mo_180, fun q h => ⟨List.all_eq_true.mp ck_180 q h, wo_180 q h⟩⟩
set_option maxRecDepth 100000 in
theorem mo_181 : jmo 181 := ⟨w0m 1220 rfl rfl, w0m 75 rfl rfl, by decide +kernel, by decide +kernel, by decide +kernel, by decide +kernel, Or.inr ⟨Or.inr ⟨_, rfl, rfl, by decide⟩, w0m 1218 rfl rfl, w0m 1219 rfl rfl⟩⟩
theorem fa_181 : jfa 181 := ⟨mo_181, fun q h => ⟨List.all_eq_true.mp ck_181 q h, wo_181 q h⟩⟩
set_option maxRecDepth 100000 in
theorem mo_182 : jmo 182 := ⟨w0m 1224 rfl rfl, w0m 75 rfl rfl, by decide +kernel, by decide +kernel, by decide +kernel, by decide +kernel, Or.inr ⟨Or.inr ⟨_, rfl, rfl, by decide⟩, w0m 1223 rfl rfl, w0m 48 rfl rfl⟩⟩
theorem fa_182 : jfa 182 := ⟨mo_182, fun q h => ⟨List.all_eq_true.mp ck_182 q h, wo_182 q h⟩⟩
set_option maxRecDepth 100000 in
theorem mo_183 : jmo 183 := ⟨w0m 1228 rfl rfl, w0m 75 rfl rfl, by decide +kernel, by decide +kernel, by decide +kernel, by decide +kernel, Or.inr ⟨Or.inr ⟨_, rfl, rfl, by decide⟩, w0m 1227 rfl rfl, w0m 49 rfl rfl⟩⟩
theorem fa_183 : jfa 183 := ⟨mo_183, fun q h => ⟨List.all_eq_true.mp ck_183 q h, wo_183 q h⟩⟩
set_option maxRecDepth 100000 in
theorem mo_184 : jmo 184 := ⟨w0m 1232 rfl rfl, w0m 75 rfl rfl, by decide +kernel, by decide +kernel, by decide +kernel, by decide +kernel, Or.inr ⟨Or.inr ⟨_, rfl, rfl, by decide⟩, w0m 1231 rfl rfl, w0m 50 rfl rfl⟩⟩
theorem fa_184 : jfa 184 := ⟨mo_184, fun q h => ⟨List.all_eq_true.mp ck_184 q h, wo_184 q h⟩⟩
set_option maxRecDepth 100000 in
theorem mo_185 : jmo 185 := ⟨w0m 1236 rfl rfl, w0m 75 rfl rfl, by decide +kernel, by decide +kernel, by decide +kernel, by decide +kernel, Or.inr ⟨Or.inr ⟨_, rfl, rfl, by decide⟩, w0m 1234 rfl rfl, w0m 1235 rfl rfl⟩⟩
theorem fa_185 : jfa 185 := ⟨mo_185, fun q h => ⟨List.all_eq_true.mp ck_185 q h, wo_185 q h⟩⟩
set_option maxRecDepth 100000 in
theorem mo_186 : jmo 186 := ⟨w0m 1240 rfl rfl, w0m 75 rfl rfl, by decide +kernel, by decide +kernel, by decide +kernel, by decide +kernel, Or.inr ⟨Or.inr ⟨_, rfl, rfl, by decide⟩, w0m 1238 rfl rfl, w0m 1239 rfl rfl⟩⟩
theorem fa_186 : jfa 186 := ⟨mo_186, fun q h => ⟨List.all_eq_true.mp ck_186 q h, wo_186 q h⟩⟩
set_option maxRecDepth 100000 in
theorem mo_187 : jmo 187 := ⟨w0m 1245 rfl rfl, w0m 75 rfl rfl, by decide +kernel, by decide +kernel, by decide +kernel, by decide +kernel, Or.inr ⟨Or.inr ⟨_, rfl, rfl, by decide⟩, w0m 1244 rfl rfl, w0m 51 rfl rfl⟩⟩
theorem fa_187 : jfa 187 := ⟨mo_187, fun q h => ⟨List.all_eq_true.mp ck_187 q h, wo_187 q h⟩⟩
set_option maxRecDepth 100000 in
theorem mo_188 : jmo 188 := ⟨w0m 1249 rfl rfl, w0m 75 rfl rfl, by decide +kernel, by decide +kernel, by decide +kernel, by decide +kernel, Or.inr ⟨Or.inr ⟨_, rfl, rfl, by decide⟩, w0m 1248 rfl rfl, w0m 52 rfl rfl⟩⟩
theorem fa_188 : jfa 188 := ⟨mo_188, fun q h => ⟨List.all_eq_true.mp ck_188 q h, wo_188 q h⟩⟩
set_option maxRecDepth 100000 in
theorem mo_189 : jmo 189 := ⟨w0m 1252 rfl rfl, w0m 75 rfl rfl, by decide +kernel, by decide +kernel, by decide +kernel, by decide +kernel, Or.inl ⟨rfl, w0m 1251 rfl rfl⟩⟩
theorem fa_189 : jfa 189 := ⟨mo_189, fun q h => ⟨List.all_eq_true.mp ck_189 q h, wo_189 q h⟩⟩
set_option maxRecDepth 100000 in
theorem mo_190 : jmo 190 := ⟨w0m 1256 rfl rfl, w0m 75 rfl rfl, by decide +kernel, by decide +kernel, by decide +kernel, by decide +kernel, Or.inr ⟨Or.inr ⟨_, rfl, rfl, by decide⟩, w0m 1254 rfl rfl, w0m 1255 rfl rfl⟩⟩
theorem fa_190 : jfa 190 := ⟨mo_190, fun q h => ⟨List.all_eq_true.mp ck_190 q h, wo_190 q h⟩⟩
set_option maxRecDepth 100000 in
theorem mo_191 : jmo 191 := ⟨w0m 1260 rfl rfl, w0m 75 rfl rfl, by decide +kernel, by decide +kernel, by decide +kernel, by decide +kernel, Or.inr ⟨Or.inr ⟨_, rfl, rfl, by decide⟩, w0m 1258 rfl rfl, w0m 1259 rfl rfl⟩⟩
theorem fa_191 : jfa 191 := ⟨mo_191, fun q h => ⟨List.all_eq_true.mp ck_191 q h, wo_191 q h⟩⟩
set_option maxRecDepth 100000 in
theorem mo_192 : jmo 192 := ⟨w0m 1264 rfl rfl, w0m 75 rfl rfl, by decide +kernel, by decide +kernel, by decide +kernel, by decide +kernel, Or.inr ⟨Or.inr ⟨_, rfl, rfl, by decide⟩, w0m 1263 rfl rfl, w0m 53 rfl rfl⟩⟩
theorem fa_192 : jfa 192 := ⟨mo_192, fun q h => ⟨List.all_eq_true.mp ck_192 q h, wo_192 q h⟩⟩
set_option maxRecDepth 100000 in
theorem mo_193 : jmo 193 := ⟨w0m 1268 rfl rfl, w0m 75 rfl rfl, by decide +kernel, by decide +kernel, by decide +kernel, by decide +kernel, Or.inr ⟨Or.inr ⟨_, rfl, rfl, by decide⟩, w0m 1267 rfl rfl, w0m 54 rfl rfl⟩⟩
theorem fa_193 : jfa 193 := ⟨mo_193, fun q h => ⟨List.all_eq_true.mp ck_193 q h, wo_193 q h⟩⟩
set_option maxRecDepth 100000 in
theorem mo_194 : jmo 194 := ⟨w0m 1272 rfl rfl, w0m 75 rfl rfl, by decide +kernel, by decide +kernel, by decide +kernel, by decide +kernel, Or.inr ⟨Or.inr ⟨_, rfl, rfl, by decide⟩, w0m 1270 rfl rfl, w0m 1271 rfl rfl⟩⟩
theorem fa_194 : jfa 194 := ⟨mo_194, fun q h => ⟨List.all_eq_true.mp ck_194 q h, wo_194 q h⟩⟩
set_option maxRecDepth 100000 in
theorem mo_195 : jmo 195 := ⟨w0m 1277 rfl rfl, w0m 75 rfl rfl, by decide +kernel, by decide +kernel, by decide +kernel, by decide +kernel, Or.inr ⟨Or.inr ⟨_, rfl, rfl, by decide⟩, w0m 1275 rfl rfl, w0m 1276 rfl rfl⟩⟩
theorem fa_195 : jfa 195 := ⟨mo_195, fun q h => ⟨List.all_eq_true.mp ck_195 q h, wo_195 q h⟩⟩
set_option maxRecDepth 100000 in
theorem mo_196 : jmo 196 := ⟨w0m 1281 rfl rfl, w0m 75 rfl rfl, by decide +kernel, by decide +kernel, by decide +kernel, by decide +kernel, Or.inr ⟨Or.inr ⟨_, rfl, rfl, by decide⟩, w0m 1279 rfl rfl, w0m 1280 rfl rfl⟩⟩
theorem fa_196 : jfa 196 := ⟨mo_196, fun q h => ⟨List.all_eq_true.mp ck_196 q h, wo_196 q h⟩⟩
set_option maxRecDepth 100000 in
theorem mo_197 : jmo 197 := ⟨w0m 1285 rfl rfl, w0m 75 rfl rfl, by decide +kernel, by decide +kernel, by decide +kernel, by decide +kernel, Or.inr ⟨Or.inr ⟨_, rfl, rfl, by decide⟩, w0m 1284 rfl rfl, w0m 55 rfl rfl⟩⟩
theorem fa_197 : jfa 197 := ⟨mo_197, fun q h => ⟨List.all_eq_true.mp ck_197 q h, wo_197 q h⟩⟩
set_option maxRecDepth 100000 in
theorem mo_198 : jmo 198 := ⟨w0m 1289 rfl rfl, w0m 75 rfl rfl, by decide +kernel, by decide +kernel, by decide +kernel, by decide +kernel, Or.inr ⟨Or.inr ⟨_, rfl, rfl, by decide⟩, w0m 1288 rfl rfl, w0m 56 rfl rfl⟩⟩
theorem fa_198 : jfa 198 := ⟨mo_198, fun q h => ⟨List.all_eq_true.mp ck_198 q h, wo_198 q h⟩⟩
set_option maxRecDepth 100000 in
theorem mo_199 : jmo 199 := ⟨w0m 1293 rfl rfl, w0m 75 rfl rfl, by decide +kernel, by decide +kernel, by decide +kernel, by decide +kernel, Or.inr ⟨Or.inr ⟨_, rfl, rfl, by decide⟩, w0m 1291 rfl rfl, w0m 1292 rfl rfl⟩⟩
theorem fa_199 : jfa 199 := ⟨mo_199, fun q h => ⟨List.all_eq_true.mp ck_199 q h, wo_199 q h⟩⟩
set_option maxRecDepth 100000 in
theorem mo_200 : jmo 200 := ⟨w0m 1297 rfl rfl, w0m 75 rfl rfl, by decide +kernel, by decide +kernel, by decide +kernel, by decide +kernel, Or.inr ⟨Or.inr ⟨_, rfl, rfl, by decide⟩, w0m 1296 rfl rfl, w0m 57 rfl rfl⟩⟩
theorem fa_200 : jfa 200 := ⟨mo_200, fun q h => ⟨List.all_eq_true.mp ck_200 q h, wo_200 q h⟩⟩
set_option maxRecDepth 100000 in
theorem mo_201 : jmo 201 := ⟨w0m 1301 rfl rfl, w0m 75 rfl rfl, by decide +kernel, by decide +kernel, by decide +kernel, by decide +kernel, Or.inr ⟨Or.inr ⟨_, rfl, rfl, by decide⟩, w0m 1299 rfl rfl, w0m 1300 rfl rfl⟩⟩
theorem fa_201 : jfa 201 := ⟨mo_201, fun q h => ⟨List.all_eq_true.mp ck_201 q h, wo_201 q h⟩⟩
set_option maxRecDepth 100000 in
theorem mo_202 : jmo 202 := ⟨w0m 1305 rfl rfl, w0m 75 rfl rfl, by decide +kernel, by decide +kernel, by decide +kernel, by decide +kernel, Or.inr ⟨Or.inr ⟨_, rfl, rfl, by decide⟩, w0m 1304 rfl rfl, w0m 58 rfl rfl⟩⟩
theorem fa_202 : jfa 202 := ⟨mo_202, fun q h => ⟨List.all_eq_true.mp ck_202 q h, wo_202 q h⟩⟩
set_option maxRecDepth 100000 in
theorem mo_203 : jmo 203 := ⟨w0m 1309 rfl rfl, w0m 75 rfl rfl, by decide +kernel, by decide +kernel, by decide +kernel, by decide +kernel, Or.inr ⟨Or.inr ⟨_, rfl, rfl, by decide⟩, w0m 1307 rfl rfl, w0m 1308 rfl rfl⟩⟩
theorem fa_203 : jfa 203 := ⟨mo_203, fun q h => ⟨List.all_eq_true.mp ck_203 q h, wo_203 q h⟩⟩
set_option maxRecDepth 100000 in
theorem mo_204 : jmo 204 := ⟨w0m 1313 rfl rfl, w0m 75 rfl rfl, by decide +kernel, by decide +kernel, by decide +kernel, by decide +kernel, Or.inr ⟨Or.inr ⟨_, rfl, rfl, by decide⟩, w0m 1311 rfl rfl, w0m 1312 rfl rfl⟩⟩
theorem fa_204 : jfa 204 := ⟨mo_204, fun q h => ⟨List.all_eq_true.mp ck_204 q h, wo_204 q h⟩⟩
set_option maxRecDepth 100000 in
theorem mo_205 : jmo 205 := ⟨w0m 1317 rfl rfl, w0m 75 rfl rfl, by decide +kernel, by decide +kernel, by decide +kernel, by decide +kernel, Or.inr ⟨Or.inr ⟨_, rfl, rfl, by decide⟩, w0m 1315 rfl rfl, w0m 1316 rfl rfl⟩⟩
theorem fa_205 : jfa 205 := ⟨mo_205, fun q h => ⟨List.all_eq_true.mp ck_205 q h, wo_205 q h⟩⟩
set_option maxRecDepth 100000 in
theorem mo_206 : jmo 206 := ⟨w0m 1322 rfl rfl, w0m 75 rfl rfl, by decide +kernel, by decide +kernel, by decide +kernel, by decide +kernel, Or.inr ⟨Or.inr ⟨_, rfl, rfl, by decide⟩, w0m 1321 rfl rfl, w0m 59 rfl rfl⟩⟩
theorem fa_206 : jfa 206 := ⟨mo_206, fun q h => ⟨List.all_eq_true.mp ck_206 q h, wo_206 q h⟩⟩
set_option maxRecDepth 100000 in
theorem mo_207 : jmo 207 := ⟨w0m 1326 rfl rfl, w0m 75 rfl rfl, by decide +kernel, by decide +kernel, by decide +kernel, by decide +kernel, Or.inr ⟨Or.inr ⟨_, rfl, rfl, by decide⟩, w0m 1324 rfl rfl, w0m 1325 rfl rfl⟩⟩
theorem fa_207 : jfa 207 := ⟨mo_207, fun q h => ⟨List.all_eq_true.mp ck_207 q h, wo_207 q h⟩⟩
set_option maxRecDepth 100000 in
theorem mo_208 : jmo 208 := ⟨w0m 1330 rfl rfl, w0m 75 rfl rfl, by decide +kernel, by decide +kernel, by decide +kernel, by decide +kernel, Or.inr ⟨Or.inr ⟨_, rfl, rfl, by decide⟩, w0m 1329 rfl rfl, w0m 60 rfl rfl⟩⟩
theorem fa_208 : jfa 208 := ⟨mo_208, fun q h => ⟨List.all_eq_true.mp ck_208 q h, wo_208 q h⟩⟩
set_option maxRecDepth 100000 in
theorem mo_209 : jmo 209 := ⟨w0m 1334 rfl rfl, w0m 75 rfl rfl, by decide +kernel, by decide +kernel, by decide +kernel, by decide +kernel, Or.inr ⟨Or.inr ⟨_, rfl, rfl, by decide⟩, w0m 1332 rfl rfl, w0m 1333 rfl rfl⟩⟩
theorem fa_209 : jfa 209 := ⟨mo_209, fun q h => ⟨List.all_eq_true.mp ck_209 q h, wo_209 q h⟩⟩
set_option maxRecDepth 100000 in
theorem mo_210 : jmo 210 := ⟨w0m 1338 rfl rfl, w0m 75 rfl rfl, by decide +kernel, by decide +kernel, by decide +kernel, by decide +kernel, Or.inr ⟨Or.inr ⟨_, rfl, rfl, by decide⟩, w0m 1336 rfl rfl, w0m 1337 rfl rfl⟩⟩
theorem fa_210 : jfa 210 := ⟨mo_210, fun q h => ⟨List.all_eq_true.mp ck_210 q h, wo_210 q h⟩⟩
set_option maxRecDepth 100000 in
theorem mo_211 : jmo 211 := ⟨w0m 1342 rfl rfl, w0m 75 rfl rfl, by decide +kernel, by decide +kernel, by decide +kernel, by decide +kernel, Or.inr ⟨Or.inr ⟨_, rfl, rfl, by decide⟩, w0m 1340 rfl rfl, w0m 1341 rfl rfl⟩⟩
theorem fa_211 : jfa 211 := ⟨mo_211, fun q h => ⟨List.all_eq_true.mp ck_211 q h, wo_211 q h⟩⟩
set_option maxRecDepth 100000 in
theorem mo_212 : jmo 212 := ⟨w0m 1346 rfl rfl, w0m 75 rfl rfl, by decide +kernel, by decide +kernel, by decide +kernel, by decide +kernel, Or.inr ⟨Or.inr ⟨_, rfl, rfl, by decide⟩, w0m 1344 rfl rfl, w0m 1345 rfl rfl⟩⟩
theorem fa_212 : jfa 212 := ⟨mo_212, fun q h => ⟨List.all_eq_true.mp ck_212 q h, wo_212 q h⟩⟩
set_option maxRecDepth 100000 in
theorem mo_213 : jmo 213 := ⟨w0m 1350 rfl rfl, w0m 75 rfl rfl, by decide +kernel, by decide +kernel, by decide +kernel, by decide +kernel, Or.inr ⟨Or.inr ⟨_, rfl, rfl, by decide⟩, w0m 1348 rfl rfl, w0m 1349 rfl rfl⟩⟩
theorem fa_213 : jfa 213 := ⟨mo_213, fun q h => ⟨List.all_eq_true.mp ck_213 q h, wo_213 q h⟩⟩
set_option maxRecDepth 100000 in
theorem mo_214 : jmo 214 := ⟨w0m 1355 rfl rfl, w0m 75 rfl rfl, by decide +kernel, by decide +kernel, by decide +kernel, by decide +kernel, Or.inr ⟨Or.inr ⟨_, rfl, rfl, by decide⟩, w0m 1354 rfl rfl, w0m 61 rfl rfl⟩⟩
theorem fa_214 : jfa 214 := ⟨mo_214, fun q h => ⟨List.all_eq_true.mp ck_214 q h, wo_214 q h⟩⟩
set_option maxRecDepth 100000 in
theorem mo_215 : jmo 215 := ⟨w0m 1359 rfl rfl, w0m 75 rfl rfl, by decide +kernel, by decide +kernel, by decide +kernel, by decide +kernel, Or.inr ⟨Or.inr ⟨_, rfl, rfl, by decide⟩, w0m 1357 rfl rfl, w0m 1358 rfl rfl⟩⟩
theorem fa_215 : jfa 215 := ⟨mo_215, fun q h => ⟨List.all_eq_true.mp ck_215 q h, wo_215 q h⟩⟩
set_option maxRecDepth 100000 in
theorem mo_216 : jmo 216 := ⟨w0m 1364 rfl rfl, w0m 75 rfl rfl, by decide +kernel, by decide +kernel, by decide +kernel, by decide +kernel, Or.inr ⟨Or.inr ⟨_, rfl, rfl, by decide⟩, w0m 1363 rfl rfl, w0m 62 rfl rfl⟩⟩
theorem fa_216 : jfa 216 := ⟨mo_216, fun q h => ⟨List.all_eq_true.mp ck_216 q h, wo_216 q h⟩⟩
set_option maxRecDepth 100000 in
theorem mo_217 : jmo 217 := ⟨w0m 1369 rfl rfl, w0m 75 rfl rfl, by decide +kernel, by decide +kernel, by decide +kernel, by decide +kernel, Or.inr ⟨Or.inr ⟨_, rfl, rfl, by decide⟩, w0m 1368 rfl rfl, w0m 63 rfl rfl⟩⟩
theorem fa_217 : jfa 217 := ⟨mo_217, fun q h => ⟨List.all_eq_true.mp ck_217 q h, wo_217 q h⟩⟩
set_option maxRecDepth 100000 in
theorem jfa_l : ∀ j ∈ [0, 1, 2, 3, 4, 5, 6, 7, 8, 9, 10, 11, 12, 13, 14, 15, 16, 17, 18, 19, 20, 21, 22, 23, 24, 25, 26, 27, 28, 29, 30, 31, 32, 33, 34, 35, 36, 37, 38, 39, 40, 41, 42, 43, 44, 45, 46, 47, 48, 49, 50, 51, 52, 53, 54, 55, 56, 57, 58, 59, 60, 61, 62, 63, 64, 65, 66, 67, 68, 69, 70, 71, 72, 73, 74, 75, 76, 77, 78, 79, 80, 81, 82, 83, 84, 85, 86, 87, 88, 89, 90, 91, 92, 93, 94, 95, 96, 97, 98, 99, 100, 101, 102, 103, 104, 105, 106, 107, 108, 109, 110, 111, 112, 113, 114, 115, 116, 117, 118, 119, 120, 121, 122, 123, 124, 125, 126, 127, 128, 129, 130, 131, 132, 133, 134, 135, 136, 137, 138, 139, 140, 141, 142, 143, 144, 145, 146, 147, 148, 149, 150, 151, 152, 153, 154, 155, 156, 157, 158, 159, 160, 161, 162, 163, 164, 165, 166, 167, 168, 169, 170, 171, 172, 173, 174, 175, 176, 177, 178, 179, 180, 181, 182, 183, 184, 185, 186, 187, 188, 189, 190, 191, 192, 193, 194, 195, 196, 197, 198, 199, 200, 201, 202, 203, 204, 205, 206, 207, 208, 209, 210, 211, 212, 213, 214, 215, 216, 217], jfa j := List.forall_mem_cons.mpr ⟨fa_0, List.forall_mem_cons.mpr ⟨fa_1, List.forall_mem_cons.mpr ⟨fa_2, List.forall_mem_cons.mpr ⟨fa_3, List.forall_mem_cons.mpr ⟨fa_4, List.forall_mem_cons.mpr ⟨fa_5, List.forall_mem_cons.mpr ⟨fa_6, List.forall_mem_cons.mpr ⟨fa_7, List.forall_mem_cons.mpr ⟨fa_8, List.forall_mem_cons.mpr ⟨fa_9, List.forall_mem_cons.mpr ⟨fa_10, List.forall_mem_cons.mpr ⟨fa_11, List.forall_mem_cons.mpr ⟨fa_12, List.forall_mem_cons.mpr ⟨fa_13, List.forall_mem_cons.mpr ⟨fa_14, List.forall_mem_cons.mpr ⟨fa_15, List.forall_mem_cons.mpr ⟨fa_16, List.forall_mem_cons.mpr ⟨fa_17, List.forall_mem_cons.mpr ⟨fa_18, List.forall_mem_cons.mpr ⟨fa_19, List.forall_mem_cons.mpr ⟨fa_20, List.forall_mem_cons.mpr ⟨fa_21, List.forall_mem_cons.mpr ⟨fa_22, List.forall_mem_cons.mpr ⟨fa_23, List.forall_mem_cons.mpr ⟨fa_24, List.forall_mem_cons.mpr ⟨fa_25, List.forall_mem_cons.mpr ⟨fa_26, List.forall_mem_cons.mpr ⟨fa_27, List.forall_mem_cons.mpr ⟨fa_28, List.forall_mem_cons.mpr ⟨fa_29, List.forall_mem_cons.mpr ⟨fa_30, List.forall_mem_cons.mpr ⟨fa_31, List.forall_mem_cons.mpr ⟨fa_32, List.forall_mem_cons.mpr ⟨fa_33, List.forall_mem_cons.mpr ⟨fa_34, List.forall_mem_cons.mpr ⟨fa_35, List.forall_mem_cons.mpr ⟨fa_36, List.forall_mem_cons.mpr ⟨fa_37, List.forall_mem_cons.mpr ⟨fa_38, List.forall_mem_cons.mpr ⟨fa_39, List.forall_mem_cons.mpr ⟨fa_40, List.forall_mem_cons.mpr ⟨fa_41, List.forall_mem_cons.mpr ⟨fa_42, List.forall_mem_cons.mpr ⟨fa_43, List.forall_mem_cons.mpr ⟨fa_44, List.forall_mem_cons.mpr ⟨fa_45, List.forall_mem_cons.mpr ⟨fa_46, List.forall_mem_cons.mpr ⟨fa_47, List.forall_mem_cons.mpr ⟨fa_48, List.forall_mem_cons.mpr ⟨fa_49, List.forall_mem_cons.mpr ⟨fa_50, List.forall_mem_cons.mpr ⟨fa_51, List.forall_mem_cons.mpr ⟨fa_52, List.forall_mem_cons.mpr ⟨fa_53, List.forall_mem_cons.mpr ⟨fa_54, List.forall_mem_cons.mpr ⟨fa_55, List.forall_mem_cons.mpr ⟨fa_56, List.forall_mem_cons.mpr ⟨fa_57, List.forall_mem_cons.mpr ⟨fa_58, List.forall_mem_cons.mpr ⟨fa_59, List.forall_mem_cons.mpr ⟨fa_60, List.forall_mem_cons.mpr ⟨fa_61, List.forall_mem_cons.mpr ⟨fa_62, List.forall_mem_cons.mpr ⟨fa_63, List.forall_mem_cons.mpr ⟨fa_64, List.forall_mem_cons.mpr ⟨fa_65, List.forall_mem_cons.mpr ⟨fa_66, List.forall_mem_cons.mpr ⟨fa_67, List.forall_mem_cons.mpr ⟨fa_68, List.forall_mem_cons.mpr ⟨fa_69, List.forall_mem_cons.mpr ⟨fa_70, List.forall_mem_cons.mpr ⟨fa_71, List.forall_mem_cons.mpr ⟨fa_72, List.forall_mem_cons.mpr ⟨fa_73, List.forall_mem_cons.mpr ⟨fa_74, List.forall_mem_cons.mpr ⟨fa_75, List.forall_mem_cons.mpr ⟨fa_76, List.forall_mem_cons.mpr ⟨fa_77, List.forall_mem_cons.mpr ⟨fa_78, List.forall_mem_cons.mpr ⟨fa_79, List.forall_mem_cons.mpr ⟨fa_80, List.forall_mem_cons.mpr ⟨fa_81, List.forall_mem_cons.mpr ⟨fa_82, List.forall_mem_cons.mpr ⟨fa_83, List.forall_mem_cons.mpr ⟨fa_84, List.forall_mem_cons.mpr ⟨fa_85, List.forall_mem_cons.mpr ⟨fa_86, List.forall_mem_cons.mpr ⟨fa_87, List.forall_mem_cons.mpr ⟨fa_88, List.forall_mem_cons.mpr ⟨fa_89, List.forall_mem_cons.mpr ⟨fa_90, List.forall_mem_cons.mpr ⟨fa_91, List.forall_mem_cons.mpr ⟨fa_92, List.forall_mem_cons.mpr ⟨fa_93, List.forall_mem_cons.mpr ⟨fa_94, List.forall_mem_cons.mpr ⟨fa_95, List.forall_mem_cons.mpr ⟨fa_96, List.forall_mem_cons.mpr ⟨fa_97, List.forall_mem_cons.mpr ⟨fa_98, List.forall_mem_cons.mpr ⟨fa_99, List.forall_mem_cons.mpr ⟨fa_100, List.forall_mem_cons.mpr ⟨fa_101, List.forall_mem_cons.mpr ⟨fa_102, List.forall_mem_cons.mpr ⟨fa_103, List.forall_mem_cons.mpr ⟨fa_104, List.forall_mem_cons.mpr ⟨fa_105, List.forall_mem_cons.mpr ⟨fa_106, List.forall_mem_cons.mpr ⟨fa_107, List.forall_mem_cons.mpr ⟨fa_108, List.forall_mem_cons.mpr ⟨fa_109, List.forall_mem_cons.mpr ⟨fa_110, List.forall_mem_cons.mpr ⟨fa_111, List.forall_mem_cons.mpr ⟨fa_112, List.forall_mem_cons.mpr ⟨fa_113, List.forall_mem_cons.mpr ⟨fa_114, List.forall_mem_cons.mpr ⟨fa_115, List.forall_mem_cons.mpr ⟨fa_116, List.forall_mem_cons.mpr ⟨fa_117, List.forall_mem_cons.mpr ⟨fa_118, List.forall_mem_cons.mpr ⟨fa_119, List.forall_mem_cons.mpr ⟨fa_120, List.forall_mem_cons.mpr ⟨fa_121, List.forall_mem_cons.mpr ⟨fa_122, List.forall_mem_cons.mpr ⟨fa_123, List.forall_mem_cons.mpr ⟨fa_124, List.forall_mem_cons.mpr ⟨fa_125, List.forall_mem_cons.mpr ⟨fa_126, List.forall_mem_cons.mpr ⟨fa_127, List.forall_mem_cons.mpr ⟨fa_128, List.forall_mem_cons.mpr ⟨fa_129, List.forall_mem_cons.mpr ⟨fa_130, List.forall_mem_cons.mpr ⟨fa_131, List.forall_mem_cons.mpr ⟨fa_132, List.forall_mem_cons.mpr ⟨fa_133, List.forall_mem_cons.mpr ⟨fa_134, List.forall_mem_cons.mpr ⟨fa_135, List.forall_mem_cons.mpr ⟨fa_136, List.forall_mem_cons.mpr ⟨fa_137, List.forall_mem_cons.mpr ⟨fa_138, List.forall_mem_cons.mpr ⟨fa_139, List.forall_mem_cons.mpr ⟨fa_140, List.forall_mem_cons.mpr ⟨fa_141, List.forall_mem_cons.mpr ⟨fa_142, List.forall_mem_cons.mpr ⟨fa_143, List.forall_mem_cons.mpr ⟨fa_144, List.forall_mem_cons.mpr ⟨fa_145, List.forall_mem_cons.mpr ⟨fa_146, List.forall_mem_cons.mpr ⟨fa_147, List.forall_mem_cons.mpr ⟨fa_148, List.forall_mem_cons.mpr ⟨fa_149, List.forall_mem_cons.mpr ⟨fa_150, List.forall_mem_cons.mpr ⟨fa_151, List.forall_mem_cons.mpr ⟨fa_152, List.forall_mem_cons.mpr ⟨fa_153, List.forall_mem_cons.mpr ⟨fa_154, List.forall_mem_cons.mpr ⟨fa_155, List.forall_mem_cons.mpr ⟨fa_156, List.forall_mem_cons.mpr ⟨fa_157, List.forall_mem_cons.mpr ⟨fa_158, List.forall_mem_cons.mpr ⟨fa_159, List.forall_mem_cons.mpr ⟨fa_160, List.forall_mem_cons.mpr ⟨fa_161, List.forall_mem_cons.mpr ⟨fa_162, List.forall_mem_cons.mpr ⟨fa_163, List.forall_mem_cons.mpr ⟨fa_164, List.forall_mem_cons.mpr ⟨fa_165, List.forall_mem_cons.mpr ⟨fa_166, List.forall_mem_cons.mpr ⟨fa_167, List.forall_mem_cons.mpr ⟨fa_168, List.forall_mem_cons.mpr ⟨fa_169, List.forall_mem_cons.mpr ⟨fa_170, List.forall_mem_cons.mpr ⟨fa_171, List.forall_mem_cons.mpr ⟨fa_172, List.forall_mem_cons.mpr ⟨fa_173, List.forall_mem_cons.mpr ⟨fa_174, List.forall_mem_cons.mpr ⟨fa_175, List.forall_mem_cons.mpr ⟨fa_176, List.forall_mem_cons.mpr ⟨fa_177, List.forall_mem_cons.mpr ⟨fa_178, List.forall_mem_cons.mpr ⟨fa_179, List.forall_mem_cons.mpr ⟨fa_180, List.forall_mem_cons.mpr ⟨fa_181, List.forall_mem_cons.mpr ⟨fa_182, List.forall_mem_cons.mpr ⟨fa_183, List.forall_mem_cons.mpr ⟨fa_184, List.forall_mem_cons.mpr ⟨fa_185, List.forall_mem_cons.mpr ⟨fa_186, List.forall_mem_cons.mpr ⟨fa_187, List.forall_mem_cons.mpr ⟨fa_188, List.forall_mem_cons.mpr ⟨fa_189, List.forall_mem_cons.mpr ⟨fa_190, List.forall_mem_cons.mpr ⟨fa_191, List.forall_mem_cons.mpr ⟨fa_192, List.forall_mem_cons.mpr ⟨fa_193, List.forall_mem_cons.mpr ⟨fa_194, List.forall_mem_cons.mpr ⟨fa_195, List.forall_mem_cons.mpr ⟨fa_196, List.forall_mem_cons.mpr ⟨fa_197, List.forall_mem_cons.mpr ⟨fa_198, List.forall_mem_cons.mpr ⟨fa_199, List.forall_mem_cons.mpr ⟨fa_200, List.forall_mem_cons.mpr ⟨fa_201, List.forall_mem_cons.mpr ⟨fa_202, List.forall_mem_cons.mpr ⟨fa_203, List.forall_mem_cons.mpr ⟨fa_204, List.forall_mem_cons.mpr ⟨fa_205, List.forall_mem_cons.mpr ⟨fa_206, List.forall_mem_cons.mpr ⟨fa_207, List.forall_mem_cons.mpr ⟨fa_208, List.forall_mem_cons.mpr ⟨fa_209, List.forall_mem_cons.mpr ⟨fa_210, List.forall_mem_cons.mpr ⟨fa_211, List.forall_mem_cons.mpr ⟨fa_212, List.forall_mem_cons.mpr ⟨fa_213, List.forall_mem_cons.mpr ⟨fa_214, List.forall_mem_cons.mpr ⟨fa_215, List.forall_mem_cons.mpr ⟨fa_216, List.forall_mem_cons.mpr ⟨fa_217, fun _ h => absurd h List.not_mem_nil⟩⟩⟩⟩⟩⟩⟩⟩⟩⟩⟩⟩⟩⟩⟩⟩⟩⟩⟩⟩⟩⟩⟩⟩⟩⟩⟩⟩⟩⟩⟩⟩⟩⟩⟩⟩⟩⟩⟩⟩⟩⟩⟩⟩⟩⟩⟩⟩⟩⟩⟩⟩⟩⟩⟩⟩⟩⟩⟩⟩⟩⟩⟩⟩⟩⟩⟩⟩⟩⟩⟩⟩⟩⟩⟩⟩⟩⟩⟩⟩⟩⟩⟩⟩⟩⟩⟩⟩⟩⟩⟩⟩⟩⟩⟩⟩⟩⟩⟩⟩⟩⟩⟩⟩⟩⟩⟩⟩⟩⟩⟩⟩⟩⟩⟩⟩⟩⟩⟩⟩⟩⟩⟩⟩⟩⟩⟩⟩⟩⟩⟩⟩⟩⟩⟩⟩⟩⟩⟩⟩⟩⟩⟩⟩⟩⟩⟩⟩⟩⟩⟩⟩⟩⟩⟩⟩⟩⟩⟩⟩⟩⟩⟩⟩⟩⟩⟩⟩⟩⟩⟩⟩⟩⟩⟩⟩⟩⟩⟩⟩⟩⟩⟩⟩⟩⟩⟩⟩⟩⟩⟩⟩⟩⟩⟩⟩⟩⟩⟩⟩⟩⟩⟩⟩⟩⟩⟩⟩⟩⟩⟩⟩⟩⟩⟩⟩⟩⟩
theorem jfa_r : [0, 1, 2, 3, 4, 5, 6, 7, 8, 9, 10, 11, 12, 13, 14, 15, 16, 17, 18, 19, 20, 21, 22, 23, 24, 25, 26, 27, 28, 29, 30, 31, 32, 33, 34, 35, 36, 37, 38, 39, 40, 41, 42, 43, 44, 45, 46, 47, 48, 49, 50, 51, 52, 53, 54, 55, 56, 57, 58, 59, 60, 61, 62, 63, 64, 65, 66, 67, 68, 69, 70, 71, 72, 73, 74, 75, 76, 77, 78, 79, 80, 81, 82, 83, 84, 85, 86, 87, 88, 89, 90, 91, 92, 93, 94, 95, 96, 97, 98, 99, 100, 101, 102, 103, 104, 105, 106, 107, 108, 109, 110, 111, 112, 113, 114, 115, 116, 117, 118, 119, 120, 121, 122, 123, 124, 125, 126, 127, 128, 129, 130, 131, 132, 133, 134, 135, 136, 137, 138, 139, 140, 141, 142, 143, 144, 145, 146, 147, 148, 149, 150, 151, 152, 153, 154, 155, 156, 157, 158, 159, 160, 161, 162, 163, 164, 165, 166, 167, 168, 169, 170, 171, 172, 173, 174, 175, 176, 177, 178, 179, 180, 181, 182, 183, 184, 185, 186, 187, 188, 189, 190, 191, 192, 193, 194, 195, 196, 197, 198, 199, 200, 201, 202, 203, 204, 205, 206, 207, 208, 209, 210, 211, 212, 213, 214, 215, 216, 217] = List.range 218 := by decide +kernel
theorem jfa_all {j : Nat} (h : j < 218) : jfa j := jfa_l j (jfa_r ▸ List.mem_range.mpr h)
