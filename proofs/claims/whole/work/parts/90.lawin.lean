/-! the words of the law lie in its table, by their places -/
theorem lq_by {big ws : List Cond} (ps : List Nat) (hp : ws = ps.filterMap (fun i => big[i]?)) : ∀ w ∈ ws, w ∈ big := fun w h => by
  rw [hp] at h
  obtain ⟨i, _, hi⟩ := List.mem_filterMap.mp h
  exact List.mem_of_getElem? hi
set_option maxRecDepth 20000 in
theorem lq_r1 : ∀ w ∈ wsL_law_r1, w ∈ lw_tbl := lq_by [78, 79, 64, 746, 747, 74, 80, 81, 82, 83, 84, 85, 86, 87, 65, 304, 114, 115, 66, 305, 306, 178, 179, 67] (by decide +kernel)
set_option maxRecDepth 20000 in
theorem lq_r2 : ∀ w ∈ wsL_law_r2, w ∈ lw_tbl := lq_by [307, 208, 209, 69, 308, 225, 309, 227, 228, 70, 310, 246, 247, 71, 311, 262, 263, 72, 312, 113, 313, 283, 73, 89] (by decide +kernel)
set_option maxRecDepth 20000 in
theorem lq_r3 : ∀ w ∈ wsL_law_r3, w ∈ lw_tbl := lq_by [90, 91, 92, 117, 118, 119, 134, 139, 142, 145, 148, 151, 154, 180, 181, 182, 183, 189, 191, 193, 195, 184, 185, 68] (by decide +kernel)
set_option maxRecDepth 20000 in
theorem lq_r4 : ∀ w ∈ wsL_law_r4, w ∈ lw_tbl := lq_by [186, 210, 211, 212, 213, 214, 219, 216, 230, 231, 232, 235, 237, 249, 250, 251, 254, 252, 256, 265, 266, 267, 268, 282] (by decide +kernel)
set_option maxRecDepth 20000 in
theorem lq_r5 : ∀ w ∈ wsL_law_r5, w ∈ lw_tbl := lq_by [270, 271, 285, 286, 287, 288, 293, 290, 295, 289, 291, 748, 749, 750, 751, 756, 762, 763, 764, 765, 767, 770, 772, 773] (by decide +kernel)
set_option maxRecDepth 20000 in
theorem lq_r6 : ∀ w ∈ wsL_law_r6, w ∈ lw_tbl := lq_by [775, 777, 752, 754, 35, 755, 771, 766, 338, 339, 340, 341, 94, 93, 823, 824, 825, 826, 827, 757, 828, 829, 830, 342] (by decide +kernel)
set_option maxRecDepth 20000 in
theorem lq_r7 : ∀ w ∈ wsL_law_r7, w ∈ lw_tbl := lq_by [343, 344, 345, 831, 832, 833, 834, 346, 347, 348, 349, 218, 234, 292, 350, 351, 352, 353, 120, 127, 131, 96, 95, 98] (by decide +kernel)
set_option maxRecDepth 20000 in
theorem lq_r8 : ∀ w ∈ wsL_law_r8, w ∈ lw_tbl := lq_by [97, 354, 356, 0, 357, 99, 358, 359, 360, 361, 363, 1, 364, 365, 367, 2, 368, 369, 371, 3, 372, 136, 373, 375] (by decide +kernel)
set_option maxRecDepth 20000 in
theorem lq_r9 : ∀ w ∈ wsL_law_r9, w ∈ lw_tbl := lq_by [4, 376, 377, 379, 5, 380, 381, 383, 6, 384, 140, 143, 146, 149, 152, 385, 387, 7, 388, 389, 391, 8, 392, 156] (by decide +kernel)
set_option maxRecDepth 20000 in
theorem lq_r10 : ∀ w ∈ wsL_law_r10, w ∈ lw_tbl := lq_by [393, 394, 395, 396, 187, 835, 836, 837, 838, 758, 760, 759, 839, 841, 36, 842, 843, 844, 845, 846, 847, 848, 850, 37] (by decide +kernel)
set_option maxRecDepth 20000 in
theorem lq_r11 : ∀ w ∈ wsL_law_r11, w ∈ lw_tbl := lq_by [851, 761, 852, 853, 854, 855, 856, 857, 859, 38, 860, 861, 863, 39, 864, 865, 867, 40, 868, 869, 871, 41, 872, 873] (by decide +kernel)
set_option maxRecDepth 20000 in
theorem lq_r12 : ∀ w ∈ wsL_law_r12, w ∈ lw_tbl := lq_by [875, 42, 876, 877, 879, 43, 880, 397, 398, 399, 400, 138, 401, 402, 403, 404, 122, 405, 406, 407, 408, 409, 410, 411] (by decide +kernel)
set_option maxRecDepth 20000 in
theorem lq_r13 : ∀ w ∈ wsL_law_r13, w ∈ lw_tbl := lq_by [412, 129, 413, 414, 415, 416, 417, 418, 419, 420, 421, 422, 423, 424, 881, 882, 883, 884, 889, 885, 887, 44, 888, 890] (by decide +kernel)
set_option maxRecDepth 20000 in
theorem lq_r14 : ∀ w ∈ wsL_law_r14, w ∈ lw_tbl := lq_by [892, 45, 893, 894, 896, 46, 897, 898, 900, 47, 901, 902, 904, 48, 905, 906, 908, 49, 909, 425, 426, 427, 428, 141] (by decide +kernel)
set_option maxRecDepth 20000 in
theorem lq_r15 : ∀ w ∈ wsL_law_r15, w ∈ lw_tbl := lq_by [144, 147, 150, 190, 192, 194, 196, 153, 429, 430, 431, 432, 433, 435, 9, 436, 438, 439, 75, 440, 437, 910, 911, 912] (by decide +kernel)
set_option maxRecDepth 20000 in
theorem lq_r16 : ∀ w ∈ wsL_law_r16, w ∈ lw_tbl := lq_by [913, 918, 914, 916, 50, 917, 919, 921, 51, 922, 441, 442, 443, 444, 155, 445, 446, 447, 448, 132, 449, 450, 451, 452] (by decide +kernel)
set_option maxRecDepth 20000 in
theorem lq_r17 : ∀ w ∈ wsL_law_r17, w ∈ lw_tbl := lq_by [923, 924, 925, 926, 927, 929, 52, 930, 453, 454, 455, 456, 457, 458, 459, 460, 217, 461, 463, 10, 464, 465, 466, 467] (by decide +kernel)
set_option maxRecDepth 20000 in
theorem lq_r18 : ∀ w ∈ wsL_law_r18, w ∈ lw_tbl := lq_by [468, 469, 471, 470, 76, 931, 932, 933, 934, 935, 936, 938, 53, 939, 472, 473, 474, 475, 940, 941, 942, 943, 944, 476] (by decide +kernel)
set_option maxRecDepth 20000 in
theorem lq_r19 : ∀ w ∈ wsL_law_r19, w ∈ lw_tbl := lq_by [477, 478, 479, 188, 130, 480, 481, 482, 483, 484, 485, 486, 487, 945, 946, 947, 948, 949, 951, 54, 952, 953, 955, 55] (by decide +kernel)
set_option maxRecDepth 20000 in
theorem lq_r20 : ∀ w ∈ wsL_law_r20, w ∈ lw_tbl := lq_by [956, 488, 489, 490, 491, 957, 958, 959, 960, 961, 492, 493, 494, 495, 496, 497, 498, 499, 962, 963, 964, 965, 500, 501] (by decide +kernel)
set_option maxRecDepth 20000 in
theorem lq_r21 : ∀ w ∈ wsL_law_r21, w ∈ lw_tbl := lq_by [502, 503, 504, 506, 11, 507, 508, 510, 12, 511, 125, 512, 514, 13, 515, 516, 518, 14, 519, 520, 966, 967, 968, 969] (by decide +kernel)
set_option maxRecDepth 20000 in
theorem lq_r22 : ∀ w ∈ wsL_law_r22, w ∈ lw_tbl := lq_by [521, 522, 523, 524, 255, 525, 526, 527, 528, 126, 124, 529, 530, 532, 15, 533, 543, 534, 536, 16, 537, 538, 539, 541] (by decide +kernel)
set_option maxRecDepth 20000 in
theorem lq_r23 : ∀ w ∈ wsL_law_r23, w ∈ lw_tbl := lq_by [17, 542, 137, 544, 546, 18, 547, 548, 549, 550, 551, 552, 553, 554, 555, 556, 970, 971, 972, 973, 974, 768, 769, 975] (by decide +kernel)
set_option maxRecDepth 20000 in
theorem lq_r24 : ∀ w ∈ wsL_law_r24, w ∈ lw_tbl := lq_by [977, 56, 978, 979, 980, 981, 557, 558, 559, 560, 561, 562, 77, 563, 564, 565, 566, 567, 568, 569, 570, 571, 982, 983] (by decide +kernel)
set_option maxRecDepth 20000 in
theorem lq_r25 : ∀ w ∈ wsL_law_r25, w ∈ lw_tbl := lq_by [984, 985, 986, 987, 988, 572, 573, 574, 575, 576, 989, 990, 991, 992, 997, 993, 995, 57, 996, 577, 578, 579, 580, 581] (by decide +kernel)
set_option maxRecDepth 20000 in
theorem lq_r26 : ∀ w ∈ wsL_law_r26, w ∈ lw_tbl := lq_by [583, 19, 584, 585, 587, 20, 588, 998, 999, 1000, 1001, 589, 590, 591, 592, 593, 595, 21, 596, 597, 599, 22, 600, 1010] (by decide +kernel)
set_option maxRecDepth 20000 in
theorem lq_r27 : ∀ w ∈ wsL_law_r27, w ∈ lw_tbl := lq_by [1011, 1012, 1013, 1006, 1008, 58, 1009, 601, 602, 603, 604, 1002, 1003, 1004, 1005, 605, 606, 607, 608, 609, 611, 23, 612, 613] (by decide +kernel)
set_option maxRecDepth 20000 in
theorem lq_r28 : ∀ w ∈ wsL_law_r28, w ∈ lw_tbl := lq_by [614, 615, 616, 1014, 1015, 1016, 1017, 1018, 1020, 59, 1021, 1022, 1024, 60, 1025, 617, 618, 619, 620, 1026, 1027, 1028, 1029, 621] (by decide +kernel)
set_option maxRecDepth 20000 in
theorem lq_r29 : ∀ w ∈ wsL_law_r29, w ∈ lw_tbl := lq_by [622, 623, 624, 133, 625, 626, 627, 628, 1030, 1031, 1032, 1033, 629, 630, 631, 632, 633, 634, 635, 636, 637, 1034, 1035, 1036] (by decide +kernel)
set_option maxRecDepth 20000 in
theorem lq_r30 : ∀ w ∈ wsL_law_r30, w ∈ lw_tbl := lq_by [1037, 1038, 638, 639, 640, 641, 236, 238, 1039, 1040, 1041, 1042, 642, 643, 644, 645, 1043, 1044, 1045, 1046, 646, 647, 648, 649] (by decide +kernel)
set_option maxRecDepth 20000 in
theorem lq_r31 : ∀ w ∈ wsL_law_r31, w ∈ lw_tbl := lq_by [269, 650, 651, 652, 653, 121, 272, 128, 654, 655, 656, 657, 123, 135, 659, 658, 660, 662, 24, 663, 233, 664, 665, 667] (by decide +kernel)
set_option maxRecDepth 20000 in
theorem lq_r32 : ∀ w ∈ wsL_law_r32, w ∈ lw_tbl := lq_by [25, 668, 669, 671, 26, 672, 673, 674, 675, 676, 677, 679, 27, 680, 681, 683, 28, 684, 1047, 1048, 1049, 1050, 774, 1051] (by decide +kernel)
set_option maxRecDepth 20000 in
theorem lq_r33 : ∀ w ∈ wsL_law_r33, w ∈ lw_tbl := lq_by [1053, 61, 1054, 1055, 1057, 62, 1058, 685, 686, 687, 688, 689, 690, 691, 692, 1059, 1060, 1061, 1062, 693, 694, 695, 696, 697] (by decide +kernel)
set_option maxRecDepth 20000 in
theorem lq_r34 : ∀ w ∈ wsL_law_r34, w ∈ lw_tbl := lq_by [699, 29, 700, 314, 701, 703, 30, 704, 705, 707, 31, 708, 709, 710, 712, 32, 713, 714, 715, 717, 33, 718, 719, 720] (by decide +kernel)
set_option maxRecDepth 20000 in
theorem lq_r35 : ∀ w ∈ wsL_law_r35, w ∈ lw_tbl := lq_by [722, 34, 723, 724, 1063, 1064, 1065, 1066, 1067, 776, 1068, 1069, 1070, 1071, 1072, 725, 726, 727, 728, 294, 296, 729, 730, 731] (by decide +kernel)
set_option maxRecDepth 20000 in
theorem lq_r36 : ∀ w ∈ wsL_law_r36, w ∈ lw_tbl := lq_by [732, 733, 1077, 1078, 1079, 1080, 734, 735, 736, 737, 1081, 1082, 1083, 1084, 738, 739, 740, 741, 1085, 1086, 1087, 1088, 742, 743] (by decide +kernel)
set_option maxRecDepth 20000 in
theorem lq_r37 : ∀ w ∈ wsL_law_r37, w ∈ lw_tbl := lq_by [744, 745, 1073, 1074, 1075, 1076] (by decide +kernel)
set_option maxRecDepth 20000 in
theorem lq_X8 : ∀ w ∈ wsX80, w ∈ lw_tbl := lq_by [315, 317, 319, 321, 323, 325, 327, 329, 331, 333, 335] (by decide +kernel)
set_option maxRecDepth 20000 in
theorem lq_X9 : ∀ w ∈ wsX90, w ∈ lw_tbl := lq_by [778, 780, 782, 784, 786, 788, 790, 792, 794, 796, 798, 800, 802, 804, 806, 808, 810, 812, 814, 816, 818, 820] (by decide +kernel)
set_option maxRecDepth 20000 in
theorem lq_X7 : ∀ w ∈ wsX70, w ∈ lw_tbl := lq_by [100, 102, 104, 106, 108, 110] (by decide +kernel)
set_option maxRecDepth 20000 in
theorem lq_X2 : ∀ w ∈ wsX20, w ∈ lw_tbl := lq_by [157, 159, 161, 163, 165, 167, 169, 171, 173, 175] (by decide +kernel)
set_option maxRecDepth 20000 in
theorem lq_X5 : ∀ w ∈ wsX50, w ∈ lw_tbl := lq_by [197, 199, 201, 203, 205] (by decide +kernel)
set_option maxRecDepth 20000 in
theorem lq_X6 : ∀ w ∈ wsX60, w ∈ lw_tbl := lq_by [220, 222] (by decide +kernel)
set_option maxRecDepth 20000 in
theorem lq_X0 : ∀ w ∈ wsX00, w ∈ lw_tbl := lq_by [239, 241, 243] (by decide +kernel)
set_option maxRecDepth 20000 in
theorem lq_X3 : ∀ w ∈ wsX30, w ∈ lw_tbl := lq_by [257, 259] (by decide +kernel)
set_option maxRecDepth 20000 in
theorem lq_X1 : ∀ w ∈ wsX10, w ∈ lw_tbl := lq_by [273, 275, 277, 279] (by decide +kernel)
set_option maxRecDepth 20000 in
theorem lq_X4 : ∀ w ∈ wsX40, w ∈ lw_tbl := lq_by [297, 299, 301] (by decide +kernel)
theorem wsL_law_in : ∀ w ∈ wsL_law, w ∈ lw_tbl := List.forall_mem_append.mpr ⟨List.forall_mem_append.mpr ⟨List.forall_mem_append.mpr ⟨List.forall_mem_append.mpr ⟨List.forall_mem_append.mpr ⟨List.forall_mem_append.mpr ⟨List.forall_mem_append.mpr ⟨List.forall_mem_append.mpr ⟨List.forall_mem_append.mpr ⟨List.forall_mem_append.mpr ⟨List.forall_mem_append.mpr ⟨List.forall_mem_append.mpr ⟨lq_r1, List.forall_mem_append.mpr ⟨lq_r2, List.forall_mem_append.mpr ⟨lq_r3, List.forall_mem_append.mpr ⟨lq_r4, List.forall_mem_append.mpr ⟨lq_r5, List.forall_mem_append.mpr ⟨lq_r6, List.forall_mem_append.mpr ⟨lq_r7, List.forall_mem_append.mpr ⟨lq_r8, List.forall_mem_append.mpr ⟨lq_r9, List.forall_mem_append.mpr ⟨lq_r10, List.forall_mem_append.mpr ⟨lq_r11, List.forall_mem_append.mpr ⟨lq_r12, List.forall_mem_append.mpr ⟨lq_r13, List.forall_mem_append.mpr ⟨lq_r14, List.forall_mem_append.mpr ⟨lq_r15, List.forall_mem_append.mpr ⟨lq_r16, List.forall_mem_append.mpr ⟨lq_r17, List.forall_mem_append.mpr ⟨lq_r18, List.forall_mem_append.mpr ⟨lq_r19, List.forall_mem_append.mpr ⟨lq_r20, List.forall_mem_append.mpr ⟨lq_r21, List.forall_mem_append.mpr ⟨lq_r22, List.forall_mem_append.mpr ⟨lq_r23, List.forall_mem_append.mpr ⟨lq_r24, List.forall_mem_append.mpr ⟨lq_r25, List.forall_mem_append.mpr ⟨lq_r26, List.forall_mem_append.mpr ⟨lq_r27, List.forall_mem_append.mpr ⟨lq_r28, List.forall_mem_append.mpr ⟨lq_r29, List.forall_mem_append.mpr ⟨lq_r30, List.forall_mem_append.mpr ⟨lq_r31, List.forall_mem_append.mpr ⟨lq_r32, List.forall_mem_append.mpr ⟨lq_r33, List.forall_mem_append.mpr ⟨lq_r34, List.forall_mem_append.mpr ⟨lq_r35, List.forall_mem_append.mpr ⟨lq_r36, lq_r37⟩⟩⟩⟩⟩⟩⟩⟩⟩⟩⟩⟩⟩⟩⟩⟩⟩⟩⟩⟩⟩⟩⟩⟩⟩⟩⟩⟩⟩⟩⟩⟩⟩⟩⟩⟩, lq_X8⟩, lq_X9⟩, lq_X7⟩, lq_X2⟩, lq_X5⟩, lq_X6⟩, lq_X0⟩, lq_X3⟩, lq_X1⟩, lq_X4⟩, fun _ h => absurd h List.not_mem_nil⟩
