set_option maxRecDepth 20000 in
theorem li_wsL_law_r1 : ∀ w ∈ wsL_law_r1, w ∈ lw_tbl := fun w h => (goodIn_r wsL_law_r1 [53, 54, 39, 732, 733, 45, 1069, 55, 56, 57, 58, 59, 60, 61, 62, 40, 192, 193, 194, 140, 141, 43, 195, 167] (by decide +kernel) (by decide +kernel) w h).1
set_option maxRecDepth 20000 in
theorem li_wsL_law_r2 : ∀ w ∈ wsL_law_r2, w ∈ lw_tbl := fun w h => (goodIn_r wsL_law_r2 [168, 44, 196, 197, 198, 199, 64, 65, 66, 67, 68, 41, 127, 101, 102, 42, 129, 131, 70, 71, 72, 100, 73, 76] (by decide +kernel) (by decide +kernel) w h).1
set_option maxRecDepth 20000 in
theorem li_wsL_law_r3 : ∀ w ∈ wsL_law_r3, w ∈ lw_tbl := fun w h => (goodIn_r wsL_law_r3 [79, 82, 85, 104, 105, 106, 107, 109, 111, 112, 113, 143, 144, 145, 166, 146, 147, 149, 150, 151, 152, 170, 171, 172] (by decide +kernel) (by decide +kernel) w h).1
set_option maxRecDepth 20000 in
theorem li_wsL_law_r4 : ∀ w ∈ wsL_law_r4, w ∈ lw_tbl := fun w h => (goodIn_r wsL_law_r4 [173, 174, 176, 177, 178, 734, 735, 736, 737, 740, 741, 799, 742, 743, 751, 752, 800, 753, 217, 218, 219, 220, 128, 221] (by decide +kernel) (by decide +kernel) w h).1
set_option maxRecDepth 20000 in
theorem li_wsL_law_r5 : ∀ w ∈ wsL_law_r5, w ∈ lw_tbl := fun w h => (goodIn_r wsL_law_r5 [222, 223, 224, 225, 226, 227, 228, 229, 230, 231, 801, 802, 803, 804, 738, 805, 806, 807, 232, 233, 234, 235, 74, 77] (by decide +kernel) (by decide +kernel) w h).1
set_option maxRecDepth 20000 in
theorem li_wsL_law_r6 : ∀ w ∈ wsL_law_r6, w ∈ lw_tbl := fun w h => (goodIn_r wsL_law_r6 [80, 83, 236, 237, 238, 239, 808, 809, 810, 811, 812, 814, 8, 815, 816, 818, 9, 819, 240, 241, 242, 243, 820, 821] (by decide +kernel) (by decide +kernel) w h).1
set_option maxRecDepth 20000 in
theorem li_wsL_law_r7 : ∀ w ∈ wsL_law_r7, w ∈ lw_tbl := fun w h => (goodIn_r wsL_law_r7 [822, 823, 244, 245, 246, 247, 252, 248, 249, 250, 251, 253, 254, 255, 256, 257, 258, 259, 260, 261, 46, 262, 263, 264] (by decide +kernel) (by decide +kernel) w h).1
set_option maxRecDepth 20000 in
theorem li_wsL_law_r8 : ∀ w ∈ wsL_law_r8, w ∈ lw_tbl := fun w h => (goodIn_r wsL_law_r8 [265, 824, 825, 826, 827, 842, 828, 830, 10, 831, 754, 755, 832, 834, 11, 835, 836, 837, 838, 839, 840, 841, 266, 267] (by decide +kernel) (by decide +kernel) w h).1
set_option maxRecDepth 20000 in
theorem li_wsL_law_r9 : ∀ w ∈ wsL_law_r9, w ∈ lw_tbl := fun w h => (goodIn_r wsL_law_r9 [268, 269, 270, 271, 272, 273, 275, 276, 277, 278, 279, 280, 843, 844, 845, 846, 847, 849, 12, 850, 281, 282, 283, 284] (by decide +kernel) (by decide +kernel) w h).1
set_option maxRecDepth 20000 in
theorem li_wsL_law_r10 : ∀ w ∈ wsL_law_r10, w ∈ lw_tbl := fun w h => (goodIn_r wsL_law_r10 [851, 852, 853, 854, 285, 286, 287, 288, 289, 290, 291, 292, 293, 294, 295, 296, 297, 298, 299, 300, 855, 856, 857, 858] (by decide +kernel) (by decide +kernel) w h).1
set_option maxRecDepth 20000 in
theorem li_wsL_law_r11 : ∀ w ∈ wsL_law_r11, w ∈ lw_tbl := fun w h => (goodIn_r wsL_law_r11 [859, 861, 13, 862, 301, 302, 303, 304, 88, 305, 306, 307, 308, 315, 316, 317, 318, 309, 310, 311, 312, 313, 314, 863] (by decide +kernel) (by decide +kernel) w h).1
set_option maxRecDepth 20000 in
theorem li_wsL_law_r12 : ∀ w ∈ wsL_law_r12, w ∈ lw_tbl := fun w h => (goodIn_r wsL_law_r12 [864, 865, 866, 867, 868, 870, 14, 871, 319, 320, 321, 322, 323, 324, 325, 326, 327, 328, 329, 330, 331, 332, 333, 334] (by decide +kernel) (by decide +kernel) w h).1
set_option maxRecDepth 20000 in
theorem li_wsL_law_r13 : ∀ w ∈ wsL_law_r13, w ∈ lw_tbl := fun w h => (goodIn_r wsL_law_r13 [335, 336, 337, 338, 339, 872, 873, 874, 875, 876, 877, 878, 879, 881, 15, 882, 883, 885, 16, 886, 340, 341, 342, 343] (by decide +kernel) (by decide +kernel) w h).1
set_option maxRecDepth 20000 in
theorem li_wsL_law_r14 : ∀ w ∈ wsL_law_r14, w ∈ lw_tbl := fun w h => (goodIn_r wsL_law_r14 [344, 345, 346, 347, 348, 349, 47, 350, 351, 352, 353, 354, 355, 356, 357, 358, 359, 360, 361, 362, 887, 888, 889, 890] (by decide +kernel) (by decide +kernel) w h).1
set_option maxRecDepth 20000 in
theorem li_wsL_law_r15 : ∀ w ∈ wsL_law_r15, w ∈ lw_tbl := fun w h => (goodIn_r wsL_law_r15 [891, 892, 893, 894, 896, 17, 897, 363, 364, 365, 366, 148, 367, 368, 369, 370, 898, 899, 900, 901, 744, 902, 371, 372] (by decide +kernel) (by decide +kernel) w h).1
set_option maxRecDepth 20000 in
theorem li_wsL_law_r16 : ∀ w ∈ wsL_law_r16, w ∈ lw_tbl := fun w h => (goodIn_r wsL_law_r16 [373, 374, 903, 904, 905, 906, 375, 376, 377, 378, 180, 379, 380, 381, 382, 179, 383, 384, 385, 386, 387, 388, 389, 390] (by decide +kernel) (by decide +kernel) w h).1
set_option maxRecDepth 20000 in
theorem li_wsL_law_r17 : ∀ w ∈ wsL_law_r17, w ∈ lw_tbl := fun w h => (goodIn_r wsL_law_r17 [391, 392, 393, 394, 396, 397, 398, 399, 400, 401, 402, 48, 403, 1070, 404, 405, 406, 407, 408, 1071, 410, 411, 412, 413] (by decide +kernel) (by decide +kernel) w h).1
set_option maxRecDepth 20000 in
theorem li_wsL_law_r18 : ∀ w ∈ wsL_law_r18, w ∈ lw_tbl := fun w h => (goodIn_r wsL_law_r18 [414, 415, 416, 417, 418, 419, 49, 420, 421, 422, 423, 424, 426, 427, 50, 428, 429, 430, 51, 431, 432, 433, 434, 435] (by decide +kernel) (by decide +kernel) w h).1
set_option maxRecDepth 20000 in
theorem li_wsL_law_r19 : ∀ w ∈ wsL_law_r19, w ∈ lw_tbl := fun w h => (goodIn_r wsL_law_r19 [436, 437, 438, 439, 440, 441, 442, 444, 446, 450, 451, 452, 453, 454, 455, 456, 457, 458, 459, 460, 461, 462, 463, 464] (by decide +kernel) (by decide +kernel) w h).1
set_option maxRecDepth 20000 in
theorem li_wsL_law_r20 : ∀ w ∈ wsL_law_r20, w ∈ lw_tbl := fun w h => (goodIn_r wsL_law_r20 [465, 466, 467, 468, 469, 470, 471, 472, 473, 474, 475, 476, 477, 478, 479, 480, 907, 908, 909, 910, 749, 745, 746, 750] (by decide +kernel) (by decide +kernel) w h).1
set_option maxRecDepth 20000 in
theorem li_wsL_law_r21 : ∀ w ∈ wsL_law_r21, w ∈ lw_tbl := fun w h => (goodIn_r wsL_law_r21 [911, 913, 18, 914, 747, 748, 915, 917, 19, 918, 919, 921, 20, 922, 923, 925, 21, 926, 927, 929, 22, 930, 931, 933] (by decide +kernel) (by decide +kernel) w h).1
set_option maxRecDepth 20000 in
theorem li_wsL_law_r22 : ∀ w ∈ wsL_law_r22, w ∈ lw_tbl := fun w h => (goodIn_r wsL_law_r22 [23, 934, 935, 937, 24, 938, 481, 482, 483, 484, 175, 485, 486, 487, 488, 489, 490, 491, 492, 939, 940, 941, 942, 943] (by decide +kernel) (by decide +kernel) w h).1
set_option maxRecDepth 20000 in
theorem li_wsL_law_r23 : ∀ w ∈ wsL_law_r23, w ∈ lw_tbl := fun w h => (goodIn_r wsL_law_r23 [945, 25, 946, 947, 949, 26, 950, 493, 494, 495, 496, 497, 498, 499, 500, 87, 75, 78, 84, 502, 81, 501, 951, 952] (by decide +kernel) (by decide +kernel) w h).1
set_option maxRecDepth 20000 in
theorem li_wsL_law_r24 : ∀ w ∈ wsL_law_r24, w ∈ lw_tbl := fun w h => (goodIn_r wsL_law_r24 [953, 954, 955, 957, 27, 958, 503, 504, 505, 506, 507, 508, 509, 510, 511, 512, 513, 514, 515, 516, 517, 518, 519, 520] (by decide +kernel) (by decide +kernel) w h).1
set_option maxRecDepth 20000 in
theorem li_wsL_law_r25 : ∀ w ∈ wsL_law_r25, w ∈ lw_tbl := fun w h => (goodIn_r wsL_law_r25 [521, 522, 523, 524, 529, 530, 531, 525, 526, 527, 528, 532, 959, 960, 961, 962, 757, 963, 965, 28, 966, 967, 969, 29] (by decide +kernel) (by decide +kernel) w h).1
set_option maxRecDepth 20000 in
theorem li_wsL_law_r26 : ∀ w ∈ wsL_law_r26, w ∈ lw_tbl := fun w h => (goodIn_r wsL_law_r26 [970, 971, 973, 30, 974, 533, 534, 535, 536, 975, 976, 977, 978, 537, 538, 539, 540, 556, 541, 542, 543, 544, 545, 546] (by decide +kernel) (by decide +kernel) w h).1
set_option maxRecDepth 20000 in
theorem li_wsL_law_r27 : ∀ w ∈ wsL_law_r27, w ∈ lw_tbl := fun w h => (goodIn_r wsL_law_r27 [547, 548, 549, 550, 551, 552, 553, 554, 555, 979, 980, 981, 982, 983, 984, 985, 986, 988, 31, 989, 990, 992, 32, 993] (by decide +kernel) (by decide +kernel) w h).1
set_option maxRecDepth 20000 in
theorem li_wsL_law_r28 : ∀ w ∈ wsL_law_r28, w ∈ lw_tbl := fun w h => (goodIn_r wsL_law_r28 [997, 994, 995, 996, 557, 558, 559, 560, 998, 999, 1000, 1001, 561, 562, 563, 564, 130, 565, 566, 567, 568, 569, 570, 571] (by decide +kernel) (by decide +kernel) w h).1
set_option maxRecDepth 20000 in
theorem li_wsL_law_r29 : ∀ w ∈ wsL_law_r29, w ∈ lw_tbl := fun w h => (goodIn_r wsL_law_r29 [572, 1002, 1003, 1004, 1005, 573, 574, 575, 576, 108, 110, 577, 578, 579, 580, 581, 582, 583, 584, 585, 586, 587, 588, 589] (by decide +kernel) (by decide +kernel) w h).1
set_option maxRecDepth 20000 in
theorem li_wsL_law_r30 : ∀ w ∈ wsL_law_r30, w ∈ lw_tbl := fun w h => (goodIn_r wsL_law_r30 [590, 591, 592, 593, 594, 595, 596, 1006, 1007, 1008, 1009, 756, 1010, 1012, 33, 1013, 1014, 1016, 34, 1017, 1018, 1020, 35, 1021] (by decide +kernel) (by decide +kernel) w h).1
set_option maxRecDepth 20000 in
theorem li_wsL_law_r31 : ∀ w ∈ wsL_law_r31, w ∈ lw_tbl := fun w h => (goodIn_r wsL_law_r31 [597, 598, 599, 600, 601, 602, 603, 604, 605, 606, 607, 608, 609, 610, 611, 612, 613, 614, 615, 616, 617, 1022, 1023, 1024] (by decide +kernel) (by decide +kernel) w h).1
set_option maxRecDepth 20000 in
theorem li_wsL_law_r32 : ∀ w ∈ wsL_law_r32, w ∈ lw_tbl := fun w h => (goodIn_r wsL_law_r32 [1025, 1026, 1028, 36, 1029, 618, 619, 620, 621, 622, 623, 624, 625, 626, 627, 628, 629, 630, 631, 632, 633, 634, 635, 636] (by decide +kernel) (by decide +kernel) w h).1
set_option maxRecDepth 20000 in
theorem li_wsL_law_r33 : ∀ w ∈ wsL_law_r33, w ∈ lw_tbl := fun w h => (goodIn_r wsL_law_r33 [637, 1030, 1031, 1032, 1033, 1038, 1034, 1036, 37, 1037, 638, 639, 640, 641, 115, 642, 643, 644, 645, 646, 1039, 1040, 1041, 1042] (by decide +kernel) (by decide +kernel) w h).1
set_option maxRecDepth 20000 in
theorem li_wsL_law_r34 : ∀ w ∈ wsL_law_r34, w ∈ lw_tbl := fun w h => (goodIn_r wsL_law_r34 [647, 648, 649, 650, 651, 653, 0, 654, 655, 657, 1, 658, 659, 660, 662, 2, 663, 664, 665, 667, 3, 668, 669, 670] (by decide +kernel) (by decide +kernel) w h).1
set_option maxRecDepth 20000 in
theorem li_wsL_law_r35 : ∀ w ∈ wsL_law_r35, w ∈ lw_tbl := fun w h => (goodIn_r wsL_law_r35 [672, 4, 673, 674, 675, 677, 5, 678, 679, 680, 681, 683, 6, 684, 685, 686, 1043, 1044, 1045, 1046, 739, 1047, 1048, 1049] (by decide +kernel) (by decide +kernel) w h).1
set_option maxRecDepth 20000 in
theorem li_wsL_law_r36 : ∀ w ∈ wsL_law_r36, w ∈ lw_tbl := fun w h => (goodIn_r wsL_law_r36 [1050, 1051, 1052, 687, 688, 689, 690, 132, 691, 693, 7, 694, 695, 696, 697, 698, 699, 700, 701, 702, 703, 705, 704, 52] (by decide +kernel) (by decide +kernel) w h).1
set_option maxRecDepth 20000 in
theorem li_wsL_law_r37 : ∀ w ∈ wsL_law_r37, w ∈ lw_tbl := fun w h => (goodIn_r wsL_law_r37 [706, 707, 708, 709, 710, 711, 712, 713, 714, 86, 114, 1053, 1054, 1055, 1056, 715, 716, 717, 718, 1057, 1058, 1059, 1060, 719] (by decide +kernel) (by decide +kernel) w h).1
set_option maxRecDepth 20000 in
theorem li_wsL_law_r38 : ∀ w ∈ wsL_law_r38, w ∈ lw_tbl := fun w h => (goodIn_r wsL_law_r38 [720, 721, 722, 723, 724, 725, 726, 727, 1061, 1062, 1063, 1064, 728, 729, 730, 731, 1065, 1066, 1067, 1068] (by decide +kernel) (by decide +kernel) w h).1
set_option maxRecDepth 20000 in
theorem li_wsX50 : ∀ w ∈ wsX50, w ∈ lw_tbl := fun w h => (goodIn_r wsX50 [200, 202, 204, 206, 208, 210, 212, 214] (by decide +kernel) (by decide +kernel) w h).1
set_option maxRecDepth 20000 in
theorem li_wsX60 : ∀ w ∈ wsX60, w ∈ lw_tbl := fun w h => (goodIn_r wsX60 [758, 760, 762, 764, 766, 768, 770, 772, 774, 776, 778, 780, 782, 784, 786, 788, 790, 792, 794, 796] (by decide +kernel) (by decide +kernel) w h).1
set_option maxRecDepth 20000 in
theorem li_wsX00 : ∀ w ∈ wsX00, w ∈ lw_tbl := fun w h => (goodIn_r wsX00 [133, 135, 137] (by decide +kernel) (by decide +kernel) w h).1
set_option maxRecDepth 20000 in
theorem li_wsX40 : ∀ w ∈ wsX40, w ∈ lw_tbl := fun w h => (goodIn_r wsX40 [153, 155, 157, 159, 161, 163] (by decide +kernel) (by decide +kernel) w h).1
set_option maxRecDepth 20000 in
theorem li_wsX30 : ∀ w ∈ wsX30, w ∈ lw_tbl := fun w h => (goodIn_r wsX30 [181, 183, 185, 187, 189] (by decide +kernel) (by decide +kernel) w h).1
set_option maxRecDepth 20000 in
theorem li_wsX20 : ∀ w ∈ wsX20, w ∈ lw_tbl := fun w h => (goodIn_r wsX20 [89, 91, 93, 95, 97] (by decide +kernel) (by decide +kernel) w h).1
set_option maxRecDepth 20000 in
theorem li_wsX10 : ∀ w ∈ wsX10, w ∈ lw_tbl := fun w h => (goodIn_r wsX10 [116, 118, 120, 122, 124] (by decide +kernel) (by decide +kernel) w h).1
theorem wsL_law_in : ∀ w ∈ wsL_law, w ∈ lw_tbl := (List.forall_mem_append.mpr ⟨(List.forall_mem_append.mpr ⟨(List.forall_mem_append.mpr ⟨(List.forall_mem_append.mpr ⟨(List.forall_mem_append.mpr ⟨(List.forall_mem_append.mpr ⟨(List.forall_mem_append.mpr ⟨(List.forall_mem_append.mpr ⟨(List.forall_mem_append.mpr ⟨li_wsL_law_r1, (List.forall_mem_append.mpr ⟨li_wsL_law_r2, (List.forall_mem_append.mpr ⟨li_wsL_law_r3, (List.forall_mem_append.mpr ⟨li_wsL_law_r4, (List.forall_mem_append.mpr ⟨li_wsL_law_r5, (List.forall_mem_append.mpr ⟨li_wsL_law_r6, (List.forall_mem_append.mpr ⟨li_wsL_law_r7, (List.forall_mem_append.mpr ⟨li_wsL_law_r8, (List.forall_mem_append.mpr ⟨li_wsL_law_r9, (List.forall_mem_append.mpr ⟨li_wsL_law_r10, (List.forall_mem_append.mpr ⟨li_wsL_law_r11, (List.forall_mem_append.mpr ⟨li_wsL_law_r12, (List.forall_mem_append.mpr ⟨li_wsL_law_r13, (List.forall_mem_append.mpr ⟨li_wsL_law_r14, (List.forall_mem_append.mpr ⟨li_wsL_law_r15, (List.forall_mem_append.mpr ⟨li_wsL_law_r16, (List.forall_mem_append.mpr ⟨li_wsL_law_r17, (List.forall_mem_append.mpr ⟨li_wsL_law_r18, (List.forall_mem_append.mpr ⟨li_wsL_law_r19, (List.forall_mem_append.mpr ⟨li_wsL_law_r20, (List.forall_mem_append.mpr ⟨li_wsL_law_r21, (List.forall_mem_append.mpr ⟨li_wsL_law_r22, (List.forall_mem_append.mpr ⟨li_wsL_law_r23, (List.forall_mem_append.mpr ⟨li_wsL_law_r24, (List.forall_mem_append.mpr ⟨li_wsL_law_r25, (List.forall_mem_append.mpr ⟨li_wsL_law_r26, (List.forall_mem_append.mpr ⟨li_wsL_law_r27, (List.forall_mem_append.mpr ⟨li_wsL_law_r28, (List.forall_mem_append.mpr ⟨li_wsL_law_r29, (List.forall_mem_append.mpr ⟨li_wsL_law_r30, (List.forall_mem_append.mpr ⟨li_wsL_law_r31, (List.forall_mem_append.mpr ⟨li_wsL_law_r32, (List.forall_mem_append.mpr ⟨li_wsL_law_r33, (List.forall_mem_append.mpr ⟨li_wsL_law_r34, (List.forall_mem_append.mpr ⟨li_wsL_law_r35, (List.forall_mem_append.mpr ⟨li_wsL_law_r36, (List.forall_mem_append.mpr ⟨li_wsL_law_r37, li_wsL_law_r38⟩)⟩)⟩)⟩)⟩)⟩)⟩)⟩)⟩)⟩)⟩)⟩)⟩)⟩)⟩)⟩)⟩)⟩)⟩)⟩)⟩)⟩)⟩)⟩)⟩)⟩)⟩)⟩)⟩)⟩)⟩)⟩)⟩)⟩)⟩)⟩)⟩), li_wsX50⟩), li_wsX60⟩), li_wsX00⟩), li_wsX40⟩), li_wsX30⟩), li_wsX20⟩), li_wsX10⟩), (fun _ h => absurd h List.not_mem_nil)⟩)
theorem inlX0 : ∀ w ∈ wsX00, w ∈ wsL_law := fun _ h => List.mem_append_left _ (List.mem_append_left _ (List.mem_append_left _ (List.mem_append_left _ (List.mem_append_left _ (List.mem_append_right _ h)))))
theorem inX0 : ∀ w ∈ wsX00, w ∈ lw_tbl := fun w h => wsL_law_in w (inlX0 w h)
theorem inlX1 : ∀ w ∈ wsX10, w ∈ wsL_law := fun _ h => List.mem_append_left _ (List.mem_append_right _ h)
theorem inX1 : ∀ w ∈ wsX10, w ∈ lw_tbl := fun w h => wsL_law_in w (inlX1 w h)
theorem inlX2 : ∀ w ∈ wsX20, w ∈ wsL_law := fun _ h => List.mem_append_left _ (List.mem_append_left _ (List.mem_append_right _ h))
theorem inX2 : ∀ w ∈ wsX20, w ∈ lw_tbl := fun w h => wsL_law_in w (inlX2 w h)
theorem inlX3 : ∀ w ∈ wsX30, w ∈ wsL_law := fun _ h => List.mem_append_left _ (List.mem_append_left _ (List.mem_append_left _ (List.mem_append_right _ h)))
theorem inX3 : ∀ w ∈ wsX30, w ∈ lw_tbl := fun w h => wsL_law_in w (inlX3 w h)
theorem inlX4 : ∀ w ∈ wsX40, w ∈ wsL_law := fun _ h => List.mem_append_left _ (List.mem_append_left _ (List.mem_append_left _ (List.mem_append_left _ (List.mem_append_right _ h))))
theorem inX4 : ∀ w ∈ wsX40, w ∈ lw_tbl := fun w h => wsL_law_in w (inlX4 w h)
theorem inlX5 : ∀ w ∈ wsX50, w ∈ wsL_law := fun _ h => List.mem_append_left _ (List.mem_append_left _ (List.mem_append_left _ (List.mem_append_left _ (List.mem_append_left _ (List.mem_append_left _ (List.mem_append_left _ (List.mem_append_right _ h)))))))
theorem inX5 : ∀ w ∈ wsX50, w ∈ lw_tbl := fun w h => wsL_law_in w (inlX5 w h)
theorem inlX6 : ∀ w ∈ wsX60, w ∈ wsL_law := fun _ h => List.mem_append_left _ (List.mem_append_left _ (List.mem_append_left _ (List.mem_append_left _ (List.mem_append_left _ (List.mem_append_left _ (List.mem_append_right _ h))))))
theorem inX6 : ∀ w ∈ wsX60, w ∈ lw_tbl := fun w h => wsL_law_in w (inlX6 w h)
