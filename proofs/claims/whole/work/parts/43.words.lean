theorem in_r {big : List Cond} (ws : List Cond) (ps : List Nat) (hp : ws = ps.filterMap (fun i => big[i]?)) : ∀ w ∈ ws, w ∈ big := by
  intro w hw
  rw [hp] at hw
  obtain ⟨i, -, hi⟩ := List.mem_filterMap.mp hw
  exact List.mem_of_getElem? hi
set_option maxRecDepth 100000 in
theorem wsL_in_1 : ∀ w ∈ wsL_law0_r1, w ∈ lw_tbl := in_r _ [51, 52, 37, 697, 698, 42, 959, 53, 54, 55, 56, 57, 58, 59, 60, 38, 228, 229, 230, 61, 62, 63, 64, 183] (by decide +kernel)
set_option maxRecDepth 100000 in
theorem wsL_in_2 : ∀ w ∈ wsL_law0_r2, w ∈ lw_tbl := in_r _ [185, 187, 189, 191, 193, 65, 195, 67, 39, 100, 197, 102, 40, 133, 134, 41, 199, 201, 132, 203, 68, 69, 70, 71] (by decide +kernel)
set_option maxRecDepth 100000 in
theorem wsL_in_3 : ∀ w ∈ wsL_law0_r3, w ∈ lw_tbl := in_r _ [72, 74, 77, 80, 83, 85, 103, 104, 105, 106, 107, 110, 112, 115, 118, 135, 136, 137, 138, 139, 142, 145, 147, 150] (by decide +kernel)
set_option maxRecDepth 100000 in
theorem wsL_in_4 : ∀ w ∈ wsL_law0_r4, w ∈ lw_tbl := in_r _ [153, 155, 157, 158, 160, 699, 700, 701, 702, 703, 704, 707, 282, 283, 36, 284, 285, 286, 287, 288, 289, 290, 46, 192] (by decide +kernel)
set_option maxRecDepth 100000 in
theorem wsL_in_5 : ∀ w ∈ wsL_law0_r5, w ∈ lw_tbl := in_r _ [358, 360, 1, 361, 362, 364, 2, 365, 366, 367, 368, 369, 370, 371, 372, 373, 374, 375, 376, 377, 378, 380, 379, 47] (by decide +kernel)
set_option maxRecDepth 100000 in
theorem wsL_in_6 : ∀ w ∈ wsL_law0_r6, w ∈ lw_tbl := in_r _ [381, 382, 383, 384, 385, 386, 387, 388, 389, 73, 390, 391, 392, 393, 394, 395, 396, 397, 81, 398, 399, 400, 401, 113] (by decide +kernel)
set_option maxRecDepth 100000 in
theorem wsL_in_7 : ∀ w ∈ wsL_law0_r7, w ∈ lw_tbl := in_r _ [402, 403, 404, 405, 406, 407, 408, 409, 410, 411, 412, 413, 726, 727, 728, 729, 706, 730, 732, 6, 733, 734, 736, 7] (by decide +kernel)
set_option maxRecDepth 100000 in
theorem wsL_in_8 : ∀ w ∈ wsL_law0_r8, w ∈ lw_tbl := in_r _ [737, 705, 738, 740, 8, 741, 742, 744, 9, 745, 746, 747, 748, 749, 722, 723, 724, 725, 414, 415, 416, 417, 418, 419] (by decide +kernel)
set_option maxRecDepth 100000 in
theorem wsL_in_9 : ∀ w ∈ wsL_law0_r9, w ∈ lw_tbl := in_r _ [420, 421, 194, 422, 423, 424, 425, 48, 442, 443, 444, 445, 108, 750, 751, 752, 753, 754, 755, 756, 446, 447, 448, 449] (by decide +kernel)
set_option maxRecDepth 100000 in
theorem wsL_in_10 : ∀ w ∈ wsL_law0_r10, w ∈ lw_tbl := in_r _ [450, 451, 452, 198, 109, 453, 455, 3, 456, 757, 758, 759, 760, 761, 763, 10, 764, 458, 459, 460, 461, 462, 463, 464] (by decide +kernel)
set_option maxRecDepth 100000 in
theorem wsL_in_11 : ∀ w ∈ wsL_law0_r11, w ∈ lw_tbl := in_r _ [188, 765, 766, 767, 768, 465, 466, 467, 468, 469, 470, 471, 190, 769, 770, 771, 772, 472, 473, 474, 475, 476, 477, 478] (by decide +kernel)
set_option maxRecDepth 100000 in
theorem wsL_in_12 : ∀ w ∈ wsL_law0_r12, w ∈ lw_tbl := in_r _ [479, 186, 773, 774, 775, 776, 777, 480, 481, 482, 483, 484, 485, 486, 487, 489, 4, 490, 492, 493, 494, 495, 75, 496] (by decide +kernel)
set_option maxRecDepth 100000 in
theorem wsL_in_13 : ∀ w ∈ wsL_law0_r13, w ∈ lw_tbl := in_r _ [497, 498, 499, 500, 501, 502, 503, 778, 779, 780, 781, 782, 784, 11, 785, 786, 788, 12, 789, 790, 792, 13, 793, 794] (by decide +kernel)
set_option maxRecDepth 100000 in
theorem wsL_in_14 : ∀ w ∈ wsL_law0_r14, w ∈ lw_tbl := in_r _ [796, 14, 797, 798, 800, 15, 801, 802, 804, 16, 805, 504, 505, 506, 507, 508, 509, 510, 200, 140, 511, 513, 5, 514] (by decide +kernel)
set_option maxRecDepth 100000 in
theorem wsL_in_15 : ∀ w ∈ wsL_law0_r15, w ∈ lw_tbl := in_r _ [202, 517, 518, 519, 520, 151, 521, 522, 523, 524, 111, 119, 525, 526, 527, 528, 116, 529, 530, 531, 532, 533, 534, 535] (by decide +kernel)
set_option maxRecDepth 100000 in
theorem wsL_in_16 : ∀ w ∈ wsL_law0_r16, w ∈ lw_tbl := in_r _ [536, 537, 538, 539, 540, 541, 542, 543, 544, 545, 546, 547, 548, 549, 550, 551, 552, 86, 84, 161, 79, 553, 554, 555] (by decide +kernel)
set_option maxRecDepth 100000 in
theorem wsL_in_17 : ∀ w ∈ wsL_law0_r17, w ∈ lw_tbl := in_r _ [556, 557, 558, 559, 560, 806, 807, 808, 809, 810, 812, 17, 813, 814, 816, 18, 817, 818, 820, 19, 821, 822, 824, 20] (by decide +kernel)
set_option maxRecDepth 100000 in
theorem wsL_in_18 : ∀ w ∈ wsL_law0_r18, w ∈ lw_tbl := in_r _ [825, 826, 828, 21, 829, 830, 832, 22, 833, 561, 562, 563, 564, 565, 566, 567, 143, 568, 569, 570, 571, 572, 573, 574] (by decide +kernel)
set_option maxRecDepth 100000 in
theorem wsL_in_19 : ∀ w ∈ wsL_law0_r19, w ∈ lw_tbl := in_r _ [575, 156, 576, 577, 578, 579, 144, 580, 581, 582, 583, 834, 835, 836, 837, 838, 840, 23, 841, 842, 844, 24, 845, 846] (by decide +kernel)
set_option maxRecDepth 100000 in
theorem wsL_in_20 : ∀ w ∈ wsL_law0_r20, w ∈ lw_tbl := in_r _ [848, 25, 849, 584, 585, 586, 587, 588, 589, 590, 196, 76, 850, 851, 852, 853, 591, 592, 593, 594, 595, 596, 597, 78] (by decide +kernel)
set_option maxRecDepth 100000 in
theorem wsL_in_21 : ∀ w ∈ wsL_law0_r21, w ∈ lw_tbl := in_r _ [854, 855, 856, 857, 858, 860, 26, 861, 598, 599, 600, 601, 602, 603, 604, 82, 862, 863, 864, 865, 605, 606, 607, 608] (by decide +kernel)
set_option maxRecDepth 100000 in
theorem wsL_in_22 : ∀ w ∈ wsL_law0_r22, w ∈ lw_tbl := in_r _ [609, 610, 611, 114, 866, 867, 868, 869, 612, 613, 614, 615, 616, 617, 618, 619, 117, 620, 621, 622, 623, 49, 870, 871] (by decide +kernel)
set_option maxRecDepth 100000 in
theorem wsL_in_23 : ∀ w ∈ wsL_law0_r23, w ∈ lw_tbl := in_r _ [872, 873, 639, 640, 641, 642, 643, 644, 645, 120, 874, 875, 876, 877, 646, 647, 648, 649, 650, 651, 652, 653, 654, 655] (by decide +kernel)
set_option maxRecDepth 100000 in
theorem wsL_in_24 : ∀ w ∈ wsL_law0_r24, w ∈ lw_tbl := in_r _ [656, 657, 658, 659, 660, 661, 662, 50, 663, 664, 665, 666, 667, 668, 669, 670, 671, 672, 673, 674, 878, 879, 880, 881] (by decide +kernel)
set_option maxRecDepth 100000 in
theorem wsL_in_25 : ∀ w ∈ wsL_law0_r25, w ∈ lw_tbl := in_r _ [882, 884, 27, 885, 886, 888, 28, 889, 890, 892, 29, 893, 894, 895, 896, 238, 239, 240, 241, 897, 898, 899, 900, 242] (by decide +kernel)
set_option maxRecDepth 100000 in
theorem wsL_in_26 : ∀ w ∈ wsL_law0_r26, w ∈ lw_tbl := in_r _ [243, 244, 245, 901, 902, 903, 904, 675, 676, 677, 678, 679, 680, 681, 154, 905, 906, 907, 908, 909, 911, 30, 912, 682] (by decide +kernel)
set_option maxRecDepth 100000 in
theorem wsL_in_27 : ∀ w ∈ wsL_law0_r27, w ∈ lw_tbl := in_r _ [683, 684, 685, 686, 687, 688, 159, 913, 914, 915, 916, 246, 247, 248, 249, 146, 148, 917, 918, 919, 920, 921, 923, 31] (by decide +kernel)
set_option maxRecDepth 100000 in
theorem wsL_in_28 : ∀ w ∈ wsL_law0_r28, w ∈ lw_tbl := in_r _ [924, 925, 927, 32, 928, 250, 251, 252, 253, 152, 929, 930, 931, 932, 254, 255, 256, 257, 184, 933, 934, 935, 936, 689] (by decide +kernel)
set_option maxRecDepth 100000 in
theorem wsL_in_29 : ∀ w ∈ wsL_law0_r29, w ∈ lw_tbl := in_r _ [690, 691, 692, 693, 694, 695, 937, 938, 939, 940, 258, 259, 260, 261, 262, 263, 264, 265, 266, 141, 149, 268, 269, 270] (by decide +kernel)
set_option maxRecDepth 100000 in
theorem wsL_in_30 : ∀ w ∈ wsL_law0_r30, w ∈ lw_tbl := in_r _ [271, 272, 273, 274, 276, 277, 278, 279, 281, 941, 942, 943, 944, 945, 708, 946, 948, 33, 949, 950, 951, 953, 34, 954] (by decide +kernel)
set_option maxRecDepth 100000 in
theorem wsL_in_31 : ∀ w ∈ wsL_law0_r31, w ∈ lw_tbl := in_r _ [955, 957, 35, 958] (by decide +kernel)
set_option maxRecDepth 100000 in
theorem inX0 : ∀ w ∈ wsX00, w ∈ lw_tbl := in_r _ [121, 123, 125, 127, 129] (by decide +kernel)
set_option maxRecDepth 100000 in
theorem inX1 : ∀ w ∈ wsX10, w ∈ lw_tbl := in_r _ [162, 164, 166, 168, 170, 172, 174, 176, 178, 180] (by decide +kernel)
set_option maxRecDepth 100000 in
theorem inX2 : ∀ w ∈ wsX20, w ∈ lw_tbl := in_r _ [87, 89, 91, 93, 95, 97] (by decide +kernel)
set_option maxRecDepth 100000 in
theorem inX3 : ∀ w ∈ wsX30, w ∈ lw_tbl := in_r _ [204, 206, 208, 210, 212, 214, 216, 218, 220, 222, 224] (by decide +kernel)
set_option maxRecDepth 100000 in
theorem inX4 : ∀ w ∈ wsX40, w ∈ lw_tbl := in_r _ [231, 233, 235] (by decide +kernel)
set_option maxRecDepth 100000 in
theorem inX5 : ∀ w ∈ wsX50, w ∈ lw_tbl := in_r _ [709, 711, 713, 715, 717, 719] (by decide +kernel)
theorem wsL_law_in0 : ∀ w ∈ wsL_law0, w ∈ lw_tbl := fun w h => (List.mem_append.mp h).elim (fun h => (List.mem_append.mp h).elim (fun h => (List.mem_append.mp h).elim (fun h => (List.mem_append.mp h).elim (fun h => (List.mem_append.mp h).elim (fun h => (List.mem_append.mp h).elim (fun h => (List.mem_append.mp h).elim (fun h => (List.mem_append.mp h).elim (fun h => wsL_in_1 w h) (fun h => (List.mem_append.mp h).elim (fun h => wsL_in_2 w h) (fun h => (List.mem_append.mp h).elim (fun h => wsL_in_3 w h) (fun h => (List.mem_append.mp h).elim (fun h => wsL_in_4 w h) (fun h => (List.mem_append.mp h).elim (fun h => wsL_in_5 w h) (fun h => (List.mem_append.mp h).elim (fun h => wsL_in_6 w h) (fun h => (List.mem_append.mp h).elim (fun h => wsL_in_7 w h) (fun h => (List.mem_append.mp h).elim (fun h => wsL_in_8 w h) (fun h => (List.mem_append.mp h).elim (fun h => wsL_in_9 w h) (fun h => (List.mem_append.mp h).elim (fun h => wsL_in_10 w h) (fun h => (List.mem_append.mp h).elim (fun h => wsL_in_11 w h) (fun h => (List.mem_append.mp h).elim (fun h => wsL_in_12 w h) (fun h => (List.mem_append.mp h).elim (fun h => wsL_in_13 w h) (fun h => (List.mem_append.mp h).elim (fun h => wsL_in_14 w h) (fun h => (List.mem_append.mp h).elim (fun h => wsL_in_15 w h) (fun h => (List.mem_append.mp h).elim (fun h => wsL_in_16 w h) (fun h => (List.mem_append.mp h).elim (fun h => wsL_in_17 w h) (fun h => (List.mem_append.mp h).elim (fun h => wsL_in_18 w h) (fun h => (List.mem_append.mp h).elim (fun h => wsL_in_19 w h) (fun h => (List.mem_append.mp h).elim (fun h => wsL_in_20 w h) (fun h => (List.mem_append.mp h).elim (fun h => wsL_in_21 w h) (fun h => (List.mem_append.mp h).elim (fun h => wsL_in_22 w h) (fun h => (List.mem_append.mp h).elim (fun h => wsL_in_23 w h) (fun h => (List.mem_append.mp h).elim (fun h => wsL_in_24 w h) (fun h => (List.mem_append.mp h).elim (fun h => wsL_in_25 w h) (fun h => (List.mem_append.mp h).elim (fun h => wsL_in_26 w h) (fun h => (List.mem_append.mp h).elim (fun h => wsL_in_27 w h) (fun h => (List.mem_append.mp h).elim (fun h => wsL_in_28 w h) (fun h => (List.mem_append.mp h).elim (fun h => wsL_in_29 w h) (fun h => (List.mem_append.mp h).elim (fun h => wsL_in_30 w h) (fun h => wsL_in_31 w h))))))))))))))))))))))))))))))) (fun h => inX4 w h)) (fun h => inX5 w h)) (fun h => inX3 w h)) (fun h => inX2 w h)) (fun h => inX0 w h)) (fun h => inX1 w h)) (fun h => absurd h List.not_mem_nil)
theorem wsL_law_x0 : ∀ w ∈ (vx_atS RX4 31 "java/lang/IllegalStateException" ["java/lang/RuntimeException", "java/lang/Exception"]).filter goodWord, w ∈ lw_tbl := by decide +kernel
theorem wsL_law_x1 : ∀ w ∈ (vx_atS RX4 188 "java/lang/IllegalArgumentException" ["java/lang/RuntimeException", "java/lang/Exception"]).filter goodWord, w ∈ lw_tbl := by decide +kernel
theorem wsL_law_x2 : ∀ w ∈ (vx_atS RX4 202 "java/lang/IndexOutOfBoundsException" ["java/lang/RuntimeException", "java/lang/Exception"]).filter goodWord, w ∈ lw_tbl := by decide +kernel
theorem wsL_law_in : ∀ w ∈ wsL_law, w ∈ lw_tbl := fun w h => (List.mem_append.mp h).elim (fun h => (List.mem_append.mp h).elim (fun h => (List.mem_append.mp h).elim (fun h => wsL_law_in0 w h) (fun h => wsL_law_x0 w h)) (fun h => wsL_law_x1 w h)) (fun h => wsL_law_x2 w h)
