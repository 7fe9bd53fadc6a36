set_option maxRecDepth 20000 in
theorem wsL_law0_r1_in : ∀ w ∈ wsL_law0_r1, w ∈ lw_tbl := fun w h => (goodIn_r wsL_law0_r1 [60, 61, 44, 610, 611, 49, 832, 263, 264, 43, 265, 62, 63, 64, 65, 66, 67, 68, 69, 45, 70, 71, 72, 73] (by decide +kernel) (by decide +kernel) w h).1
set_option maxRecDepth 20000 in
theorem wsL_law0_r2_in : ∀ w ∈ wsL_law0_r2, w ∈ lw_tbl := fun w h => (goodIn_r wsL_law0_r2 [193, 74, 75, 46, 194, 119, 120, 47, 195, 166, 167, 48, 196, 197, 77, 78, 79, 117, 80, 82, 84, 86, 118, 88] (by decide +kernel) (by decide +kernel) w h).1
set_option maxRecDepth 20000 in
theorem wsL_law0_r3_in : ∀ w ∈ wsL_law0_r3, w ∈ lw_tbl := fun w h => (goodIn_r wsL_law0_r3 [90, 92, 94, 96, 122, 123, 124, 125, 127, 129, 131, 133, 135, 137, 139, 141, 143, 169, 170, 171, 172, 174, 176, 178] (by decide +kernel) (by decide +kernel) w h).1
set_option maxRecDepth 20000 in
theorem wsL_law0_r4_in : ∀ w ∈ wsL_law0_r4, w ∈ lw_tbl := fun w h => (goodIn_r wsL_law0_r4 [180, 612, 613, 614, 615, 621, 622, 623, 624, 625, 626, 627, 629, 630, 631, 632, 633, 634, 635, 636, 637, 639, 640, 641] (by decide +kernel) (by decide +kernel) w h).1
set_option maxRecDepth 20000 in
theorem wsL_law0_r5_in : ∀ w ∈ wsL_law0_r5, w ∈ lw_tbl := fun w h => (goodIn_r wsL_law0_r5 [642, 643, 617, 266, 267, 268, 269, 270, 271, 272, 273, 274, 348, 54, 275, 276, 277, 278, 53, 366, 9, 367, 705, 706] (by decide +kernel) (by decide +kernel) w h).1
set_option maxRecDepth 20000 in
theorem wsL_law0_r6_in : ∀ w ∈ wsL_law0_r6, w ∈ lw_tbl := fun w h => (goodIn_r wsL_law0_r6 [707, 708, 620, 616, 709, 711, 29, 712, 713, 714, 715, 701, 702, 703, 704, 368, 369, 370, 371, 372, 373, 374, 379, 10] (by decide +kernel) (by decide +kernel) w h).1
set_option maxRecDepth 20000 in
theorem wsL_law0_r7_in : ∀ w ∈ wsL_law0_r7, w ∈ lw_tbl := fun w h => (goodIn_r wsL_law0_r7 [380, 221, 223, 2, 224, 225, 226, 227, 230, 3, 231, 716, 717, 718, 719, 628, 618, 720, 722, 30, 723, 724, 725, 726] (by decide +kernel) (by decide +kernel) w h).1
set_option maxRecDepth 20000 in
theorem wsL_law0_r8_in : ∀ w ∈ wsL_law0_r8, w ∈ lw_tbl := fun w h => (goodIn_r wsL_law0_r8 [381, 382, 383, 384, 385, 386, 387, 388, 390, 11, 391, 392, 394, 12, 395, 398, 13, 399, 400, 401, 403, 14, 404, 407] (by decide +kernel) (by decide +kernel) w h).1
set_option maxRecDepth 20000 in
theorem wsL_law0_r9_in : ∀ w ∈ wsL_law0_r9, w ∈ lw_tbl := fun w h => (goodIn_r wsL_law0_r9 [15, 408, 252, 219, 1, 220, 411, 16, 412, 415, 17, 416, 417, 419, 18, 420, 423, 19, 424, 425, 427, 20, 428, 431] (by decide +kernel) (by decide +kernel) w h).1
set_option maxRecDepth 20000 in
theorem wsL_law0_r10_in : ∀ w ∈ wsL_law0_r10, w ∈ lw_tbl := fun w h => (goodIn_r wsL_law0_r10 [21, 432, 433, 436, 22, 437, 248, 250, 6, 251, 438, 440, 23, 441, 444, 24, 445, 446, 727, 728, 729, 730, 638, 731] (by decide +kernel) (by decide +kernel) w h).1
set_option maxRecDepth 20000 in
theorem wsL_law0_r11_in : ∀ w ∈ wsL_law0_r11, w ∈ lw_tbl := fun w h => (goodIn_r wsL_law0_r11 [733, 31, 734, 619, 735, 737, 32, 738, 739, 741, 33, 742, 743, 745, 34, 746, 747, 749, 35, 750, 751, 753, 36, 754] (by decide +kernel) (by decide +kernel) w h).1
set_option maxRecDepth 20000 in
theorem wsL_law0_r12_in : ∀ w ∈ wsL_law0_r12, w ∈ lw_tbl := fun w h => (goodIn_r wsL_law0_r12 [755, 757, 37, 758, 447, 448, 449, 450, 451, 452, 453, 454, 455, 55, 759, 760, 761, 762, 471, 472, 473, 475, 476, 477] (by decide +kernel) (by decide +kernel) w h).1
set_option maxRecDepth 20000 in
theorem wsL_law0_r13_in : ∀ w ∈ wsL_law0_r13, w ∈ lw_tbl := fun w h => (goodIn_r wsL_law0_r13 [478, 479, 480, 57, 500, 502, 25, 503, 763, 764, 765, 766, 505, 506, 507, 508, 509, 510, 511, 246, 5, 247, 253, 254] (by decide +kernel) (by decide +kernel) w h).1
set_option maxRecDepth 20000 in
theorem wsL_law0_r14_in : ∀ w ∈ wsL_law0_r14, w ∈ lw_tbl := fun w h => (goodIn_r wsL_law0_r14 [58, 255, 256, 257, 258, 232, 233, 234, 767, 768, 769, 770, 771, 773, 38, 774, 775, 777, 39, 778, 512, 513, 514, 515] (by decide +kernel) (by decide +kernel) w h).1
set_option maxRecDepth 20000 in
theorem wsL_law0_r15_in : ∀ w ∈ wsL_law0_r15, w ∈ lw_tbl := fun w h => (goodIn_r wsL_law0_r15 [516, 517, 518, 519, 523, 59, 520, 521, 522, 779, 780, 781, 782, 540, 541, 542, 543, 544, 545, 546, 213, 215, 0, 216] (by decide +kernel) (by decide +kernel) w h).1
set_option maxRecDepth 20000 in
theorem wsL_law0_r16_in : ∀ w ∈ wsL_law0_r16, w ∈ lw_tbl := fun w h => (goodIn_r wsL_law0_r16 [783, 784, 785, 786, 547, 548, 549, 550, 551, 552, 553, 787, 788, 789, 790, 209, 210, 211, 212, 791, 792, 793, 794, 554] (by decide +kernel) (by decide +kernel) w h).1
set_option maxRecDepth 20000 in
theorem wsL_law0_r17_in : ∀ w ∈ wsL_law0_r17, w ∈ lw_tbl := fun w h => (goodIn_r wsL_law0_r17 [555, 556, 557, 558, 559, 560, 561, 563, 26, 564, 795, 796, 797, 798, 799, 801, 40, 802, 566, 567, 568, 569, 570, 571] (by decide +kernel) (by decide +kernel) w h).1
set_option maxRecDepth 20000 in
theorem wsL_law0_r18_in : ∀ w ∈ wsL_law0_r18, w ∈ lw_tbl := fun w h => (goodIn_r wsL_law0_r18 [572, 803, 804, 805, 806, 573, 574, 575, 576, 577, 578, 579, 581, 582, 583, 584, 594, 587, 27, 588, 591, 28, 592, 807] (by decide +kernel) (by decide +kernel) w h).1
set_option maxRecDepth 20000 in
theorem wsL_law0_r19_in : ∀ w ∈ wsL_law0_r19, w ∈ lw_tbl := fun w h => (goodIn_r wsL_law0_r19 [808, 809, 810, 811, 812, 814, 41, 815, 816, 818, 42, 819, 595, 596, 597, 598, 599, 600, 601, 820, 821, 822, 823, 603] (by decide +kernel) (by decide +kernel) w h).1
set_option maxRecDepth 20000 in
theorem wsL_law0_r20_in : ∀ w ∈ wsL_law0_r20, w ∈ lw_tbl := fun w h => (goodIn_r wsL_law0_r20 [604, 605, 606, 607, 608, 609, 824, 825, 826, 827, 235, 236, 237, 238, 241, 4, 242, 261, 7, 262, 828, 829, 830, 831] (by decide +kernel) (by decide +kernel) w h).1
set_option maxRecDepth 20000 in
theorem wsX30_in9 : ∀ w ∈ wsX30, w ∈ lw_tbl := fun w h => (goodIn_r wsX30 [198, 200, 202, 204, 206] (by decide +kernel) (by decide +kernel) w h).1
set_option maxRecDepth 20000 in
theorem wsX40_in9 : ∀ w ∈ wsX40, w ∈ lw_tbl := fun w h => (goodIn_r wsX40 [644, 646, 648, 650, 652, 654, 656, 658, 660, 662, 664, 666, 668, 670, 672, 674, 676, 678, 680, 682, 684, 686, 688, 690, 692, 694, 696, 698] (by decide +kernel) (by decide +kernel) w h).1
set_option maxRecDepth 20000 in
theorem wsX20_in9 : ∀ w ∈ wsX20, w ∈ lw_tbl := fun w h => (goodIn_r wsX20 [98, 100, 102, 104, 106, 108, 110, 112, 114] (by decide +kernel) (by decide +kernel) w h).1
set_option maxRecDepth 20000 in
theorem wsX00_in9 : ∀ w ∈ wsX00, w ∈ lw_tbl := fun w h => (goodIn_r wsX00 [145, 147, 149, 151, 153, 155, 157, 159, 161, 163] (by decide +kernel) (by decide +kernel) w h).1
set_option maxRecDepth 20000 in
theorem wsX10_in9 : ∀ w ∈ wsX10, w ∈ lw_tbl := fun w h => (goodIn_r wsX10 [182, 184, 186, 188, 190] (by decide +kernel) (by decide +kernel) w h).1
set_option maxRecDepth 20000 in
theorem wsJx000600_in9 : ∀ w ∈ wsJx000600, w ∈ lw_tbl := fun w h => (goodIn_r wsJx000600 [485, 486, 487, 488, 489, 498] (by decide +kernel) (by decide +kernel) w h).1
theorem wsLr_20 : ∀ w ∈ wsL_law0_r20, w ∈ lw_tbl := wsL_law0_r20_in
theorem wsLr_19 : ∀ w ∈ wsL_law0_r19 ++ wsL_law0_r20, w ∈ lw_tbl := fun w h => (List.mem_append.mp h).elim (wsL_law0_r19_in w) (wsLr_20 w)
theorem wsLr_18 : ∀ w ∈ wsL_law0_r18 ++ (wsL_law0_r19 ++ wsL_law0_r20), w ∈ lw_tbl := fun w h => (List.mem_append.mp h).elim (wsL_law0_r18_in w) (wsLr_19 w)
theorem wsLr_17 : ∀ w ∈ wsL_law0_r17 ++ (wsL_law0_r18 ++ (wsL_law0_r19 ++ wsL_law0_r20)), w ∈ lw_tbl := fun w h => (List.mem_append.mp h).elim (wsL_law0_r17_in w) (wsLr_18 w)
theorem wsLr_16 : ∀ w ∈ wsL_law0_r16 ++ (wsL_law0_r17 ++ (wsL_law0_r18 ++ (wsL_law0_r19 ++ wsL_law0_r20))), w ∈ lw_tbl := fun w h => (List.mem_append.mp h).elim (wsL_law0_r16_in w) (wsLr_17 w)
theorem wsLr_15 : ∀ w ∈ wsL_law0_r15 ++ (wsL_law0_r16 ++ (wsL_law0_r17 ++ (wsL_law0_r18 ++ (wsL_law0_r19 ++ wsL_law0_r20)))), w ∈ lw_tbl := fun w h => (List.mem_append.mp h).elim (wsL_law0_r15_in w) (wsLr_16 w)
theorem wsLr_14 : ∀ w ∈ wsL_law0_r14 ++ (wsL_law0_r15 ++ (wsL_law0_r16 ++ (wsL_law0_r17 ++ (wsL_law0_r18 ++ (wsL_law0_r19 ++ wsL_law0_r20))))), w ∈ lw_tbl := fun w h => (List.mem_append.mp h).elim (wsL_law0_r14_in w) (wsLr_15 w)
theorem wsLr_13 : ∀ w ∈ wsL_law0_r13 ++ (wsL_law0_r14 ++ (wsL_law0_r15 ++ (wsL_law0_r16 ++ (wsL_law0_r17 ++ (wsL_law0_r18 ++ (wsL_law0_r19 ++ wsL_law0_r20)))))), w ∈ lw_tbl := fun w h => (List.mem_append.mp h).elim (wsL_law0_r13_in w) (wsLr_14 w)
theorem wsLr_12 : ∀ w ∈ wsL_law0_r12 ++ (wsL_law0_r13 ++ (wsL_law0_r14 ++ (wsL_law0_r15 ++ (wsL_law0_r16 ++ (wsL_law0_r17 ++ (wsL_law0_r18 ++ (wsL_law0_r19 ++ wsL_law0_r20))))))), w ∈ lw_tbl := fun w h => (List.mem_append.mp h).elim (wsL_law0_r12_in w) (wsLr_13 w)
theorem wsLr_11 : ∀ w ∈ wsL_law0_r11 ++ (wsL_law0_r12 ++ (wsL_law0_r13 ++ (wsL_law0_r14 ++ (wsL_law0_r15 ++ (wsL_law0_r16 ++ (wsL_law0_r17 ++ (wsL_law0_r18 ++ (wsL_law0_r19 ++ wsL_law0_r20)))))))), w ∈ lw_tbl := fun w h => (List.mem_append.mp h).elim (wsL_law0_r11_in w) (wsLr_12 w)
theorem wsLr_10 : ∀ w ∈ wsL_law0_r10 ++ (wsL_law0_r11 ++ (wsL_law0_r12 ++ (wsL_law0_r13 ++ (wsL_law0_r14 ++ (wsL_law0_r15 ++ (wsL_law0_r16 ++ (wsL_law0_r17 ++ (wsL_law0_r18 ++ (wsL_law0_r19 ++ wsL_law0_r20))))))))), w ∈ lw_tbl := fun w h => (List.mem_append.mp h).elim (wsL_law0_r10_in w) (wsLr_11 w)
theorem wsLr_9 : ∀ w ∈ wsL_law0_r9 ++ (wsL_law0_r10 ++ (wsL_law0_r11 ++ (wsL_law0_r12 ++ (wsL_law0_r13 ++ (wsL_law0_r14 ++ (wsL_law0_r15 ++ (wsL_law0_r16 ++ (wsL_law0_r17 ++ (wsL_law0_r18 ++ (wsL_law0_r19 ++ wsL_law0_r20)))))))))), w ∈ lw_tbl := fun w h => (List.mem_append.mp h).elim (wsL_law0_r9_in w) (wsLr_10 w)
theorem wsLr_8 : ∀ w ∈ wsL_law0_r8 ++ (wsL_law0_r9 ++ (wsL_law0_r10 ++ (wsL_law0_r11 ++ (wsL_law0_r12 ++ (wsL_law0_r13 ++ (wsL_law0_r14 ++ (wsL_law0_r15 ++ (wsL_law0_r16 ++ (wsL_law0_r17 ++ (wsL_law0_r18 ++ (wsL_law0_r19 ++ wsL_law0_r20))))))))))), w ∈ lw_tbl := fun w h => (List.mem_append.mp h).elim (wsL_law0_r8_in w) (wsLr_9 w)
theorem wsLr_7 : ∀ w ∈ wsL_law0_r7 ++ (wsL_law0_r8 ++ (wsL_law0_r9 ++ (wsL_law0_r10 ++ (wsL_law0_r11 ++ (wsL_law0_r12 ++ (wsL_law0_r13 ++ (wsL_law0_r14 ++ (wsL_law0_r15 ++ (wsL_law0_r16 ++ (wsL_law0_r17 ++ (wsL_law0_r18 ++ (wsL_law0_r19 ++ wsL_law0_r20)))))))))))), w ∈ lw_tbl := fun w h => (List.mem_append.mp h).elim (wsL_law0_r7_in w) (wsLr_8 w)
theorem wsLr_6 : ∀ w ∈ wsL_law0_r6 ++ (wsL_law0_r7 ++ (wsL_law0_r8 ++ (wsL_law0_r9 ++ (wsL_law0_r10 ++ (wsL_law0_r11 ++ (wsL_law0_r12 ++ (wsL_law0_r13 ++ (wsL_law0_r14 ++ (wsL_law0_r15 ++ (wsL_law0_r16 ++ (wsL_law0_r17 ++ (wsL_law0_r18 ++ (wsL_law0_r19 ++ wsL_law0_r20))))))))))))), w ∈ lw_tbl := fun w h => (List.mem_append.mp h).elim (wsL_law0_r6_in w) (wsLr_7 w)
theorem wsLr_5 : ∀ w ∈ wsL_law0_r5 ++ (wsL_law0_r6 ++ (wsL_law0_r7 ++ (wsL_law0_r8 ++ (wsL_law0_r9 ++ (wsL_law0_r10 ++ (wsL_law0_r11 ++ (wsL_law0_r12 ++ (wsL_law0_r13 ++ (wsL_law0_r14 ++ (wsL_law0_r15 ++ (wsL_law0_r16 ++ (wsL_law0_r17 ++ (wsL_law0_r18 ++ (wsL_law0_r19 ++ wsL_law0_r20)))))))))))))), w ∈ lw_tbl := fun w h => (List.mem_append.mp h).elim (wsL_law0_r5_in w) (wsLr_6 w)
theorem wsLr_4 : ∀ w ∈ wsL_law0_r4 ++ (wsL_law0_r5 ++ (wsL_law0_r6 ++ (wsL_law0_r7 ++ (wsL_law0_r8 ++ (wsL_law0_r9 ++ (wsL_law0_r10 ++ (wsL_law0_r11 ++ (wsL_law0_r12 ++ (wsL_law0_r13 ++ (wsL_law0_r14 ++ (wsL_law0_r15 ++ (wsL_law0_r16 ++ (wsL_law0_r17 ++ (wsL_law0_r18 ++ (wsL_law0_r19 ++ wsL_law0_r20))))))))))))))), w ∈ lw_tbl := fun w h => (List.mem_append.mp h).elim (wsL_law0_r4_in w) (wsLr_5 w)
theorem wsLr_3 : ∀ w ∈ wsL_law0_r3 ++ (wsL_law0_r4 ++ (wsL_law0_r5 ++ (wsL_law0_r6 ++ (wsL_law0_r7 ++ (wsL_law0_r8 ++ (wsL_law0_r9 ++ (wsL_law0_r10 ++ (wsL_law0_r11 ++ (wsL_law0_r12 ++ (wsL_law0_r13 ++ (wsL_law0_r14 ++ (wsL_law0_r15 ++ (wsL_law0_r16 ++ (wsL_law0_r17 ++ (wsL_law0_r18 ++ (wsL_law0_r19 ++ wsL_law0_r20)))))))))))))))), w ∈ lw_tbl := fun w h => (List.mem_append.mp h).elim (wsL_law0_r3_in w) (wsLr_4 w)
theorem wsLr_2 : ∀ w ∈ wsL_law0_r2 ++ (wsL_law0_r3 ++ (wsL_law0_r4 ++ (wsL_law0_r5 ++ (wsL_law0_r6 ++ (wsL_law0_r7 ++ (wsL_law0_r8 ++ (wsL_law0_r9 ++ (wsL_law0_r10 ++ (wsL_law0_r11 ++ (wsL_law0_r12 ++ (wsL_law0_r13 ++ (wsL_law0_r14 ++ (wsL_law0_r15 ++ (wsL_law0_r16 ++ (wsL_law0_r17 ++ (wsL_law0_r18 ++ (wsL_law0_r19 ++ wsL_law0_r20))))))))))))))))), w ∈ lw_tbl := fun w h => (List.mem_append.mp h).elim (wsL_law0_r2_in w) (wsLr_3 w)
theorem wsLr_1 : ∀ w ∈ wsL_law0_r1 ++ (wsL_law0_r2 ++ (wsL_law0_r3 ++ (wsL_law0_r4 ++ (wsL_law0_r5 ++ (wsL_law0_r6 ++ (wsL_law0_r7 ++ (wsL_law0_r8 ++ (wsL_law0_r9 ++ (wsL_law0_r10 ++ (wsL_law0_r11 ++ (wsL_law0_r12 ++ (wsL_law0_r13 ++ (wsL_law0_r14 ++ (wsL_law0_r15 ++ (wsL_law0_r16 ++ (wsL_law0_r17 ++ (wsL_law0_r18 ++ (wsL_law0_r19 ++ wsL_law0_r20)))))))))))))))))), w ∈ lw_tbl := fun w h => (List.mem_append.mp h).elim (wsL_law0_r1_in w) (wsLr_2 w)
theorem wsLs_0 : ∀ w ∈ (wsL_law0_r1 ++ (wsL_law0_r2 ++ (wsL_law0_r3 ++ (wsL_law0_r4 ++ (wsL_law0_r5 ++ (wsL_law0_r6 ++ (wsL_law0_r7 ++ (wsL_law0_r8 ++ (wsL_law0_r9 ++ (wsL_law0_r10 ++ (wsL_law0_r11 ++ (wsL_law0_r12 ++ (wsL_law0_r13 ++ (wsL_law0_r14 ++ (wsL_law0_r15 ++ (wsL_law0_r16 ++ (wsL_law0_r17 ++ (wsL_law0_r18 ++ (wsL_law0_r19 ++ wsL_law0_r20))))))))))))))))))) ++ wsX30, w ∈ lw_tbl := fun w h => (List.mem_append.mp h).elim (wsLr_1 w) (wsX30_in9 w)
theorem wsLs_1 : ∀ w ∈ (wsL_law0_r1 ++ (wsL_law0_r2 ++ (wsL_law0_r3 ++ (wsL_law0_r4 ++ (wsL_law0_r5 ++ (wsL_law0_r6 ++ (wsL_law0_r7 ++ (wsL_law0_r8 ++ (wsL_law0_r9 ++ (wsL_law0_r10 ++ (wsL_law0_r11 ++ (wsL_law0_r12 ++ (wsL_law0_r13 ++ (wsL_law0_r14 ++ (wsL_law0_r15 ++ (wsL_law0_r16 ++ (wsL_law0_r17 ++ (wsL_law0_r18 ++ (wsL_law0_r19 ++ wsL_law0_r20))))))))))))))))))) ++ wsX30 ++ wsX40, w ∈ lw_tbl := fun w h => (List.mem_append.mp h).elim (wsLs_0 w) (wsX40_in9 w)
theorem wsLs_2 : ∀ w ∈ (wsL_law0_r1 ++ (wsL_law0_r2 ++ (wsL_law0_r3 ++ (wsL_law0_r4 ++ (wsL_law0_r5 ++ (wsL_law0_r6 ++ (wsL_law0_r7 ++ (wsL_law0_r8 ++ (wsL_law0_r9 ++ (wsL_law0_r10 ++ (wsL_law0_r11 ++ (wsL_law0_r12 ++ (wsL_law0_r13 ++ (wsL_law0_r14 ++ (wsL_law0_r15 ++ (wsL_law0_r16 ++ (wsL_law0_r17 ++ (wsL_law0_r18 ++ (wsL_law0_r19 ++ wsL_law0_r20))))))))))))))))))) ++ wsX30 ++ wsX40 ++ wsX20, w ∈ lw_tbl := fun w h => (List.mem_append.mp h).elim (wsLs_1 w) (wsX20_in9 w)
theorem wsLs_3 : ∀ w ∈ (wsL_law0_r1 ++ (wsL_law0_r2 ++ (wsL_law0_r3 ++ (wsL_law0_r4 ++ (wsL_law0_r5 ++ (wsL_law0_r6 ++ (wsL_law0_r7 ++ (wsL_law0_r8 ++ (wsL_law0_r9 ++ (wsL_law0_r10 ++ (wsL_law0_r11 ++ (wsL_law0_r12 ++ (wsL_law0_r13 ++ (wsL_law0_r14 ++ (wsL_law0_r15 ++ (wsL_law0_r16 ++ (wsL_law0_r17 ++ (wsL_law0_r18 ++ (wsL_law0_r19 ++ wsL_law0_r20))))))))))))))))))) ++ wsX30 ++ wsX40 ++ wsX20 ++ wsX00, w ∈ lw_tbl := fun w h => (List.mem_append.mp h).elim (wsLs_2 w) (wsX00_in9 w)
theorem wsLs_4 : ∀ w ∈ (wsL_law0_r1 ++ (wsL_law0_r2 ++ (wsL_law0_r3 ++ (wsL_law0_r4 ++ (wsL_law0_r5 ++ (wsL_law0_r6 ++ (wsL_law0_r7 ++ (wsL_law0_r8 ++ (wsL_law0_r9 ++ (wsL_law0_r10 ++ (wsL_law0_r11 ++ (wsL_law0_r12 ++ (wsL_law0_r13 ++ (wsL_law0_r14 ++ (wsL_law0_r15 ++ (wsL_law0_r16 ++ (wsL_law0_r17 ++ (wsL_law0_r18 ++ (wsL_law0_r19 ++ wsL_law0_r20))))))))))))))))))) ++ wsX30 ++ wsX40 ++ wsX20 ++ wsX00 ++ wsX10, w ∈ lw_tbl := fun w h => (List.mem_append.mp h).elim (wsLs_3 w) (wsX10_in9 w)
theorem wsLs_5 : ∀ w ∈ (wsL_law0_r1 ++ (wsL_law0_r2 ++ (wsL_law0_r3 ++ (wsL_law0_r4 ++ (wsL_law0_r5 ++ (wsL_law0_r6 ++ (wsL_law0_r7 ++ (wsL_law0_r8 ++ (wsL_law0_r9 ++ (wsL_law0_r10 ++ (wsL_law0_r11 ++ (wsL_law0_r12 ++ (wsL_law0_r13 ++ (wsL_law0_r14 ++ (wsL_law0_r15 ++ (wsL_law0_r16 ++ (wsL_law0_r17 ++ (wsL_law0_r18 ++ (wsL_law0_r19 ++ wsL_law0_r20))))))))))))))))))) ++ wsX30 ++ wsX40 ++ wsX20 ++ wsX00 ++ wsX10 ++ wsJx000600, w ∈ lw_tbl := fun w h => (List.mem_append.mp h).elim (wsLs_4 w) (wsJx000600_in9 w)
theorem wsL_law_in0 : ∀ w ∈ wsL_law0, w ∈ lw_tbl := fun w h => (List.mem_append.mp h).elim (wsLs_5 w) (fun h => absurd h List.not_mem_nil)
