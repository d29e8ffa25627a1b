theorem mem_of_places {big ws : List Cond} (ps : List Nat) (hp : ws = ps.filterMap (fun i => big[i]?)) : ∀ w ∈ ws, w ∈ big := by
  intro w hw
  rw [hp] at hw
  obtain ⟨i, -, hi⟩ := List.mem_filterMap.mp hw
  exact List.mem_of_getElem? hi
set_option maxRecDepth 100000 in
theorem wl_wsL_law_r1 : ∀ w ∈ wsL_law_r1, w ∈ lw_tbl := mem_of_places [40, 41, 31, 630, 631, 36, 42, 43, 44, 45, 46, 47, 48, 49, 32, 173, 174, 104, 105, 33, 175, 120, 121, 34] rfl
set_option maxRecDepth 100000 in
theorem wl_wsL_law_r2 : ∀ w ∈ wsL_law_r2, w ∈ lw_tbl := mem_of_places [176, 142, 143, 35, 177, 50, 51, 52, 53, 103, 60, 61, 62, 63, 64, 65, 66, 67, 69, 71, 72, 74, 75, 55] rfl
set_option maxRecDepth 100000 in
theorem wl_wsL_law_r3 : ∀ w ∈ wsL_law_r3, w ∈ lw_tbl := mem_of_places [56, 58, 59, 106, 107, 108, 109, 110, 113, 112, 122, 123, 124, 125, 126, 127, 128, 129, 144, 145, 146, 147, 148, 149] rfl
set_option maxRecDepth 100000 in
theorem wl_wsL_law_r4 : ∀ w ∈ wsL_law_r4, w ∈ lw_tbl := mem_of_places [632, 633, 634, 635, 636, 637, 638, 639, 642, 644, 645, 646, 653, 189, 190, 191, 192, 193, 195, 0, 196, 197, 198, 199] rfl
set_option maxRecDepth 100000 in
theorem wl_wsL_law_r5 : ∀ w ∈ wsL_law_r5, w ∈ lw_tbl := mem_of_places [200, 202, 203, 204, 205, 37, 206, 207, 209, 208, 38, 210, 211, 212, 213, 218, 214, 215, 216, 217, 220, 221, 222, 224] rfl
set_option maxRecDepth 100000 in
theorem wl_wsL_law_r6 : ∀ w ∈ wsL_law_r6, w ∈ lw_tbl := mem_of_places [1, 225, 226, 227, 228, 229, 114, 230, 231, 232, 233, 234, 691, 692, 693, 694, 695, 696, 698, 2, 699, 641, 640, 235] rfl
set_option maxRecDepth 100000 in
theorem wl_wsL_law_r7 : ∀ w ∈ wsL_law_r7, w ∈ lw_tbl := mem_of_places [236, 237, 238, 239, 240, 241, 242, 257, 277, 243, 244, 245, 246, 247, 248, 249, 250, 252, 253, 255, 256, 258, 259, 260] rfl
set_option maxRecDepth 100000 in
theorem wl_wsL_law_r8 : ∀ w ∈ wsL_law_r8, w ∈ lw_tbl := mem_of_places [261, 262, 263, 264, 265, 266, 267, 268, 269, 271, 272, 273, 274, 275, 276, 278, 279, 280, 281, 700, 701, 702, 703, 718] rfl
set_option maxRecDepth 100000 in
theorem wl_wsL_law_r9 : ∀ w ∈ wsL_law_r9, w ∈ lw_tbl := mem_of_places [734, 704, 706, 3, 707, 708, 710, 4, 711, 712, 713, 714, 715, 716, 717, 719, 721, 5, 722, 723, 725, 6, 726, 727] rfl
set_option maxRecDepth 100000 in
theorem wl_wsL_law_r10 : ∀ w ∈ wsL_law_r10, w ∈ lw_tbl := mem_of_places [729, 7, 730, 731, 732, 733, 735, 737, 8, 738, 739, 741, 9, 742, 743, 745, 10, 746, 282, 283, 284, 285, 286, 287] rfl
set_option maxRecDepth 100000 in
theorem wl_wsL_law_r11 : ∀ w ∈ wsL_law_r11, w ∈ lw_tbl := mem_of_places [288, 289, 290, 291, 292, 293, 298, 294, 295, 296, 297, 299, 300, 301, 302, 747, 748, 749, 750, 751, 753, 11, 754, 755] rfl
set_option maxRecDepth 100000 in
theorem wl_wsL_law_r12 : ∀ w ∈ wsL_law_r12, w ∈ lw_tbl := mem_of_places [757, 12, 758, 759, 760, 762, 13, 763, 303, 304, 305, 306, 307, 308, 309, 310, 764, 765, 766, 767, 311, 312, 313, 314] rfl
set_option maxRecDepth 100000 in
theorem wl_wsL_law_r13 : ∀ w ∈ wsL_law_r13, w ∈ lw_tbl := mem_of_places [315, 316, 317, 318, 319, 320, 321, 322, 323, 324, 325, 326, 327, 328, 329, 330, 331, 332, 333, 334, 335, 336, 337, 338] rfl
set_option maxRecDepth 100000 in
theorem wl_wsL_law_r14 : ∀ w ∈ wsL_law_r14, w ∈ lw_tbl := mem_of_places [768, 769, 770, 771, 772, 774, 14, 775, 776, 778, 15, 779, 339, 340, 341, 342, 343, 344, 345, 346, 780, 781, 782, 783] rfl
set_option maxRecDepth 100000 in
theorem wl_wsL_law_r15 : ∀ w ∈ wsL_law_r15, w ∈ lw_tbl := mem_of_places [347, 348, 349, 350, 351, 352, 353, 354, 356, 130, 357, 358, 359, 360, 361, 362, 363, 364, 365, 366, 369, 370, 371, 372] rfl
set_option maxRecDepth 100000 in
theorem wl_wsL_law_r16 : ∀ w ∈ wsL_law_r16, w ∈ lw_tbl := mem_of_places [374, 375, 376, 377, 378, 379, 380, 381, 382, 383, 384, 385, 386, 387, 388, 389, 390, 391, 392, 393, 398, 394, 395, 396] rfl
set_option maxRecDepth 100000 in
theorem wl_wsL_law_r17 : ∀ w ∈ wsL_law_r17, w ∈ lw_tbl := mem_of_places [397, 399, 400, 401, 402, 403, 404, 405, 406, 407, 784, 785, 786, 787, 788, 790, 16, 791, 792, 794, 17, 795, 796, 798] rfl
set_option maxRecDepth 100000 in
theorem wl_wsL_law_r18 : ∀ w ∈ wsL_law_r18, w ∈ lw_tbl := mem_of_places [18, 799, 800, 802, 19, 803, 804, 805, 806, 807, 809, 20, 810, 408, 409, 410, 411, 412, 413, 414, 415, 417, 418, 811] rfl
set_option maxRecDepth 100000 in
theorem wl_wsL_law_r19 : ∀ w ∈ wsL_law_r19, w ∈ lw_tbl := mem_of_places [812, 813, 814, 419, 420, 421, 422, 424, 423, 425, 426, 427, 428, 433, 429, 430, 431, 432, 815, 816, 817, 818, 819, 821] rfl
set_option maxRecDepth 100000 in
theorem wl_wsL_law_r20 : ∀ w ∈ wsL_law_r20, w ∈ lw_tbl := mem_of_places [21, 822, 434, 435, 436, 437, 438, 439, 823, 824, 825, 826, 440, 441, 442, 443, 449, 444, 445, 446, 447, 448, 827, 828] rfl
set_option maxRecDepth 100000 in
theorem wl_wsL_law_r21 : ∀ w ∈ wsL_law_r21, w ∈ lw_tbl := mem_of_places [829, 830, 450, 451, 452, 453, 454, 455, 831, 832, 833, 834, 456, 457, 458, 459, 460, 461, 462, 463, 464, 465, 835, 836] rfl
set_option maxRecDepth 100000 in
theorem wl_wsL_law_r22 : ∀ w ∈ wsL_law_r22, w ∈ lw_tbl := mem_of_places [837, 838, 466, 467, 468, 469, 470, 839, 840, 841, 842, 471, 472, 473, 474, 843, 844, 845, 846, 847, 848, 849, 475, 476] rfl
set_option maxRecDepth 100000 in
theorem wl_wsL_law_r23 : ∀ w ∈ wsL_law_r23, w ∈ lw_tbl := mem_of_places [477, 478, 479, 480, 481, 482, 483, 850, 851, 852, 853, 484, 485, 486, 487, 854, 855, 856, 857, 488, 489, 490, 491, 492] rfl
set_option maxRecDepth 100000 in
theorem wl_wsL_law_r24 : ∀ w ∈ wsL_law_r24, w ∈ lw_tbl := mem_of_places [493, 494, 495, 496, 497, 498, 858, 859, 860, 861, 499, 500, 501, 502, 503, 504, 505, 506, 862, 863, 864, 865, 507, 508] rfl
set_option maxRecDepth 100000 in
theorem wl_wsL_law_r25 : ∀ w ∈ wsL_law_r25, w ∈ lw_tbl := mem_of_places [509, 510, 511, 512, 513, 514, 515, 516, 517, 518, 866, 867, 868, 869, 870, 872, 22, 873, 874, 875, 39, 876, 880, 882] rfl
set_option maxRecDepth 100000 in
theorem wl_wsL_law_r26 : ∀ w ∈ wsL_law_r26, w ∈ lw_tbl := mem_of_places [881, 39, 883, 877, 878, 879, 519, 520, 521, 522, 523, 524, 525, 526, 527, 528, 529, 530, 531, 532, 533, 534, 150, 884] rfl
set_option maxRecDepth 100000 in
theorem wl_wsL_law_r27 : ∀ w ∈ wsL_law_r27, w ∈ lw_tbl := mem_of_places [885, 886, 887, 643, 888, 890, 23, 891, 535, 536, 537, 538, 539, 540, 541, 542, 543, 892, 893, 894, 895, 544, 545, 546] rfl
set_option maxRecDepth 100000 in
theorem wl_wsL_law_r28 : ∀ w ∈ wsL_law_r28, w ∈ lw_tbl := mem_of_places [547, 548, 549, 550, 551, 552, 553, 896, 897, 898, 899, 555, 556, 557, 558, 559, 560, 561, 562, 900, 901, 902, 903, 563] rfl
set_option maxRecDepth 100000 in
theorem wl_wsL_law_r29 : ∀ w ∈ wsL_law_r29, w ∈ lw_tbl := mem_of_places [564, 565, 566, 567, 568, 569, 570, 152, 151, 571, 572, 573, 574, 575, 576, 577, 578, 580, 581, 582, 583, 584, 585, 586] rfl
set_option maxRecDepth 100000 in
theorem wl_wsL_law_r30 : ∀ w ∈ wsL_law_r30, w ∈ lw_tbl := mem_of_places [587, 588, 589, 590, 591, 592, 593, 594, 595, 596, 597, 153, 154, 155, 598, 599, 600, 601, 602, 603, 604, 605, 606, 607] rfl
set_option maxRecDepth 100000 in
theorem wl_wsL_law_r31 : ∀ w ∈ wsL_law_r31, w ∈ lw_tbl := mem_of_places [608, 609, 610, 611, 612, 613, 614, 615, 616, 617, 618, 619, 620, 904, 905, 906, 907, 648, 649, 650, 908, 910, 24, 911] rfl
set_option maxRecDepth 100000 in
theorem wl_wsL_law_r32 : ∀ w ∈ wsL_law_r32, w ∈ lw_tbl := mem_of_places [647, 651, 912, 914, 25, 915, 652, 916, 918, 26, 919, 920, 921, 922, 923, 925, 27, 926, 927, 929, 28, 930, 931, 933] rfl
set_option maxRecDepth 100000 in
theorem wl_wsL_law_r33 : ∀ w ∈ wsL_law_r33, w ∈ lw_tbl := mem_of_places [29, 934, 935, 936, 937, 938, 939, 940, 621, 622, 623, 624, 629, 625, 626, 627, 628, 941, 942, 943, 944] rfl
set_option maxRecDepth 100000 in
theorem wl_wsX40 : ∀ w ∈ wsX40, w ∈ lw_tbl := mem_of_places [178, 180, 182, 184, 186] rfl
set_option maxRecDepth 100000 in
theorem wl_wsX50 : ∀ w ∈ wsX50, w ∈ lw_tbl := mem_of_places [654, 656, 658, 660, 662, 664, 666, 668, 670, 672, 674, 676, 678, 680, 682, 684, 686, 688] rfl
set_option maxRecDepth 100000 in
theorem wl_wsX00 : ∀ w ∈ wsX00, w ∈ lw_tbl := mem_of_places [76, 78, 80, 82, 84, 86, 88, 90, 92, 94, 96, 98, 100] rfl
set_option maxRecDepth 100000 in
theorem wl_wsX10 : ∀ w ∈ wsX10, w ∈ lw_tbl := mem_of_places [115, 117] rfl
set_option maxRecDepth 100000 in
theorem wl_wsX30 : ∀ w ∈ wsX30, w ∈ lw_tbl := mem_of_places [131, 133, 135, 137, 139] rfl
set_option maxRecDepth 100000 in
theorem wl_wsX20 : ∀ w ∈ wsX20, w ∈ lw_tbl := mem_of_places [156, 158, 160, 162, 164, 166, 168, 170] rfl
theorem wsL_law_in : ∀ w ∈ wsL_law, w ∈ lw_tbl := by
  show ∀ w ∈ (wsL_law_r1 ++ (wsL_law_r2 ++ (wsL_law_r3 ++ (wsL_law_r4 ++ (wsL_law_r5 ++ (wsL_law_r6 ++ (wsL_law_r7 ++ (wsL_law_r8 ++ (wsL_law_r9 ++ (wsL_law_r10 ++ (wsL_law_r11 ++ (wsL_law_r12 ++ (wsL_law_r13 ++ (wsL_law_r14 ++ (wsL_law_r15 ++ (wsL_law_r16 ++ (wsL_law_r17 ++ (wsL_law_r18 ++ (wsL_law_r19 ++ (wsL_law_r20 ++ (wsL_law_r21 ++ (wsL_law_r22 ++ (wsL_law_r23 ++ (wsL_law_r24 ++ (wsL_law_r25 ++ (wsL_law_r26 ++ (wsL_law_r27 ++ (wsL_law_r28 ++ (wsL_law_r29 ++ (wsL_law_r30 ++ (wsL_law_r31 ++ (wsL_law_r32 ++ wsL_law_r33)))))))))))))))))))))))))))))))) ++ wsX40 ++ wsX50 ++ wsX00 ++ wsX10 ++ wsX30 ++ wsX20 ++ ([] : List Cond), w ∈ lw_tbl
  exact List.forall_mem_append.mpr ⟨List.forall_mem_append.mpr ⟨List.forall_mem_append.mpr ⟨List.forall_mem_append.mpr ⟨List.forall_mem_append.mpr ⟨List.forall_mem_append.mpr ⟨List.forall_mem_append.mpr ⟨List.forall_mem_append.mpr ⟨wl_wsL_law_r1, List.forall_mem_append.mpr ⟨wl_wsL_law_r2, List.forall_mem_append.mpr ⟨wl_wsL_law_r3, List.forall_mem_append.mpr ⟨wl_wsL_law_r4, List.forall_mem_append.mpr ⟨wl_wsL_law_r5, List.forall_mem_append.mpr ⟨wl_wsL_law_r6, List.forall_mem_append.mpr ⟨wl_wsL_law_r7, List.forall_mem_append.mpr ⟨wl_wsL_law_r8, List.forall_mem_append.mpr ⟨wl_wsL_law_r9, List.forall_mem_append.mpr ⟨wl_wsL_law_r10, List.forall_mem_append.mpr ⟨wl_wsL_law_r11, List.forall_mem_append.mpr ⟨wl_wsL_law_r12, List.forall_mem_append.mpr ⟨wl_wsL_law_r13, List.forall_mem_append.mpr ⟨wl_wsL_law_r14, List.forall_mem_append.mpr ⟨wl_wsL_law_r15, List.forall_mem_append.mpr ⟨wl_wsL_law_r16, List.forall_mem_append.mpr ⟨wl_wsL_law_r17, List.forall_mem_append.mpr ⟨wl_wsL_law_r18, List.forall_mem_append.mpr ⟨wl_wsL_law_r19, List.forall_mem_append.mpr ⟨wl_wsL_law_r20, List.forall_mem_append.mpr ⟨wl_wsL_law_r21, List.forall_mem_append.mpr ⟨wl_wsL_law_r22, List.forall_mem_append.mpr ⟨wl_wsL_law_r23, List.forall_mem_append.mpr ⟨wl_wsL_law_r24, List.forall_mem_append.mpr ⟨wl_wsL_law_r25, List.forall_mem_append.mpr ⟨wl_wsL_law_r26, List.forall_mem_append.mpr ⟨wl_wsL_law_r27, List.forall_mem_append.mpr ⟨wl_wsL_law_r28, List.forall_mem_append.mpr ⟨wl_wsL_law_r29, List.forall_mem_append.mpr ⟨wl_wsL_law_r30, List.forall_mem_append.mpr ⟨wl_wsL_law_r31, List.forall_mem_append.mpr ⟨wl_wsL_law_r32, wl_wsL_law_r33⟩⟩⟩⟩⟩⟩⟩⟩⟩⟩⟩⟩⟩⟩⟩⟩⟩⟩⟩⟩⟩⟩⟩⟩⟩⟩⟩⟩⟩⟩⟩⟩, wl_wsX40⟩, wl_wsX50⟩, wl_wsX00⟩, wl_wsX10⟩, wl_wsX30⟩, wl_wsX20⟩, (fun _ h => absurd h List.not_mem_nil)⟩
theorem inlX0 : ∀ w ∈ wsX00, w ∈ wsL_law := fun _ h => List.mem_append_left _ (List.mem_append_left _ (List.mem_append_left _ (List.mem_append_left _ (List.mem_append_right _ h))))
theorem inX0 : ∀ w ∈ wsX00, w ∈ lw_tbl := fun w h => wsL_law_in w (inlX0 w h)
theorem inlX1 : ∀ w ∈ wsX10, w ∈ wsL_law := fun _ h => List.mem_append_left _ (List.mem_append_left _ (List.mem_append_left _ (List.mem_append_right _ h)))
theorem inX1 : ∀ w ∈ wsX10, w ∈ lw_tbl := fun w h => wsL_law_in w (inlX1 w h)
theorem inlX2 : ∀ w ∈ wsX20, w ∈ wsL_law := fun _ h => List.mem_append_left _ (List.mem_append_right _ h)
theorem inX2 : ∀ w ∈ wsX20, w ∈ lw_tbl := fun w h => wsL_law_in w (inlX2 w h)
theorem inlX3 : ∀ w ∈ wsX30, w ∈ wsL_law := fun _ h => List.mem_append_left _ (List.mem_append_left _ (List.mem_append_right _ h))
theorem inX3 : ∀ w ∈ wsX30, w ∈ lw_tbl := fun w h => wsL_law_in w (inlX3 w h)
theorem inlX4 : ∀ w ∈ wsX40, w ∈ wsL_law := fun _ h => List.mem_append_left _ (List.mem_append_left _ (List.mem_append_left _ (List.mem_append_left _ (List.mem_append_left _ (List.mem_append_left _ (List.mem_append_right _ h))))))
theorem inX4 : ∀ w ∈ wsX40, w ∈ lw_tbl := fun w h => wsL_law_in w (inlX4 w h)
theorem inlX5 : ∀ w ∈ wsX50, w ∈ wsL_law := fun _ h => List.mem_append_left _ (List.mem_append_left _ (List.mem_append_left _ (List.mem_append_left _ (List.mem_append_left _ (List.mem_append_right _ h)))))
theorem inX5 : ∀ w ∈ wsX50, w ∈ lw_tbl := fun w h => wsL_law_in w (inlX5 w h)
