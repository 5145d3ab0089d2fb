theorem mem_pos {big : List Cond} (ws : List Cond) (ps : List Nat) (hp : ws = ps.filterMap (fun i => big[i]?)) : ∀ w ∈ ws, w ∈ big := fun w hw => by
  rw [hp] at hw
  obtain ⟨i, -, hi⟩ := List.mem_filterMap.mp hw
  exact List.mem_of_getElem? hi
set_option maxRecDepth 20000 in
theorem wsL_in_r1 : ∀ w ∈ wsL_law_r1, w ∈ lw_tbl := mem_pos _ [46, 47, 35, 494, 495, 41, 793, 48, 49, 50, 51, 52, 53, 54, 55, 36, 165, 108, 109, 38, 166, 167, 124, 125] (by decide +kernel)
set_option maxRecDepth 20000 in
theorem wsL_in_r2 : ∀ w ∈ wsL_law_r2, w ∈ lw_tbl := mem_pos _ [39, 168, 139, 140, 40, 169, 163, 64, 37, 170, 56, 57, 58, 59, 60, 80, 61, 82, 84, 79, 86, 62, 88, 89] (by decide +kernel)
set_option maxRecDepth 20000 in
theorem wsL_in_r3 : ∀ w ∈ wsL_law_r3, w ∈ lw_tbl := mem_pos _ [91, 66, 67, 68, 69, 70, 111, 112, 113, 114, 116, 117, 127, 128, 129, 138, 130, 131, 142, 143, 144, 162, 145, 146] (by decide +kernel)
set_option maxRecDepth 20000 in
theorem wsL_in_r4 : ∀ w ∈ wsL_law_r4, w ∈ lw_tbl := mem_pos _ [148, 149, 150, 496, 497, 498, 499, 500, 501, 503, 504, 505, 508, 510, 511, 512, 513, 184, 185, 186, 187, 81, 188, 189] (by decide +kernel)
set_option maxRecDepth 20000 in
theorem wsL_in_r5 : ∀ w ∈ wsL_law_r5, w ∈ lw_tbl := mem_pos _ [190, 191, 192, 193, 194, 195, 197, 0, 198, 200, 201, 202, 203, 204, 205, 207, 206, 42, 208, 209, 210, 211, 212, 213] (by decide +kernel)
set_option maxRecDepth 20000 in
theorem wsL_in_r6 : ∀ w ∈ wsL_law_r6, w ∈ lw_tbl := mem_pos _ [214, 43, 215, 216, 217, 218, 219, 220, 569, 570, 571, 572, 573, 574, 575, 554, 555, 556, 565, 567, 5, 568, 502, 221] (by decide +kernel)
set_option maxRecDepth 20000 in
theorem wsL_in_r7 : ∀ w ∈ wsL_law_r7, w ∈ lw_tbl := mem_pos _ [222, 223, 224, 87, 225, 226, 227, 228, 230, 232, 233, 234, 235, 44, 236, 237, 238, 239, 576, 577, 578, 579, 580, 582] (by decide +kernel)
set_option maxRecDepth 20000 in
theorem wsL_in_r8 : ∀ w ∈ wsL_law_r8, w ∈ lw_tbl := mem_pos _ [6, 583, 584, 585, 586, 240, 241, 242, 243, 132, 72, 244, 245, 246, 247, 248, 249, 250, 251, 71, 252, 253, 254, 255] (by decide +kernel)
set_option maxRecDepth 20000 in
theorem wsL_in_r9 : ∀ w ∈ wsL_law_r9, w ∈ lw_tbl := mem_pos _ [256, 257, 258, 259, 260, 261, 263, 587, 588, 589, 590, 506, 591, 592, 593, 594, 596, 7, 597, 507, 509, 598, 600, 8] (by decide +kernel)
set_option maxRecDepth 20000 in
theorem wsL_in_r10 : ∀ w ∈ wsL_law_r10, w ∈ lw_tbl := mem_pos _ [601, 602, 604, 9, 605, 606, 608, 10, 609, 264, 265, 266, 267, 268, 269, 270, 271, 272, 273, 274, 275, 276, 610, 611] (by decide +kernel)
set_option maxRecDepth 20000 in
theorem wsL_in_r11 : ∀ w ∈ wsL_law_r11, w ∈ lw_tbl := mem_pos _ [612, 613, 614, 616, 11, 617, 618, 620, 12, 621, 622, 624, 13, 625, 277, 278, 279, 280, 281, 282, 283, 284, 626, 627] (by decide +kernel)
set_option maxRecDepth 20000 in
theorem wsL_in_r12 : ∀ w ∈ wsL_law_r12, w ∈ lw_tbl := mem_pos _ [628, 629, 285, 286, 287, 288, 630, 631, 632, 633, 289, 290, 291, 292, 83, 90, 92, 293, 294, 295, 296, 73, 297, 298] (by decide +kernel)
set_option maxRecDepth 20000 in
theorem wsL_in_r13 : ∀ w ∈ wsL_law_r13, w ∈ lw_tbl := mem_pos _ [299, 301, 1, 302, 303, 304, 305, 45, 306, 307, 309, 310, 311, 312, 313, 314, 315, 316, 317, 318, 319, 320, 321, 322] (by decide +kernel)
set_option maxRecDepth 20000 in
theorem wsL_in_r14 : ∀ w ∈ wsL_law_r14, w ∈ lw_tbl := mem_pos _ [323, 324, 325, 326, 327, 328, 329, 330, 331, 332, 634, 635, 636, 637, 638, 640, 14, 641, 642, 644, 15, 645, 646, 648] (by decide +kernel)
set_option maxRecDepth 20000 in
theorem wsL_in_r15 : ∀ w ∈ wsL_law_r15, w ∈ lw_tbl := mem_pos _ [16, 649, 650, 652, 17, 653, 654, 656, 18, 657, 557, 559, 4, 560, 333, 334, 335, 336, 85, 658, 659, 660, 661, 337] (by decide +kernel)
set_option maxRecDepth 20000 in
theorem wsL_in_r16 : ∀ w ∈ wsL_law_r16, w ∈ lw_tbl := mem_pos _ [338, 339, 340, 341, 342, 343, 344, 345, 346, 347, 348, 662, 663, 664, 665, 666, 668, 19, 669, 349, 350, 351, 352, 670] (by decide +kernel)
set_option maxRecDepth 20000 in
theorem wsL_in_r17 : ∀ w ∈ wsL_law_r17, w ∈ lw_tbl := mem_pos _ [671, 672, 673, 353, 354, 355, 356, 357, 358, 359, 360, 361, 362, 363, 364, 365, 366, 367, 368, 369, 370, 371, 372, 373] (by decide +kernel)
set_option maxRecDepth 20000 in
theorem wsL_in_r18 : ∀ w ∈ wsL_law_r18, w ∈ lw_tbl := mem_pos _ [674, 675, 676, 677, 678, 680, 20, 681, 682, 684, 21, 685, 686, 688, 22, 689, 690, 692, 23, 693, 694, 696, 24, 697] (by decide +kernel)
set_option maxRecDepth 20000 in
theorem wsL_in_r19 : ∀ w ∈ wsL_law_r19, w ∈ lw_tbl := mem_pos _ [698, 700, 25, 701, 702, 704, 26, 705, 706, 708, 27, 709, 374, 375, 376, 377, 378, 710, 711, 712, 713, 379, 380, 381] (by decide +kernel)
set_option maxRecDepth 20000 in
theorem wsL_in_r20 : ∀ w ∈ wsL_law_r20, w ∈ lw_tbl := mem_pos _ [382, 383, 714, 715, 716, 717, 718, 384, 385, 386, 387, 118, 388, 389, 390, 391, 392, 393, 394, 395, 719, 720, 721, 722] (by decide +kernel)
set_option maxRecDepth 20000 in
theorem wsL_in_r21 : ∀ w ∈ wsL_law_r21, w ∈ lw_tbl := mem_pos _ [723, 725, 28, 726, 727, 729, 29, 730, 396, 397, 398, 399, 400, 731, 732, 733, 734, 735, 736, 737, 738, 740, 30, 741] (by decide +kernel)
set_option maxRecDepth 20000 in
theorem wsL_in_r22 : ∀ w ∈ wsL_law_r22, w ∈ lw_tbl := mem_pos _ [401, 402, 403, 404, 405, 407, 2, 408, 147, 409, 410, 411, 412, 414, 415, 416, 417, 418, 419, 420, 422, 742, 743, 744] (by decide +kernel)
set_option maxRecDepth 20000 in
theorem wsL_in_r23 : ∀ w ∈ wsL_law_r23, w ∈ lw_tbl := mem_pos _ [745, 423, 424, 425, 426, 427, 428, 429, 430, 746, 747, 748, 749, 750, 752, 31, 753, 431, 432, 433, 434, 435, 436, 437] (by decide +kernel)
set_option maxRecDepth 20000 in
theorem wsL_in_r24 : ∀ w ∈ wsL_law_r24, w ∈ lw_tbl := mem_pos _ [438, 439, 440, 442, 3, 443, 444, 445, 754, 755, 756, 757, 514, 758, 760, 32, 761, 446, 447, 448, 449, 762, 763, 764] (by decide +kernel)
set_option maxRecDepth 20000 in
theorem wsL_in_r25 : ∀ w ∈ wsL_law_r25, w ∈ lw_tbl := mem_pos _ [765, 766, 768, 33, 769, 450, 451, 452, 453, 770, 771, 772, 773, 454, 455, 456, 457, 458, 459, 460, 461, 462, 463, 464] (by decide +kernel)
set_option maxRecDepth 20000 in
theorem wsL_in_r26 : ∀ w ∈ wsL_law_r26, w ∈ lw_tbl := mem_pos _ [465, 466, 467, 774, 775, 776, 777, 778, 779, 780, 781, 782, 783, 784, 469, 470, 471, 472, 785, 786, 787, 788, 473, 474] (by decide +kernel)
set_option maxRecDepth 20000 in
theorem wsL_in_r27 : ∀ w ∈ wsL_law_r27, w ∈ lw_tbl := mem_pos _ [475, 476, 789, 790, 791, 792, 477, 478, 479, 480, 481, 482, 483, 484, 546, 547, 548, 549, 485, 486, 487, 488, 489, 550] (by decide +kernel)
set_option maxRecDepth 20000 in
theorem wsL_in_r28 : ∀ w ∈ wsL_law_r28, w ∈ lw_tbl := mem_pos _ [551, 552, 553, 490, 491, 492, 493, 561, 562, 563, 564] (by decide +kernel)
set_option maxRecDepth 20000 in
theorem wsL_in_x7 : ∀ w ∈ wsX70, w ∈ lw_tbl := by decide +kernel
set_option maxRecDepth 20000 in
theorem wsL_in_x8 : ∀ w ∈ wsX80, w ∈ lw_tbl := by decide +kernel
set_option maxRecDepth 20000 in
theorem wsL_in_x1 : ∀ w ∈ wsX10, w ∈ lw_tbl := by decide +kernel
set_option maxRecDepth 20000 in
theorem wsL_in_x3 : ∀ w ∈ wsX30, w ∈ lw_tbl := by decide +kernel
set_option maxRecDepth 20000 in
theorem wsL_in_x2 : ∀ w ∈ wsX20, w ∈ lw_tbl := by decide +kernel
set_option maxRecDepth 20000 in
theorem wsL_in_x5 : ∀ w ∈ wsX50, w ∈ lw_tbl := by decide +kernel
set_option maxRecDepth 20000 in
theorem wsL_in_x0 : ∀ w ∈ wsX00, w ∈ lw_tbl := by decide +kernel
theorem wsL_law_in : ∀ w ∈ wsL_law, w ∈ lw_tbl := (List.forall_mem_append.mpr ⟨(List.forall_mem_append.mpr ⟨(List.forall_mem_append.mpr ⟨(List.forall_mem_append.mpr ⟨(List.forall_mem_append.mpr ⟨(List.forall_mem_append.mpr ⟨(List.forall_mem_append.mpr ⟨(List.forall_mem_append.mpr ⟨(List.forall_mem_append.mpr ⟨wsL_in_r1, (List.forall_mem_append.mpr ⟨wsL_in_r2, (List.forall_mem_append.mpr ⟨wsL_in_r3, (List.forall_mem_append.mpr ⟨wsL_in_r4, (List.forall_mem_append.mpr ⟨wsL_in_r5, (List.forall_mem_append.mpr ⟨wsL_in_r6, (List.forall_mem_append.mpr ⟨wsL_in_r7, (List.forall_mem_append.mpr ⟨wsL_in_r8, (List.forall_mem_append.mpr ⟨wsL_in_r9, (List.forall_mem_append.mpr ⟨wsL_in_r10, (List.forall_mem_append.mpr ⟨wsL_in_r11, (List.forall_mem_append.mpr ⟨wsL_in_r12, (List.forall_mem_append.mpr ⟨wsL_in_r13, (List.forall_mem_append.mpr ⟨wsL_in_r14, (List.forall_mem_append.mpr ⟨wsL_in_r15, (List.forall_mem_append.mpr ⟨wsL_in_r16, (List.forall_mem_append.mpr ⟨wsL_in_r17, (List.forall_mem_append.mpr ⟨wsL_in_r18, (List.forall_mem_append.mpr ⟨wsL_in_r19, (List.forall_mem_append.mpr ⟨wsL_in_r20, (List.forall_mem_append.mpr ⟨wsL_in_r21, (List.forall_mem_append.mpr ⟨wsL_in_r22, (List.forall_mem_append.mpr ⟨wsL_in_r23, (List.forall_mem_append.mpr ⟨wsL_in_r24, (List.forall_mem_append.mpr ⟨wsL_in_r25, (List.forall_mem_append.mpr ⟨wsL_in_r26, (List.forall_mem_append.mpr ⟨wsL_in_r27, wsL_in_r28⟩)⟩)⟩)⟩)⟩)⟩)⟩)⟩)⟩)⟩)⟩)⟩)⟩)⟩)⟩)⟩)⟩)⟩)⟩)⟩)⟩)⟩)⟩)⟩)⟩)⟩)⟩), wsL_in_x7⟩), wsL_in_x8⟩), wsL_in_x1⟩), wsL_in_x3⟩), wsL_in_x2⟩), wsL_in_x5⟩), wsL_in_x0⟩), fun w h => by cases h⟩)
