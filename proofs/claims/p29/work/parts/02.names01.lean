theorem mem_pos {big : List Cond} (ws : List Cond) (ps : List Nat) (hp : ws = ps.filterMap (fun i => big[i]?)) : ∀ w ∈ ws, w ∈ big := fun w hw => by
  rw [hp] at hw
  obtain ⟨i, -, hi⟩ := List.mem_filterMap.mp hw
  exact List.mem_of_getElem? hi
set_option maxRecDepth 20000 in
theorem wsL_in_r1 : ∀ w ∈ wsL_law_r1, w ∈ lw_tbl := mem_pos _ [14, 15, 4, 47, 497, 16, 17, 18, 19, 20, 21, 22, 23, 5, 133, 76, 77, 7, 134, 135, 92, 93, 8, 136] (by decide +kernel)
set_option maxRecDepth 20000 in
theorem wsL_in_r2 : ∀ w ∈ wsL_law_r2, w ∈ lw_tbl := mem_pos _ [107, 108, 9, 137, 131, 32, 6, 138, 24, 25, 26, 27, 28, 48, 29, 50, 52, 54, 30, 56, 57, 59, 34, 35] (by decide +kernel)
set_option maxRecDepth 20000 in
theorem wsL_in_r3 : ∀ w ∈ wsL_law_r3, w ∈ lw_tbl := mem_pos _ [36, 37, 38, 79, 80, 81, 82, 84, 85, 95, 96, 97, 106, 98, 99, 110, 111, 112, 130, 113, 114, 116, 117, 118] (by decide +kernel)
set_option maxRecDepth 20000 in
theorem wsL_in_r4 : ∀ w ∈ wsL_law_r4, w ∈ lw_tbl := mem_pos _ [175, 176, 3, 177, 178, 179, 180, 181, 182, 183, 184, 185, 186, 187, 188, 189, 214, 224, 190, 191, 192, 193, 49, 51] (by decide +kernel)
set_option maxRecDepth 20000 in
theorem wsL_in_r5 : ∀ w ∈ wsL_law_r5, w ∈ lw_tbl := mem_pos _ [194, 161, 162, 195, 196, 10, 197, 198, 199, 200, 201, 202, 203, 11, 204, 205, 206, 207, 208, 209, 210, 212, 213, 215] (by decide +kernel)
set_option maxRecDepth 20000 in
theorem wsL_in_r6 : ∀ w ∈ wsL_law_r6, w ∈ lw_tbl := mem_pos _ [216, 217, 218, 55, 219, 220, 221, 222, 225, 226, 227, 228, 40, 229, 230, 231, 232, 233, 234, 235, 236, 238, 239, 240] (by decide +kernel)
set_option maxRecDepth 20000 in
theorem wsL_in_r7 : ∀ w ∈ wsL_law_r7, w ∈ lw_tbl := mem_pos _ [241, 58, 60, 100, 86, 242, 243, 244, 245, 246, 247, 248, 249, 250, 12, 251, 252, 253, 254, 255, 256, 257, 258, 259] (by decide +kernel)
set_option maxRecDepth 20000 in
theorem wsL_in_r8 : ∀ w ∈ wsL_law_r8, w ∈ lw_tbl := mem_pos _ [260, 261, 262, 263, 41, 264, 265, 266, 267, 268, 269, 270, 271, 272, 273, 274, 275, 277, 0, 278, 279, 163, 164, 165] (by decide +kernel)
set_option maxRecDepth 20000 in
theorem wsL_in_r9 : ∀ w ∈ wsL_law_r9, w ∈ lw_tbl := mem_pos _ [166, 167, 169, 168, 13, 170, 171, 172, 173, 174, 280, 281, 282, 283, 284, 285, 286, 287, 288, 289, 290, 291, 292, 293] (by decide +kernel)
set_option maxRecDepth 20000 in
theorem wsL_in_r10 : ∀ w ∈ wsL_law_r10, w ∈ lw_tbl := mem_pos _ [294, 295, 296, 297, 298, 299, 300, 301, 302, 303, 304, 305, 306, 307, 308, 309, 310, 312, 313, 314, 315, 316, 317, 318] (by decide +kernel)
set_option maxRecDepth 20000 in
theorem wsL_in_r11 : ∀ w ∈ wsL_law_r11, w ∈ lw_tbl := mem_pos _ [319, 39, 320, 321, 322, 323, 324, 325, 326, 327, 328, 329, 330, 331, 332, 333, 334, 335, 336, 337, 338, 339, 340, 341] (by decide +kernel)
set_option maxRecDepth 20000 in
theorem wsL_in_r12 : ∀ w ∈ wsL_law_r12, w ∈ lw_tbl := mem_pos _ [342, 343, 344, 345, 346, 347, 348, 349, 350, 351, 352, 353, 354, 355, 356, 357, 358, 359, 360, 361, 362, 363, 365, 1] (by decide +kernel)
set_option maxRecDepth 20000 in
theorem wsL_in_r13 : ∀ w ∈ wsL_law_r13, w ∈ lw_tbl := mem_pos _ [366, 367, 368, 369, 371, 372, 373, 374, 375, 376, 377, 378, 379, 380, 381, 382, 383, 384, 385, 386, 387, 53, 152, 153] (by decide +kernel)
set_option maxRecDepth 20000 in
theorem wsL_in_r14 : ∀ w ∈ wsL_law_r14, w ∈ lw_tbl := mem_pos _ [154, 155, 156, 157, 158, 159, 388, 389, 390, 391, 392, 393, 394, 395, 396, 397, 398, 399, 400, 401, 402, 403, 404, 405] (by decide +kernel)
set_option maxRecDepth 20000 in
theorem wsL_in_r15 : ∀ w ∈ wsL_law_r15, w ∈ lw_tbl := mem_pos _ [406, 407, 408, 409, 410, 411, 412, 413, 414, 415, 416, 417, 462, 463, 464, 465, 466, 467, 468, 469, 470, 471, 472, 429] (by decide +kernel)
set_option maxRecDepth 20000 in
theorem wsL_in_r16 : ∀ w ∈ wsL_law_r16, w ∈ lw_tbl := mem_pos _ [473, 474, 475, 430, 476, 477, 478, 479, 480, 481, 482, 483, 484, 485, 486, 487, 488, 489, 490, 491, 492, 493, 494, 495] (by decide +kernel)
set_option maxRecDepth 20000 in
theorem wsL_in_r17 : ∀ w ∈ wsL_law_r17, w ∈ lw_tbl := mem_pos _ [496, 418, 419, 420, 421, 422, 423, 424, 425, 426, 427, 428, 431, 432, 433, 434, 435, 436, 437, 438, 439, 440, 442, 2] (by decide +kernel)
set_option maxRecDepth 20000 in
theorem wsL_in_r18 : ∀ w ∈ wsL_law_r18, w ∈ lw_tbl := mem_pos _ [443, 115, 444, 445, 446, 447, 449, 450, 451, 452, 453, 454, 455, 457, 458, 459, 460, 461] (by decide +kernel)
set_option maxRecDepth 20000 in
theorem wsL_in_x7 : ∀ w ∈ wsX70, w ∈ lw_tbl := by decide +kernel
set_option maxRecDepth 20000 in
theorem wsL_in_x1 : ∀ w ∈ wsX10, w ∈ lw_tbl := by decide +kernel
set_option maxRecDepth 20000 in
theorem wsL_in_x3 : ∀ w ∈ wsX30, w ∈ lw_tbl := by decide +kernel
set_option maxRecDepth 20000 in
theorem wsL_in_x2 : ∀ w ∈ wsX20, w ∈ lw_tbl := by decide +kernel
set_option maxRecDepth 20000 in
theorem wsL_in_x5 : ∀ w ∈ wsX50, w ∈ lw_tbl := by decide +kernel
set_option maxRecDepth 20000 in
theorem wsL_in_x0 : ∀ w ∈ wsX00, w ∈ lw_tbl := by decide +kernel
theorem wsL_law_in : ∀ w ∈ wsL_law, w ∈ lw_tbl := (List.forall_mem_append.mpr ⟨(List.forall_mem_append.mpr ⟨(List.forall_mem_append.mpr ⟨(List.forall_mem_append.mpr ⟨(List.forall_mem_append.mpr ⟨(List.forall_mem_append.mpr ⟨(List.forall_mem_append.mpr ⟨(List.forall_mem_append.mpr ⟨wsL_in_r1, (List.forall_mem_append.mpr ⟨wsL_in_r2, (List.forall_mem_append.mpr ⟨wsL_in_r3, (List.forall_mem_append.mpr ⟨wsL_in_r4, (List.forall_mem_append.mpr ⟨wsL_in_r5, (List.forall_mem_append.mpr ⟨wsL_in_r6, (List.forall_mem_append.mpr ⟨wsL_in_r7, (List.forall_mem_append.mpr ⟨wsL_in_r8, (List.forall_mem_append.mpr ⟨wsL_in_r9, (List.forall_mem_append.mpr ⟨wsL_in_r10, (List.forall_mem_append.mpr ⟨wsL_in_r11, (List.forall_mem_append.mpr ⟨wsL_in_r12, (List.forall_mem_append.mpr ⟨wsL_in_r13, (List.forall_mem_append.mpr ⟨wsL_in_r14, (List.forall_mem_append.mpr ⟨wsL_in_r15, (List.forall_mem_append.mpr ⟨wsL_in_r16, (List.forall_mem_append.mpr ⟨wsL_in_r17, wsL_in_r18⟩)⟩)⟩)⟩)⟩)⟩)⟩)⟩)⟩)⟩)⟩)⟩)⟩)⟩)⟩)⟩)⟩), wsL_in_x7⟩), wsL_in_x1⟩), wsL_in_x3⟩), wsL_in_x2⟩), wsL_in_x5⟩), wsL_in_x0⟩), fun w h => by cases h⟩)
