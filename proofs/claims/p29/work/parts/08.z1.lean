theorem mem_of_places {big ws : List Cond} (ps : List Nat) (hp : ws = ps.filterMap (fun i => big[i]?)) : ∀ w ∈ ws, w ∈ big := by
  intro w hw
  rw [hp] at hw
  obtain ⟨i, -, hi⟩ := List.mem_filterMap.mp hw
  exact List.mem_of_getElem? hi
set_option maxRecDepth 100000 in
theorem wl_wsL_law_r1 : ∀ w ∈ wsL_law_r1, w ∈ lw_tbl := mem_of_places [10, 11, 3, 73, 537, 12, 13, 14, 15, 16, 17, 18, 19, 4, 138, 139, 74, 75, 5, 140, 90, 91, 6, 141] rfl
set_option maxRecDepth 100000 in
theorem wl_wsL_law_r2 : ∀ w ∈ wsL_law_r2, w ∈ lw_tbl := mem_of_places [112, 113, 7, 142, 20, 21, 22, 23, 30, 31, 32, 33, 34, 35, 36, 37, 39, 41, 42, 44, 45, 25, 26, 28] rfl
set_option maxRecDepth 100000 in
theorem wl_wsL_law_r3 : ∀ w ∈ wsL_law_r3, w ∈ lw_tbl := mem_of_places [29, 76, 77, 78, 79, 80, 83, 82, 92, 93, 94, 95, 96, 97, 98, 99, 114, 115, 116, 117, 118, 119, 154, 155] rfl
set_option maxRecDepth 100000 in
theorem wl_wsL_law_r4 : ∀ w ∈ wsL_law_r4, w ∈ lw_tbl := mem_of_places [156, 157, 158, 160, 0, 161, 162, 163, 164, 165, 167, 168, 169, 170, 8, 171, 172, 174, 173, 9, 175, 176, 177, 178] rfl
set_option maxRecDepth 100000 in
theorem wl_wsL_law_r5 : ∀ w ∈ wsL_law_r5, w ∈ lw_tbl := mem_of_places [183, 179, 180, 181, 182, 185, 186, 187, 189, 1, 190, 191, 192, 193, 194, 84, 195, 196, 197, 198, 199, 200, 201, 2] rfl
set_option maxRecDepth 100000 in
theorem wl_wsL_law_r6 : ∀ w ∈ wsL_law_r6, w ∈ lw_tbl := mem_of_places [202, 203, 405, 406, 407, 408, 221, 409, 328, 329, 330, 298, 299, 300, 226, 227, 228, 223, 224, 225, 398, 399, 400, 410] rfl
set_option maxRecDepth 100000 in
theorem wl_wsL_law_r7 : ∀ w ∈ wsL_law_r7, w ∈ lw_tbl := mem_of_places [411, 412, 413, 414, 415, 416, 417, 425, 427, 418, 419, 420, 421, 422, 274, 275, 276, 339, 340, 322, 323, 426, 325, 326] rfl
set_option maxRecDepth 100000 in
theorem wl_wsL_law_r8 : ∀ w ∈ wsL_law_r8, w ∈ lw_tbl := mem_of_places [327, 281, 243, 244, 245, 246, 247, 248, 249, 218, 219, 254, 255, 256, 257, 428, 429, 430, 431, 432, 433, 434, 235, 236] rfl
set_option maxRecDepth 100000 in
theorem wl_wsL_law_r9 : ∀ w ∈ wsL_law_r9, w ∈ lw_tbl := mem_of_places [237, 435, 436, 437, 438, 439, 440, 441, 442, 443, 444, 445, 446, 447, 448, 449, 316, 450, 451, 452, 453, 454, 455, 456] rfl
set_option maxRecDepth 100000 in
theorem wl_wsL_law_r10 : ∀ w ∈ wsL_law_r10, w ∈ lw_tbl := mem_of_places [457, 458, 459, 460, 461, 462, 463, 464, 465, 466, 467, 468, 392, 393, 394, 232, 233, 234, 229, 230, 231, 395, 396, 397] rfl
set_option maxRecDepth 100000 in
theorem wl_wsL_law_r11 : ∀ w ∈ wsL_law_r11, w ∈ lw_tbl := mem_of_places [469, 470, 471, 472, 473, 474, 475, 476, 478, 100, 479, 342, 343, 344, 345, 346, 347, 348, 349, 350, 353, 354, 355, 356] rfl
set_option maxRecDepth 100000 in
theorem wl_wsL_law_r12 : ∀ w ∈ wsL_law_r12, w ∈ lw_tbl := mem_of_places [358, 359, 360, 361, 362, 363, 364, 365, 366, 367, 368, 369, 370, 371, 372, 373, 480, 384, 385, 386, 391, 387, 388, 389] rfl
set_option maxRecDepth 100000 in
theorem wl_wsL_law_r13 : ∀ w ∈ wsL_law_r13, w ∈ lw_tbl := mem_of_places [390, 481, 482, 483, 484, 485, 486, 487, 488, 489, 490, 491, 492, 493, 494, 495, 496, 497, 499, 500, 501, 502, 503, 504] rfl
set_option maxRecDepth 100000 in
theorem wl_wsL_law_r14 : ∀ w ∈ wsL_law_r14, w ∈ lw_tbl := mem_of_places [505, 506, 507, 508, 509, 510, 511, 512, 513, 514, 515, 516, 517, 518, 519, 520, 521, 522, 523, 524, 525, 526, 527, 528] rfl
set_option maxRecDepth 100000 in
theorem wl_wsL_law_r15 : ∀ w ∈ wsL_law_r15, w ∈ lw_tbl := mem_of_places [309, 310, 311, 312, 529, 530, 531, 532, 533, 534, 535, 536, 204, 205, 206, 222, 207, 208, 209, 210, 211, 220, 212, 213] rfl
set_option maxRecDepth 100000 in
theorem wl_wsL_law_r16 : ∀ w ∈ wsL_law_r16, w ∈ lw_tbl := mem_of_places [214, 215, 216, 238, 239, 240, 241, 242, 250, 251, 252, 253, 258, 259, 260, 261, 262, 263, 264, 265, 120, 266, 267, 268] rfl
set_option maxRecDepth 100000 in
theorem wl_wsL_law_r17 : ∀ w ∈ wsL_law_r17, w ∈ lw_tbl := mem_of_places [269, 270, 271, 272, 273, 277, 278, 279, 280, 286, 282, 283, 284, 285, 287, 288, 289, 290, 291, 292, 293, 294, 295, 296] rfl
set_option maxRecDepth 100000 in
theorem wl_wsL_law_r18 : ∀ w ∈ wsL_law_r18, w ∈ lw_tbl := mem_of_places [297, 301, 302, 303, 304, 305, 306, 307, 308, 313, 314, 315, 317, 318, 319, 320, 321, 324, 331, 332, 333, 334, 335, 336] rfl
set_option maxRecDepth 100000 in
theorem wl_wsL_law_r19 : ∀ w ∈ wsL_law_r19, w ∈ lw_tbl := mem_of_places [337, 338, 341, 374, 375, 376, 377, 378, 379, 380, 381, 382, 383, 401, 402, 403, 404] rfl
set_option maxRecDepth 100000 in
theorem wl_wsX40 : ∀ w ∈ wsX40, w ∈ lw_tbl := mem_of_places [143, 145, 147, 149, 151] rfl
set_option maxRecDepth 100000 in
theorem wl_wsX00 : ∀ w ∈ wsX00, w ∈ lw_tbl := mem_of_places [46, 48, 50, 52, 54, 56, 58, 60, 62, 64, 66, 68, 70] rfl
set_option maxRecDepth 100000 in
theorem wl_wsX10 : ∀ w ∈ wsX10, w ∈ lw_tbl := mem_of_places [85, 87] rfl
set_option maxRecDepth 100000 in
theorem wl_wsX30 : ∀ w ∈ wsX30, w ∈ lw_tbl := mem_of_places [101, 103, 105, 107, 109] rfl
set_option maxRecDepth 100000 in
theorem wl_wsX20 : ∀ w ∈ wsX20, w ∈ lw_tbl := mem_of_places [121, 123, 125, 127, 129, 131, 133, 135] rfl
theorem wsL_law_in : ∀ w ∈ wsL_law, w ∈ lw_tbl := by
  show ∀ w ∈ (wsL_law_r1 ++ (wsL_law_r2 ++ (wsL_law_r3 ++ (wsL_law_r4 ++ (wsL_law_r5 ++ (wsL_law_r6 ++ (wsL_law_r7 ++ (wsL_law_r8 ++ (wsL_law_r9 ++ (wsL_law_r10 ++ (wsL_law_r11 ++ (wsL_law_r12 ++ (wsL_law_r13 ++ (wsL_law_r14 ++ (wsL_law_r15 ++ (wsL_law_r16 ++ (wsL_law_r17 ++ (wsL_law_r18 ++ wsL_law_r19)))))))))))))))))) ++ wsX40 ++ wsX00 ++ wsX10 ++ wsX30 ++ wsX20 ++ ([] : List Cond), w ∈ lw_tbl
  exact List.forall_mem_append.mpr ⟨List.forall_mem_append.mpr ⟨List.forall_mem_append.mpr ⟨List.forall_mem_append.mpr ⟨List.forall_mem_append.mpr ⟨List.forall_mem_append.mpr ⟨List.forall_mem_append.mpr ⟨wl_wsL_law_r1, List.forall_mem_append.mpr ⟨wl_wsL_law_r2, List.forall_mem_append.mpr ⟨wl_wsL_law_r3, List.forall_mem_append.mpr ⟨wl_wsL_law_r4, List.forall_mem_append.mpr ⟨wl_wsL_law_r5, List.forall_mem_append.mpr ⟨wl_wsL_law_r6, List.forall_mem_append.mpr ⟨wl_wsL_law_r7, List.forall_mem_append.mpr ⟨wl_wsL_law_r8, List.forall_mem_append.mpr ⟨wl_wsL_law_r9, List.forall_mem_append.mpr ⟨wl_wsL_law_r10, List.forall_mem_append.mpr ⟨wl_wsL_law_r11, List.forall_mem_append.mpr ⟨wl_wsL_law_r12, List.forall_mem_append.mpr ⟨wl_wsL_law_r13, List.forall_mem_append.mpr ⟨wl_wsL_law_r14, List.forall_mem_append.mpr ⟨wl_wsL_law_r15, List.forall_mem_append.mpr ⟨wl_wsL_law_r16, List.forall_mem_append.mpr ⟨wl_wsL_law_r17, List.forall_mem_append.mpr ⟨wl_wsL_law_r18, wl_wsL_law_r19⟩⟩⟩⟩⟩⟩⟩⟩⟩⟩⟩⟩⟩⟩⟩⟩⟩⟩, wl_wsX40⟩, wl_wsX00⟩, wl_wsX10⟩, wl_wsX30⟩, wl_wsX20⟩, (fun _ h => absurd h List.not_mem_nil)⟩
theorem inlX0 : ∀ w ∈ wsX00, w ∈ wsL_law := fun _ h => List.mem_append_left _ (List.mem_append_left _ (List.mem_append_left _ (List.mem_append_left _ (List.mem_append_right _ h))))
theorem inX0 : ∀ w ∈ wsX00, w ∈ lw_tbl := fun w h => wsL_law_in w (inlX0 w h)
theorem inlX1 : ∀ w ∈ wsX10, w ∈ wsL_law := fun _ h => List.mem_append_left _ (List.mem_append_left _ (List.mem_append_left _ (List.mem_append_right _ h)))
theorem inX1 : ∀ w ∈ wsX10, w ∈ lw_tbl := fun w h => wsL_law_in w (inlX1 w h)
theorem inlX2 : ∀ w ∈ wsX20, w ∈ wsL_law := fun _ h => List.mem_append_left _ (List.mem_append_right _ h)
theorem inX2 : ∀ w ∈ wsX20, w ∈ lw_tbl := fun w h => wsL_law_in w (inlX2 w h)
theorem inlX3 : ∀ w ∈ wsX30, w ∈ wsL_law := fun _ h => List.mem_append_left _ (List.mem_append_left _ (List.mem_append_right _ h))
theorem inX3 : ∀ w ∈ wsX30, w ∈ lw_tbl := fun w h => wsL_law_in w (inlX3 w h)
theorem inlX4 : ∀ w ∈ wsX40, w ∈ wsL_law := fun _ h => List.mem_append_left _ (List.mem_append_left _ (List.mem_append_left _ (List.mem_append_left _ (List.mem_append_left _ (List.mem_append_right _ h)))))
theorem inX4 : ∀ w ∈ wsX40, w ∈ lw_tbl := fun w h => wsL_law_in w (inlX4 w h)
