theorem in_ps {big ws : List Cond} (ps : List Nat) (hp : ws = ps.filterMap (fun i => big[i]?)) : ∀ w ∈ ws, w ∈ big := by
  intro w hw
  rw [hp] at hw
  obtain ⟨i, -, hi⟩ := List.mem_filterMap.mp hw
  exact List.mem_of_getElem? hi
set_option maxRecDepth 20000 in
theorem inwsL_law_r1 : ∀ w ∈ wsL_law_r1, w ∈ lw_tbl := in_ps [55, 56, 48, 467, 468, 52, 753, 57, 58, 59, 60, 61, 62, 91, 127, 92, 131, 132, 63, 64, 49, 133, 134, 137] (by decide +kernel)
set_option maxRecDepth 20000 in
theorem inwsL_law_r2 : ∀ w ∈ wsL_law_r2, w ∈ lw_tbl := in_ps [126, 138, 111, 70, 50, 140, 113, 114, 51, 141, 143, 144, 66, 67, 68, 69, 93, 99, 72, 73, 74, 77, 79, 80] (by decide +kernel)
set_option maxRecDepth 20000 in
theorem inwsL_law_r3 : ∀ w ∈ wsL_law_r3, w ∈ lw_tbl := in_ps [116, 117, 118, 119, 469, 470, 471, 472, 475, 476, 477, 478, 481, 487, 491, 492, 493, 495, 496, 182, 183, 184, 185, 128] (by decide +kernel)
set_option maxRecDepth 20000 in
theorem inwsL_law_r4 : ∀ w ∈ wsL_law_r4, w ∈ lw_tbl := in_ps [546, 547, 548, 549, 550, 482, 551, 552, 553, 186, 187, 188, 189, 554, 555, 556, 557, 190, 191, 192, 193, 194, 196, 0] (by decide +kernel)
set_option maxRecDepth 20000 in
theorem inwsL_law_r5 : ∀ w ∈ wsL_law_r5, w ∈ lw_tbl := in_ps [197, 198, 199, 200, 201, 202, 203, 558, 559, 560, 561, 562, 564, 32, 565, 483, 484, 479, 480, 566, 568, 33, 569, 204] (by decide +kernel)
set_option maxRecDepth 20000 in
theorem inwsL_law_r6 : ∀ w ∈ wsL_law_r6, w ∈ lw_tbl := in_ps [205, 206, 207, 129, 130, 208, 210, 1, 211, 214, 2, 215, 95, 97, 218, 3, 219, 75, 220, 222, 4, 223, 224, 226] (by decide +kernel)
set_option maxRecDepth 20000 in
theorem inwsL_law_r7 : ∀ w ∈ wsL_law_r7, w ∈ lw_tbl := in_ps [5, 227, 135, 136, 570, 571, 572, 573, 473, 474, 485, 228, 229, 230, 231, 232, 234, 6, 235, 236, 237, 238, 239, 241] (by decide +kernel)
set_option maxRecDepth 20000 in
theorem inwsL_law_r8 : ∀ w ∈ wsL_law_r8, w ∈ lw_tbl := in_ps [7, 242, 574, 575, 576, 577, 578, 580, 34, 581, 582, 584, 35, 585, 586, 587, 588, 243, 244, 245, 246, 247, 249, 8] (by decide +kernel)
set_option maxRecDepth 20000 in
theorem inwsL_law_r9 : ∀ w ∈ wsL_law_r9, w ∈ lw_tbl := in_ps [250, 253, 9, 254, 257, 10, 258, 259, 261, 11, 262, 263, 264, 53, 265, 589, 590, 591, 592, 593, 595, 36, 596, 486] (by decide +kernel)
set_option maxRecDepth 20000 in
theorem inwsL_law_r10 : ∀ w ∈ wsL_law_r10, w ∈ lw_tbl := in_ps [597, 599, 37, 600, 266, 267, 268, 269, 270, 271, 54, 272, 273, 274, 275, 601, 602, 603, 604, 605, 606, 607, 276, 277] (by decide +kernel)
set_option maxRecDepth 20000 in
theorem inwsL_law_r11 : ∀ w ∈ wsL_law_r11, w ∈ lw_tbl := in_ps [278, 279, 280, 282, 12, 283, 284, 286, 13, 287, 142, 290, 14, 291, 292, 293, 294, 608, 609, 610, 611, 612, 614, 38] (by decide +kernel)
set_option maxRecDepth 20000 in
theorem inwsL_law_r12 : ∀ w ∈ wsL_law_r12, w ∈ lw_tbl := in_ps [615, 616, 618, 39, 619, 620, 621, 622, 295, 296, 297, 298, 623, 624, 625, 626, 627, 628, 299, 300, 301, 302, 629, 630] (by decide +kernel)
set_option maxRecDepth 20000 in
theorem inwsL_law_r13 : ∀ w ∈ wsL_law_r13, w ∈ lw_tbl := in_ps [631, 632, 303, 304, 305, 306, 307, 308, 309, 310, 312, 15, 313, 315, 316, 317, 633, 634, 635, 636, 637, 638, 639, 640] (by decide +kernel)
set_option maxRecDepth 20000 in
theorem inwsL_law_r14 : ∀ w ∈ wsL_law_r14, w ∈ lw_tbl := in_ps [641, 643, 40, 644, 649, 645, 647, 41, 648, 488, 489, 318, 319, 320, 321, 322, 323, 324, 327, 16, 328, 120, 330, 332] (by decide +kernel)
set_option maxRecDepth 20000 in
theorem inwsL_law_r15 : ∀ w ∈ wsL_law_r15, w ∈ lw_tbl := in_ps [17, 333, 336, 18, 337, 341, 19, 342, 343, 345, 20, 346, 650, 651, 652, 653, 490, 654, 656, 42, 657, 658, 659, 660] (by decide +kernel)
set_option maxRecDepth 20000 in
theorem inwsL_law_r16 : ∀ w ∈ wsL_law_r16, w ∈ lw_tbl := in_ps [661, 662, 663, 347, 348, 349, 350, 351, 353, 21, 354, 664, 665, 666, 667, 668, 670, 43, 671, 355, 356, 357, 358, 359] (by decide +kernel)
set_option maxRecDepth 20000 in
theorem inwsL_law_r17 : ∀ w ∈ wsL_law_r17, w ∈ lw_tbl := in_ps [361, 22, 362, 363, 365, 23, 366, 367, 368, 369, 370, 372, 24, 373, 374, 376, 25, 377, 378, 379, 380, 672, 673, 674] (by decide +kernel)
set_option maxRecDepth 20000 in
theorem inwsL_law_r18 : ∀ w ∈ wsL_law_r18, w ∈ lw_tbl := in_ps [675, 676, 678, 44, 679, 381, 382, 383, 384, 680, 681, 682, 683, 385, 386, 387, 388, 684, 685, 686, 687, 389, 390, 391] (by decide +kernel)
set_option maxRecDepth 20000 in
theorem inwsL_law_r19 : ∀ w ∈ wsL_law_r19, w ∈ lw_tbl := in_ps [392, 688, 689, 690, 691, 692, 693, 694, 695, 696, 393, 394, 395, 396, 697, 698, 699, 700, 397, 398, 399, 400, 401, 402] (by decide +kernel)
set_option maxRecDepth 20000 in
theorem inwsL_law_r20 : ∀ w ∈ wsL_law_r20, w ∈ lw_tbl := in_ps [403, 404, 405, 406, 407, 408, 409, 410, 412, 414, 26, 415, 701, 702, 703, 704, 705, 706, 707, 708, 709, 710, 416, 417] (by decide +kernel)
set_option maxRecDepth 20000 in
theorem inwsL_law_r21 : ∀ w ∈ wsL_law_r21, w ∈ lw_tbl := in_ps [418, 419, 420, 422, 27, 423, 424, 426, 28, 427, 428, 430, 29, 431, 711, 712, 713, 714, 715, 717, 45, 718, 719, 721] (by decide +kernel)
set_option maxRecDepth 20000 in
theorem inwsL_law_r22 : ∀ w ∈ wsL_law_r22, w ∈ lw_tbl := in_ps [46, 722, 723, 724, 725, 432, 433, 434, 435, 436, 438, 30, 439, 726, 727, 728, 729, 440, 441, 442, 443, 139, 730, 731] (by decide +kernel)
set_option maxRecDepth 20000 in
theorem inwsL_law_r23 : ∀ w ∈ wsL_law_r23, w ∈ lw_tbl := in_ps [732, 733, 494, 444, 445, 446, 447, 448, 449, 450, 734, 735, 736, 737, 738, 739, 740, 451, 452, 453, 454, 741, 742, 743] (by decide +kernel)
set_option maxRecDepth 20000 in
theorem inwsL_law_r24 : ∀ w ∈ wsL_law_r24, w ∈ lw_tbl := in_ps [744, 455, 456, 457, 458, 745, 746, 747, 748, 459, 460, 461, 462, 463, 465, 31, 466, 749, 750, 751, 752] (by decide +kernel)
set_option maxRecDepth 20000 in
theorem inwsX30 : ∀ w ∈ wsX30, w ∈ lw_tbl := in_ps [145, 147, 149, 151, 153, 155, 157, 159, 161, 163, 165, 167, 169, 171, 173, 175, 177, 179] (by decide +kernel)
set_option maxRecDepth 20000 in
theorem inwsX40 : ∀ w ∈ wsX40, w ∈ lw_tbl := in_ps [497, 499, 501, 503, 505, 507, 509, 511, 513, 515, 517, 519, 521, 523, 525, 527, 529, 531, 533, 535, 537, 539, 541, 543] (by decide +kernel)
set_option maxRecDepth 20000 in
theorem inwsX00 : ∀ w ∈ wsX00, w ∈ lw_tbl := in_ps [101, 103, 105, 107] (by decide +kernel)
set_option maxRecDepth 20000 in
theorem inwsX20 : ∀ w ∈ wsX20, w ∈ lw_tbl := in_ps [82, 84, 86, 88] (by decide +kernel)
set_option maxRecDepth 20000 in
theorem inwsX10 : ∀ w ∈ wsX10, w ∈ lw_tbl := in_ps [121, 123] (by decide +kernel)
theorem wsL_law_in : ∀ w ∈ wsL_law, w ∈ lw_tbl := by
  intro w hw
  simp only [wsL_law, List.mem_append, List.not_mem_nil, or_false] at hw
  rcases hw with (((((h | h | h | h | h | h | h | h | h | h | h | h | h | h | h | h | h | h | h | h | h | h | h | h) | h) | h) | h) | h) | h
  all_goals first | exact inwsL_law_r1 w h | exact inwsL_law_r2 w h | exact inwsL_law_r3 w h | exact inwsL_law_r4 w h | exact inwsL_law_r5 w h | exact inwsL_law_r6 w h | exact inwsL_law_r7 w h | exact inwsL_law_r8 w h | exact inwsL_law_r9 w h | exact inwsL_law_r10 w h | exact inwsL_law_r11 w h | exact inwsL_law_r12 w h | exact inwsL_law_r13 w h | exact inwsL_law_r14 w h | exact inwsL_law_r15 w h | exact inwsL_law_r16 w h | exact inwsL_law_r17 w h | exact inwsL_law_r18 w h | exact inwsL_law_r19 w h | exact inwsL_law_r20 w h | exact inwsL_law_r21 w h | exact inwsL_law_r22 w h | exact inwsL_law_r23 w h | exact inwsL_law_r24 w h | exact inwsX30 w h | exact inwsX40 w h | exact inwsX00 w h | exact inwsX20 w h | exact inwsX10 w h
