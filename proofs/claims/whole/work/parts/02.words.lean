/-- words by their places -/
theorem mem_pl {big : List Cond} (ws : List Cond) (ps : List Nat) (hp : ws = ps.filterMap (fun i => big[i]?)) : ∀ w ∈ ws, w ∈ big := by
  intro w hw
  rw [hp] at hw
  obtain ⟨i, -, hi⟩ := List.mem_filterMap.mp hw
  exact List.mem_of_getElem? hi
set_option maxRecDepth 20000 in
theorem wsL_i1 : ∀ w ∈ wsL_law_r1, w ∈ lw_tbl := mem_pl _ [42, 43, 29, 506, 507, 38, 44, 45, 46, 47, 48, 49, 50, 51, 30, 182, 69, 70, 32, 183, 127, 128, 33, 184] (by decide +kernel)
set_option maxRecDepth 20000 in
theorem wsL_i2 : ∀ w ∈ wsL_law_r2, w ∈ lw_tbl := mem_pl _ [146, 148, 34, 154, 155, 35, 161, 162, 36, 185, 168, 169, 37, 186, 187, 188, 189, 53, 54, 55, 68, 56, 59, 71] (by decide +kernel)
set_option maxRecDepth 20000 in
theorem wsL_i3 : ∀ w ∈ wsL_law_r3, w ∈ lw_tbl := mem_pl _ [72, 73, 79, 80, 78, 74, 75, 31, 76, 77, 92, 97, 103, 81, 86, 89, 129, 130, 131, 134, 133, 132, 150, 151] (by decide +kernel)
set_option maxRecDepth 20000 in
theorem wsL_i4 : ∀ w ∈ wsL_law_r4, w ∈ lw_tbl := mem_pl _ [152, 157, 158, 164, 165, 171, 172, 173, 174, 508, 509, 510, 511, 512, 513, 515, 516, 518, 543, 519, 520, 521, 514, 207] (by decide +kernel)
set_option maxRecDepth 20000 in
theorem wsL_i5 : ∀ w ∈ wsL_law_r5, w ∈ lw_tbl := mem_pl _ [208, 209, 210, 61, 211, 212, 213, 214, 215, 216, 217, 218, 219, 39, 220, 544, 545, 546, 547, 548, 549, 550, 551, 553] (by decide +kernel)
set_option maxRecDepth 20000 in
theorem wsL_i6 : ∀ w ∈ wsL_law_r6, w ∈ lw_tbl := mem_pl _ [12, 554, 221, 222, 223, 224, 225, 226, 227, 228, 229, 230, 231, 232, 233, 234, 235, 236, 237, 238, 239, 240, 555, 556] (by decide +kernel)
set_option maxRecDepth 20000 in
theorem wsL_i7 : ∀ w ∈ wsL_law_r7, w ∈ lw_tbl := mem_pl _ [557, 558, 559, 561, 13, 562, 563, 565, 14, 566, 241, 242, 243, 244, 245, 246, 247, 248, 249, 250, 252, 2, 253, 254] (by decide +kernel)
set_option maxRecDepth 20000 in
theorem wsL_i8 : ∀ w ∈ wsL_law_r8, w ∈ lw_tbl := mem_pl _ [255, 256, 257, 258, 259, 260, 40, 261, 262, 263, 264, 567, 568, 569, 570, 571, 573, 15, 574, 575, 576, 577, 265, 266] (by decide +kernel)
set_option maxRecDepth 20000 in
theorem wsL_i9 : ∀ w ∈ wsL_law_r9, w ∈ lw_tbl := mem_pl _ [267, 268, 578, 579, 580, 581, 269, 270, 271, 272, 273, 274, 275, 276, 277, 278, 279, 280, 281, 282, 283, 284, 285, 286] (by decide +kernel)
set_option maxRecDepth 20000 in
theorem wsL_i10 : ∀ w ∈ wsL_law_r10, w ∈ lw_tbl := mem_pl _ [287, 288, 290, 3, 291, 292, 294, 4, 295, 582, 583, 584, 585, 586, 587, 588, 589, 591, 16, 592, 593, 595, 17, 596] (by decide +kernel)
set_option maxRecDepth 20000 in
theorem wsL_i11 : ∀ w ∈ wsL_law_r11, w ∈ lw_tbl := mem_pl _ [296, 297, 298, 299, 300, 301, 597, 598, 599, 600, 302, 303, 304, 305, 306, 307, 308, 309, 312, 310, 313, 314, 315, 176] (by decide +kernel)
set_option maxRecDepth 20000 in
theorem wsL_i12 : ∀ w ∈ wsL_law_r12, w ∈ lw_tbl := mem_pl _ [316, 317, 680, 167, 318, 319, 177, 320, 321, 160, 310, 329, 175, 330, 324, 325, 326, 331, 332, 333, 334, 335, 327, 328] (by decide +kernel)
set_option maxRecDepth 20000 in
theorem wsL_i13 : ∀ w ∈ wsL_law_r13, w ∈ lw_tbl := mem_pl _ [309, 311, 601, 602, 603, 604, 517, 605, 606, 607, 609, 18, 610, 336, 337, 338, 339, 340, 342, 5, 343, 344, 346, 6] (by decide +kernel)
set_option maxRecDepth 20000 in
theorem wsL_i14 : ∀ w ∈ wsL_law_r14, w ∈ lw_tbl := mem_pl _ [347, 348, 349, 350, 351, 93, 94, 98, 99, 84, 85, 352, 353, 355, 356, 357, 359, 360, 361, 362, 364, 365, 363, 367] (by decide +kernel)
set_option maxRecDepth 20000 in
theorem wsL_i15 : ∀ w ∈ wsL_law_r15, w ∈ lw_tbl := mem_pl _ [368, 681, 0, 370, 371, 1, 372, 374, 375, 376, 377, 104, 105, 62, 378, 380, 7, 381, 57, 382, 384, 8, 385, 386] (by decide +kernel)
set_option maxRecDepth 20000 in
theorem wsL_i16 : ∀ w ∈ wsL_law_r16, w ∈ lw_tbl := mem_pl _ [387, 389, 390, 391, 392, 393, 394, 106, 107, 60, 82, 83, 395, 396, 397, 366, 398, 399, 400, 401, 90, 91, 402, 403] (by decide +kernel)
set_option maxRecDepth 20000 in
theorem wsL_i17 : ∀ w ∈ wsL_law_r17, w ∈ lw_tbl := mem_pl _ [682, 404, 405, 406, 407, 408, 410, 9, 411, 87, 88, 412, 414, 10, 415, 416, 418, 11, 419, 611, 612, 613, 614, 623] (by decide +kernel)
set_option maxRecDepth 20000 in
theorem wsL_i18 : ∀ w ∈ wsL_law_r18, w ∈ lw_tbl := mem_pl _ [615, 617, 19, 618, 619, 621, 20, 622, 624, 626, 21, 627, 628, 630, 22, 631, 420, 421, 422, 423, 102, 424, 425, 427] (by decide +kernel)
set_option maxRecDepth 20000 in
theorem wsL_i19 : ∀ w ∈ wsL_law_r19, w ∈ lw_tbl := mem_pl _ [428, 429, 430, 431, 432, 433, 434, 435, 632, 633, 634, 635, 436, 437, 438, 439, 440, 441, 443, 444, 445, 636, 637, 638] (by decide +kernel)
set_option maxRecDepth 20000 in
theorem wsL_i20 : ∀ w ∈ wsL_law_r20, w ∈ lw_tbl := mem_pl _ [639, 446, 447, 448, 449, 450, 451, 452, 453, 454, 455, 456, 457, 458, 459, 460, 58, 640, 641, 642, 643, 644, 646, 23] (by decide +kernel)
set_option maxRecDepth 20000 in
theorem wsL_i21 : ∀ w ∈ wsL_law_r21, w ∈ lw_tbl := mem_pl _ [647, 648, 650, 24, 651, 652, 654, 25, 655, 461, 462, 463, 464, 465, 466, 467, 468, 469, 470, 471, 472, 473, 474, 475] (by decide +kernel)
set_option maxRecDepth 20000 in
theorem wsL_i22 : ∀ w ∈ wsL_law_r22, w ∈ lw_tbl := mem_pl _ [476, 41, 477, 95, 96, 100, 101, 478, 479, 480, 481, 656, 657, 658, 659, 660, 662, 26, 663, 664, 666, 27, 667, 482] (by decide +kernel)
set_option maxRecDepth 20000 in
theorem wsL_i23 : ∀ w ∈ wsL_law_r23, w ∈ lw_tbl := mem_pl _ [483, 484, 485, 486, 487, 488, 489, 490, 491, 492, 493, 494, 683, 495, 496, 497, 668, 669, 670, 671, 498, 499, 500, 501] (by decide +kernel)
set_option maxRecDepth 20000 in
theorem wsL_i24 : ∀ w ∈ wsL_law_r24, w ∈ lw_tbl := mem_pl _ [672, 673, 674, 675, 502, 503, 504, 505, 178, 676, 677, 678, 679] (by decide +kernel)
set_option maxRecDepth 20000 in
theorem inX8 : ∀ w ∈ wsX80, w ∈ lw_tbl := by decide +kernel
set_option maxRecDepth 20000 in
theorem inX9 : ∀ w ∈ wsX90, w ∈ lw_tbl := by decide +kernel
set_option maxRecDepth 20000 in
theorem inX3 : ∀ w ∈ wsX30, w ∈ lw_tbl := by decide +kernel
set_option maxRecDepth 20000 in
theorem inX2 : ∀ w ∈ wsX20, w ∈ lw_tbl := by decide +kernel
set_option maxRecDepth 20000 in
theorem inX4 : ∀ w ∈ wsX40, w ∈ lw_tbl := by decide +kernel
set_option maxRecDepth 20000 in
theorem inX6 : ∀ w ∈ wsX60, w ∈ lw_tbl := by decide +kernel
set_option maxRecDepth 20000 in
theorem inX1 : ∀ w ∈ wsX10, w ∈ lw_tbl := by decide +kernel
set_option maxRecDepth 20000 in
theorem inX0 : ∀ w ∈ wsX00, w ∈ lw_tbl := by decide +kernel
set_option maxRecDepth 20000 in
theorem inX7 : ∀ w ∈ wsX70, w ∈ lw_tbl := by decide +kernel
theorem app_in {big a b : List Cond} (ha : ∀ w ∈ a, w ∈ big) (hb : ∀ w ∈ b, w ∈ big) : ∀ w ∈ a ++ b, w ∈ big := fun w h => (List.mem_append.mp h).elim (ha w) (hb w)
theorem wsL_law_in : ∀ w ∈ wsL_law, w ∈ lw_tbl := app_in (app_in (app_in (app_in (app_in (app_in (app_in (app_in (app_in (app_in (app_in wsL_i1 (app_in wsL_i2 (app_in wsL_i3 (app_in wsL_i4 (app_in wsL_i5 (app_in wsL_i6 (app_in wsL_i7 (app_in wsL_i8 (app_in wsL_i9 (app_in wsL_i10 (app_in wsL_i11 (app_in wsL_i12 (app_in wsL_i13 (app_in wsL_i14 (app_in wsL_i15 (app_in wsL_i16 (app_in wsL_i17 (app_in wsL_i18 (app_in wsL_i19 (app_in wsL_i20 (app_in wsL_i21 (app_in wsL_i22 (app_in wsL_i23 wsL_i24))))))))))))))))))))))) inX8) inX9) inX3) inX2) inX4) inX6) inX1) inX0) inX7) (fun w h => absurd h List.not_mem_nil)
