/-- words by their places -/
theorem mem_pl {big : List Cond} (ws : List Cond) (ps : List Nat) (hp : ws = ps.filterMap (fun i => big[i]?)) : ∀ w ∈ ws, w ∈ big := by
  intro w hw
  rw [hp] at hw
  obtain ⟨i, -, hi⟩ := List.mem_filterMap.mp hw
  exact List.mem_of_getElem? hi
set_option maxRecDepth 20000 in
theorem wsL_i1 : ∀ w ∈ wsL_law_r1, w ∈ lw_tbl := mem_pl _ [43, 44, 30, 510, 511, 39, 45, 46, 47, 48, 49, 50, 51, 52, 31, 186, 70, 71, 33, 187, 130, 131, 34, 188] (by decide +kernel)
set_option maxRecDepth 20000 in
theorem wsL_i2 : ∀ w ∈ wsL_law_r2, w ∈ lw_tbl := mem_pl _ [150, 152, 35, 158, 159, 36, 165, 166, 37, 189, 172, 173, 38, 190, 191, 192, 193, 54, 55, 56, 69, 57, 60, 72] (by decide +kernel)
set_option maxRecDepth 20000 in
theorem wsL_i3 : ∀ w ∈ wsL_law_r3, w ∈ lw_tbl := mem_pl _ [73, 74, 80, 79, 75, 76, 32, 77, 78, 95, 100, 106, 81, 86, 89, 92, 132, 133, 134, 137, 136, 135, 154, 155] (by decide +kernel)
set_option maxRecDepth 20000 in
theorem wsL_i4 : ∀ w ∈ wsL_law_r4, w ∈ lw_tbl := mem_pl _ [156, 161, 162, 168, 169, 175, 176, 177, 178, 512, 513, 514, 515, 516, 517, 519, 520, 522, 547, 523, 524, 525, 518, 211] (by decide +kernel)
set_option maxRecDepth 20000 in
theorem wsL_i5 : ∀ w ∈ wsL_law_r5, w ∈ lw_tbl := mem_pl _ [212, 213, 214, 62, 215, 216, 217, 218, 219, 220, 221, 222, 223, 40, 224, 548, 549, 550, 551, 552, 553, 554, 555, 557] (by decide +kernel)
set_option maxRecDepth 20000 in
theorem wsL_i6 : ∀ w ∈ wsL_law_r6, w ∈ lw_tbl := mem_pl _ [13, 558, 225, 226, 227, 228, 229, 230, 231, 232, 233, 234, 235, 236, 237, 238, 239, 240, 241, 242, 243, 244, 559, 560] (by decide +kernel)
set_option maxRecDepth 20000 in
theorem wsL_i7 : ∀ w ∈ wsL_law_r7, w ∈ lw_tbl := mem_pl _ [561, 562, 563, 565, 14, 566, 567, 569, 15, 570, 245, 246, 247, 248, 249, 250, 251, 252, 253, 254, 256, 4, 257, 258] (by decide +kernel)
set_option maxRecDepth 20000 in
theorem wsL_i8 : ∀ w ∈ wsL_law_r8, w ∈ lw_tbl := mem_pl _ [259, 260, 261, 262, 263, 264, 41, 265, 266, 267, 268, 571, 572, 573, 574, 575, 577, 16, 578, 579, 580, 581, 269, 270] (by decide +kernel)
set_option maxRecDepth 20000 in
theorem wsL_i9 : ∀ w ∈ wsL_law_r9, w ∈ lw_tbl := mem_pl _ [271, 272, 582, 583, 584, 585, 273, 274, 275, 276, 277, 278, 279, 280, 281, 282, 283, 284, 285, 286, 287, 288, 289, 290] (by decide +kernel)
set_option maxRecDepth 20000 in
theorem wsL_i10 : ∀ w ∈ wsL_law_r10, w ∈ lw_tbl := mem_pl _ [291, 292, 294, 5, 295, 296, 298, 6, 299, 586, 587, 588, 589, 590, 591, 592, 593, 595, 17, 596, 597, 599, 18, 600] (by decide +kernel)
set_option maxRecDepth 20000 in
theorem wsL_i11 : ∀ w ∈ wsL_law_r11, w ∈ lw_tbl := mem_pl _ [300, 301, 302, 303, 304, 305, 601, 602, 603, 604, 306, 307, 308, 309, 310, 311, 312, 313, 316, 314, 317, 318, 319, 180] (by decide +kernel)
set_option maxRecDepth 20000 in
theorem wsL_i12 : ∀ w ∈ wsL_law_r12, w ∈ lw_tbl := mem_pl _ [320, 321, 684, 171, 322, 323, 181, 324, 325, 164, 314, 333, 179, 334, 328, 329, 330, 335, 336, 337, 338, 339, 331, 332] (by decide +kernel)
set_option maxRecDepth 20000 in
theorem wsL_i13 : ∀ w ∈ wsL_law_r13, w ∈ lw_tbl := mem_pl _ [313, 315, 605, 606, 607, 608, 521, 609, 610, 611, 613, 19, 614, 340, 341, 342, 343, 344, 346, 7, 347, 348, 350, 8] (by decide +kernel)
set_option maxRecDepth 20000 in
theorem wsL_i14 : ∀ w ∈ wsL_law_r14, w ∈ lw_tbl := mem_pl _ [351, 352, 353, 354, 355, 96, 97, 101, 102, 84, 85, 356, 357, 359, 360, 361, 363, 364, 365, 366, 685, 0, 368, 369] (by decide +kernel)
set_option maxRecDepth 20000 in
theorem wsL_i15 : ∀ w ∈ wsL_law_r15, w ∈ lw_tbl := mem_pl _ [1, 370, 372, 373, 371, 375, 376, 686, 2, 378, 379, 3, 380, 382, 383, 384, 385, 107, 108, 63, 386, 388, 9, 389] (by decide +kernel)
set_option maxRecDepth 20000 in
theorem wsL_i16 : ∀ w ∈ wsL_law_r16, w ∈ lw_tbl := mem_pl _ [58, 390, 391, 393, 394, 395, 396, 397, 398, 109, 110, 61, 399, 400, 401, 374, 402, 403, 404, 405, 90, 91, 406, 407] (by decide +kernel)
set_option maxRecDepth 20000 in
theorem wsL_i17 : ∀ w ∈ wsL_law_r17, w ∈ lw_tbl := mem_pl _ [687, 408, 409, 410, 411, 412, 414, 10, 415, 87, 88, 416, 418, 11, 419, 420, 422, 12, 423, 93, 94, 615, 616, 617] (by decide +kernel)
set_option maxRecDepth 20000 in
theorem wsL_i18 : ∀ w ∈ wsL_law_r18, w ∈ lw_tbl := mem_pl _ [618, 627, 619, 621, 20, 622, 623, 625, 21, 626, 628, 630, 22, 631, 632, 634, 23, 635, 424, 425, 426, 427, 105, 428] (by decide +kernel)
set_option maxRecDepth 20000 in
theorem wsL_i19 : ∀ w ∈ wsL_law_r19, w ∈ lw_tbl := mem_pl _ [429, 431, 432, 433, 434, 435, 436, 437, 438, 439, 636, 637, 638, 639, 440, 441, 442, 443, 444, 445, 447, 448, 449, 640] (by decide +kernel)
set_option maxRecDepth 20000 in
theorem wsL_i20 : ∀ w ∈ wsL_law_r20, w ∈ lw_tbl := mem_pl _ [641, 642, 643, 450, 451, 452, 453, 454, 455, 456, 457, 458, 459, 460, 461, 462, 463, 464, 59, 644, 645, 646, 647, 648] (by decide +kernel)
set_option maxRecDepth 20000 in
theorem wsL_i21 : ∀ w ∈ wsL_law_r21, w ∈ lw_tbl := mem_pl _ [650, 24, 651, 652, 654, 25, 655, 656, 658, 26, 659, 465, 466, 467, 468, 469, 470, 471, 472, 473, 474, 475, 476, 477] (by decide +kernel)
set_option maxRecDepth 20000 in
theorem wsL_i22 : ∀ w ∈ wsL_law_r22, w ∈ lw_tbl := mem_pl _ [478, 82, 83, 479, 480, 42, 481, 98, 99, 103, 104, 482, 483, 484, 485, 660, 661, 662, 663, 664, 666, 27, 667, 668] (by decide +kernel)
set_option maxRecDepth 20000 in
theorem wsL_i23 : ∀ w ∈ wsL_law_r23, w ∈ lw_tbl := mem_pl _ [670, 28, 671, 486, 487, 488, 489, 490, 491, 492, 493, 494, 495, 496, 497, 498, 688, 499, 500, 501, 672, 673, 674, 675] (by decide +kernel)
set_option maxRecDepth 20000 in
theorem wsL_i24 : ∀ w ∈ wsL_law_r24, w ∈ lw_tbl := mem_pl _ [502, 503, 504, 505, 676, 677, 678, 679, 506, 507, 508, 509, 182, 680, 681, 682, 683] (by decide +kernel)
set_option maxRecDepth 20000 in
theorem inX8 : ∀ w ∈ wsX80, w ∈ lw_tbl := by decide +kernel
set_option maxRecDepth 20000 in
theorem inX9 : ∀ w ∈ wsX90, w ∈ lw_tbl := by decide +kernel
set_option maxRecDepth 20000 in
theorem inX3 : ∀ w ∈ wsX30, w ∈ lw_tbl := by decide +kernel
set_option maxRecDepth 20000 in
theorem inX2 : ∀ w ∈ wsX20, w ∈ lw_tbl := by decide +kernel
set_option maxRecDepth 20000 in
theorem inX4 : ∀ w ∈ wsX40, w ∈ lw_tbl := by decide +kernel
set_option maxRecDepth 20000 in
theorem inX6 : ∀ w ∈ wsX60, w ∈ lw_tbl := by decide +kernel
set_option maxRecDepth 20000 in
theorem inX1 : ∀ w ∈ wsX10, w ∈ lw_tbl := by decide +kernel
set_option maxRecDepth 20000 in
theorem inX0 : ∀ w ∈ wsX00, w ∈ lw_tbl := by decide +kernel
set_option maxRecDepth 20000 in
theorem inX7 : ∀ w ∈ wsX70, w ∈ lw_tbl := by decide +kernel
theorem app_in {big a b : List Cond} (ha : ∀ w ∈ a, w ∈ big) (hb : ∀ w ∈ b, w ∈ big) : ∀ w ∈ a ++ b, w ∈ big := fun w h => (List.mem_append.mp h).elim (ha w) (hb w)
theorem wsL_law_in : ∀ w ∈ wsL_law, w ∈ lw_tbl := app_in (app_in (app_in (app_in (app_in (app_in (app_in (app_in (app_in (app_in (app_in wsL_i1 (app_in wsL_i2 (app_in wsL_i3 (app_in wsL_i4 (app_in wsL_i5 (app_in wsL_i6 (app_in wsL_i7 (app_in wsL_i8 (app_in wsL_i9 (app_in wsL_i10 (app_in wsL_i11 (app_in wsL_i12 (app_in wsL_i13 (app_in wsL_i14 (app_in wsL_i15 (app_in wsL_i16 (app_in wsL_i17 (app_in wsL_i18 (app_in wsL_i19 (app_in wsL_i20 (app_in wsL_i21 (app_in wsL_i22 (app_in wsL_i23 wsL_i24))))))))))))))))))))))) inX8) inX9) inX3) inX2) inX4) inX6) inX1) inX0) inX7) (fun w h => absurd h List.not_mem_nil)
