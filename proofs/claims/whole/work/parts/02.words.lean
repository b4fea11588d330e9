set_option maxRecDepth 20000 in
theorem lq_wsL_law_r1 : ∀ w ∈ wsL_law_r1, w ∈ lw_tbl := fun w h => (goodIn_r (big := lw_tbl) wsL_law_r1 [39, 40, 30, 458, 459, 35, 41, 42, 43, 44, 45, 46, 47, 48, 31, 135, 81, 82, 33, 136, 96, 97, 34, 137] (by decide +kernel) (by decide +kernel) w h).1
set_option maxRecDepth 20000 in
theorem lq_wsL_law_r2 : ∀ w ∈ wsL_law_r2, w ∈ lw_tbl := fun w h => (goodIn_r (big := lw_tbl) wsL_law_r2 [138, 49, 50, 51, 52, 67, 53, 54, 32, 70, 80, 72, 55, 56, 57, 58, 59, 60, 83, 84, 85, 86, 87, 89] (by decide +kernel) (by decide +kernel) w h).1
set_option maxRecDepth 20000 in
theorem lq_wsL_law_r3 : ∀ w ∈ wsL_law_r3, w ∈ lw_tbl := fun w h => (goodIn_r (big := lw_tbl) wsL_law_r3 [98, 99, 100, 101, 117, 120, 121, 113, 115, 102, 104, 0, 105, 119, 106, 108, 1, 109, 110, 111, 112, 460, 461, 462] (by decide +kernel) (by decide +kernel) w h).1
set_option maxRecDepth 20000 in
theorem lq_wsL_law_r4 : ∀ w ∈ wsL_law_r4, w ∈ lw_tbl := fun w h => (goodIn_r (big := lw_tbl) wsL_law_r4 [463, 465, 467, 468, 469, 470, 471, 472, 474, 476, 477, 479, 480, 481, 473, 148, 149, 150, 151, 155, 157, 158, 36, 169] (by decide +kernel) (by decide +kernel) w h).1
set_option maxRecDepth 20000 in
theorem lq_wsL_law_r5 : ∀ w ∈ wsL_law_r5, w ∈ lw_tbl := fun w h => (goodIn_r (big := lw_tbl) wsL_law_r5 [170, 37, 152, 153, 154, 156, 159, 160, 161, 163, 162, 171, 172, 173, 175, 174, 182, 183, 184, 185, 186, 189, 187, 190] (by decide +kernel) (by decide +kernel) w h).1
set_option maxRecDepth 20000 in
theorem lq_wsL_law_r6 : ∀ w ∈ wsL_law_r6, w ∈ lw_tbl := fun w h => (goodIn_r (big := lw_tbl) wsL_law_r6 [191, 192, 197, 198, 38, 199, 193, 692, 181, 194, 195, 196, 168, 187, 201, 186, 188, 200, 202, 203, 204, 205, 206, 519] (by decide +kernel) (by decide +kernel) w h).1
set_option maxRecDepth 20000 in
theorem lq_wsL_law_r7 : ∀ w ∈ wsL_law_r7, w ∈ lw_tbl := fun w h => (goodIn_r (big := lw_tbl) wsL_law_r7 [520, 521, 522, 464, 466, 523, 524, 525, 526, 528, 9, 529, 530, 532, 10, 533, 534, 536, 11, 537, 207, 208, 209, 210] (by decide +kernel) (by decide +kernel) w h).1
set_option maxRecDepth 20000 in
theorem lq_wsL_law_r8 : ∀ w ∈ wsL_law_r8, w ∈ lw_tbl := fun w h => (goodIn_r (big := lw_tbl) wsL_law_r8 [211, 212, 213, 214, 538, 539, 540, 541, 215, 216, 217, 218, 219, 222, 220, 223, 224, 225, 226, 693, 227, 228, 229, 220] (by decide +kernel) (by decide +kernel) w h).1
set_option maxRecDepth 20000 in
theorem lq_wsL_law_r9 : ∀ w ∈ wsL_law_r9, w ∈ lw_tbl := fun w h => (goodIn_r (big := lw_tbl) wsL_law_r9 [231, 219, 221, 230, 232, 232, 542, 543, 544, 545, 475, 546, 547, 233, 234, 235, 236, 237, 238, 239, 240, 242, 243, 244] (by decide +kernel) (by decide +kernel) w h).1
set_option maxRecDepth 20000 in
theorem lq_wsL_law_r10 : ∀ w ∈ wsL_law_r10, w ∈ lw_tbl := fun w h => (goodIn_r (big := lw_tbl) wsL_law_r10 [245, 246, 247, 248, 249, 548, 549, 550, 551, 552, 554, 12, 555, 556, 558, 13, 559, 560, 562, 14, 563, 250, 251, 252] (by decide +kernel) (by decide +kernel) w h).1
set_option maxRecDepth 20000 in
theorem lq_wsL_law_r11 : ∀ w ∈ wsL_law_r11, w ∈ lw_tbl := fun w h => (goodIn_r (big := lw_tbl) wsL_law_r11 [253, 564, 565, 566, 567, 254, 255, 256, 257, 258, 259, 260, 261, 262, 263, 264, 265, 266, 267, 268, 269, 270, 271, 273] (by decide +kernel) (by decide +kernel) w h).1
set_option maxRecDepth 20000 in
theorem lq_wsL_law_r12 : ∀ w ∈ wsL_law_r12, w ∈ lw_tbl := fun w h => (goodIn_r (big := lw_tbl) wsL_law_r12 [274, 275, 276, 277, 278, 279, 280, 568, 569, 570, 571, 572, 574, 15, 575, 576, 577, 578, 281, 282, 283, 284, 285, 286] (by decide +kernel) (by decide +kernel) w h).1
set_option maxRecDepth 20000 in
theorem lq_wsL_law_r13 : ∀ w ∈ wsL_law_r13, w ∈ lw_tbl := fun w h => (goodIn_r (big := lw_tbl) wsL_law_r13 [287, 288, 289, 579, 580, 581, 582, 583, 585, 16, 586, 290, 291, 292, 293, 294, 295, 296, 587, 588, 589, 590, 297, 298] (by decide +kernel) (by decide +kernel) w h).1
set_option maxRecDepth 20000 in
theorem lq_wsL_law_r14 : ∀ w ∈ wsL_law_r14, w ∈ lw_tbl := fun w h => (goodIn_r (big := lw_tbl) wsL_law_r14 [299, 300, 301, 305, 302, 303, 304, 306, 307, 308, 309, 310, 311, 591, 592, 593, 594, 595, 600, 596, 598, 17, 599, 601] (by decide +kernel) (by decide +kernel) w h).1
set_option maxRecDepth 20000 in
theorem lq_wsL_law_r15 : ∀ w ∈ wsL_law_r15, w ∈ lw_tbl := fun w h => (goodIn_r (big := lw_tbl) wsL_law_r15 [603, 18, 604, 312, 313, 314, 315, 316, 317, 318, 319, 321, 326, 327, 328, 320, 322, 324, 325, 329, 330, 331, 332, 339] (by decide +kernel) (by decide +kernel) w h).1
set_option maxRecDepth 20000 in
theorem lq_wsL_law_r16 : ∀ w ∈ wsL_law_r16, w ∈ lw_tbl := fun w h => (goodIn_r (big := lw_tbl) wsL_law_r16 [340, 341, 333, 335, 2, 336, 337, 605, 606, 607, 608, 609, 611, 19, 612, 613, 614, 616, 20, 617, 618, 342, 343, 344] (by decide +kernel) (by decide +kernel) w h).1
set_option maxRecDepth 20000 in
theorem lq_wsL_law_r17 : ∀ w ∈ wsL_law_r17, w ∈ lw_tbl := fun w h => (goodIn_r (big := lw_tbl) wsL_law_r17 [345, 346, 347, 348, 349, 351, 354, 350, 619, 620, 621, 622, 623, 624, 625, 626, 628, 21, 629, 355, 356, 357, 358, 630] (by decide +kernel) (by decide +kernel) w h).1
set_option maxRecDepth 20000 in
theorem lq_wsL_law_r18 : ∀ w ∈ wsL_law_r18, w ∈ lw_tbl := fun w h => (goodIn_r (big := lw_tbl) wsL_law_r18 [631, 632, 633, 634, 359, 360, 361, 362, 363, 364, 365, 366, 635, 636, 637, 638, 367, 368, 369, 370, 639, 640, 641, 642] (by decide +kernel) (by decide +kernel) w h).1
set_option maxRecDepth 20000 in
theorem lq_wsL_law_r19 : ∀ w ∈ wsL_law_r19, w ∈ lw_tbl := fun w h => (goodIn_r (big := lw_tbl) wsL_law_r19 [371, 372, 373, 374, 643, 644, 645, 646, 375, 376, 377, 378, 379, 380, 381, 382, 383, 384, 385, 386, 387, 389, 3, 390] (by decide +kernel) (by decide +kernel) w h).1
set_option maxRecDepth 20000 in
theorem lq_wsL_law_r20 : ∀ w ∈ wsL_law_r20, w ∈ lw_tbl := fun w h => (goodIn_r (big := lw_tbl) wsL_law_r20 [391, 393, 4, 394, 395, 396, 397, 398, 399, 400, 401, 402, 403, 404, 405, 406, 407, 409, 408, 410, 411, 412, 413, 414] (by decide +kernel) (by decide +kernel) w h).1
set_option maxRecDepth 20000 in
theorem lq_wsL_law_r21 : ∀ w ∈ wsL_law_r21, w ∈ lw_tbl := fun w h => (goodIn_r (big := lw_tbl) wsL_law_r21 [416, 5, 417, 418, 420, 6, 421, 422, 424, 7, 425, 426, 428, 8, 429, 647, 648, 649, 650, 478, 651, 653, 22, 654] (by decide +kernel) (by decide +kernel) w h).1
set_option maxRecDepth 20000 in
theorem lq_wsL_law_r22 : ∀ w ∈ wsL_law_r22, w ∈ lw_tbl := fun w h => (goodIn_r (big := lw_tbl) wsL_law_r22 [655, 657, 23, 658, 659, 661, 24, 662, 663, 665, 25, 666, 667, 669, 26, 670, 671, 672, 674, 27, 675, 676, 678, 28] (by decide +kernel) (by decide +kernel) w h).1
set_option maxRecDepth 20000 in
theorem lq_wsL_law_r23 : ∀ w ∈ wsL_law_r23, w ∈ lw_tbl := fun w h => (goodIn_r (big := lw_tbl) wsL_law_r23 [679, 430, 431, 432, 433, 434, 435, 436, 437, 438, 680, 681, 682, 683, 439, 440, 441, 442, 443, 446, 444, 447, 448, 449] (by decide +kernel) (by decide +kernel) w h).1
set_option maxRecDepth 20000 in
theorem lq_wsL_law_r24 : ∀ w ∈ wsL_law_r24, w ∈ lw_tbl := fun w h => (goodIn_r (big := lw_tbl) wsL_law_r24 [453, 443, 444, 445, 450, 451, 452, 684, 685, 686, 687, 454, 455, 456, 457, 688, 689, 690, 691] (by decide +kernel) (by decide +kernel) w h).1
set_option maxRecDepth 20000 in
theorem lq_wsX00 : ∀ w ∈ wsX00, w ∈ lw_tbl := fun w h => (goodIn_r (big := lw_tbl) wsX00 [178, 179, 180, 176] (by decide +kernel) (by decide +kernel) w h).1
set_option maxRecDepth 20000 in
theorem lq_wsX10 : ∀ w ∈ wsX10, w ∈ lw_tbl := fun w h => (goodIn_r (big := lw_tbl) wsX10 [62, 64] (by decide +kernel) (by decide +kernel) w h).1
set_option maxRecDepth 20000 in
theorem lq_wsX20 : ∀ w ∈ wsX20, w ∈ lw_tbl := fun w h => (goodIn_r (big := lw_tbl) wsX20 [91, 93] (by decide +kernel) (by decide +kernel) w h).1
set_option maxRecDepth 20000 in
theorem lq_wsX30 : ∀ w ∈ wsX30, w ∈ lw_tbl := fun w h => (goodIn_r (big := lw_tbl) wsX30 [73, 75, 77] (by decide +kernel) (by decide +kernel) w h).1
set_option maxRecDepth 20000 in
theorem lq_wsX40 : ∀ w ∈ wsX40, w ∈ lw_tbl := fun w h => (goodIn_r (big := lw_tbl) wsX40 [166, 167, 164] (by decide +kernel) (by decide +kernel) w h).1
set_option maxRecDepth 20000 in
theorem lq_wsX50 : ∀ w ∈ wsX50, w ∈ lw_tbl := fun w h => (goodIn_r (big := lw_tbl) wsX50 [122, 124, 126, 128, 130, 132] (by decide +kernel) (by decide +kernel) w h).1
set_option maxRecDepth 20000 in
theorem lq_wsX60 : ∀ w ∈ wsX60, w ∈ lw_tbl := fun w h => (goodIn_r (big := lw_tbl) wsX60 [139, 141, 143, 145] (by decide +kernel) (by decide +kernel) w h).1
set_option maxRecDepth 20000 in
theorem lq_wsX70 : ∀ w ∈ wsX70, w ∈ lw_tbl := fun w h => (goodIn_r (big := lw_tbl) wsX70 [482, 484, 486, 488, 490, 492, 494, 496, 498, 500, 502, 504, 506, 508, 510, 512, 514, 516] (by decide +kernel) (by decide +kernel) w h).1
theorem wsL_law_in : ∀ w ∈ wsL_law, w ∈ lw_tbl := fun w h => (List.mem_append.mp h).elim (fun h => (List.mem_append.mp h).elim (fun h => (List.mem_append.mp h).elim (fun h => (List.mem_append.mp h).elim (fun h => (List.mem_append.mp h).elim (fun h => (List.mem_append.mp h).elim (fun h => (List.mem_append.mp h).elim (fun h => (List.mem_append.mp h).elim (fun h => (List.mem_append.mp h).elim (fun h => (List.mem_append.mp h).elim (fun h => lq_wsL_law_r1 w h) (fun h => (List.mem_append.mp h).elim (fun h => lq_wsL_law_r2 w h) (fun h => (List.mem_append.mp h).elim (fun h => lq_wsL_law_r3 w h) (fun h => (List.mem_append.mp h).elim (fun h => lq_wsL_law_r4 w h) (fun h => (List.mem_append.mp h).elim (fun h => lq_wsL_law_r5 w h) (fun h => (List.mem_append.mp h).elim (fun h => lq_wsL_law_r6 w h) (fun h => (List.mem_append.mp h).elim (fun h => lq_wsL_law_r7 w h) (fun h => (List.mem_append.mp h).elim (fun h => lq_wsL_law_r8 w h) (fun h => (List.mem_append.mp h).elim (fun h => lq_wsL_law_r9 w h) (fun h => (List.mem_append.mp h).elim (fun h => lq_wsL_law_r10 w h) (fun h => (List.mem_append.mp h).elim (fun h => lq_wsL_law_r11 w h) (fun h => (List.mem_append.mp h).elim (fun h => lq_wsL_law_r12 w h) (fun h => (List.mem_append.mp h).elim (fun h => lq_wsL_law_r13 w h) (fun h => (List.mem_append.mp h).elim (fun h => lq_wsL_law_r14 w h) (fun h => (List.mem_append.mp h).elim (fun h => lq_wsL_law_r15 w h) (fun h => (List.mem_append.mp h).elim (fun h => lq_wsL_law_r16 w h) (fun h => (List.mem_append.mp h).elim (fun h => lq_wsL_law_r17 w h) (fun h => (List.mem_append.mp h).elim (fun h => lq_wsL_law_r18 w h) (fun h => (List.mem_append.mp h).elim (fun h => lq_wsL_law_r19 w h) (fun h => (List.mem_append.mp h).elim (fun h => lq_wsL_law_r20 w h) (fun h => (List.mem_append.mp h).elim (fun h => lq_wsL_law_r21 w h) (fun h => (List.mem_append.mp h).elim (fun h => lq_wsL_law_r22 w h) (fun h => (List.mem_append.mp h).elim (fun h => lq_wsL_law_r23 w h) (fun h => lq_wsL_law_r24 w h)))))))))))))))))))))))) (fun h => lq_wsX60 w h)) (fun h => lq_wsX70 w h)) (fun h => lq_wsX30 w h)) (fun h => lq_wsX20 w h)) (fun h => lq_wsX50 w h)) (fun h => lq_wsX10 w h)) (fun h => lq_wsX00 w h)) (fun h => lq_wsX40 w h)) (fun h => absurd h List.not_mem_nil)
theorem inlX0 : ∀ w ∈ wsX00, w ∈ wsL_law := fun _ h => List.mem_append_left _ (List.mem_append_left _ (List.mem_append_right _ h))
theorem inX0 : ∀ w ∈ wsX00, w ∈ lw_tbl := fun w h => wsL_law_in w (inlX0 w h)
theorem inlX1 : ∀ w ∈ wsX10, w ∈ wsL_law := fun _ h => List.mem_append_left _ (List.mem_append_left _ (List.mem_append_left _ (List.mem_append_right _ h)))
theorem inX1 : ∀ w ∈ wsX10, w ∈ lw_tbl := fun w h => wsL_law_in w (inlX1 w h)
theorem inlX2 : ∀ w ∈ wsX20, w ∈ wsL_law := fun _ h => List.mem_append_left _ (List.mem_append_left _ (List.mem_append_left _ (List.mem_append_left _ (List.mem_append_left _ (List.mem_append_right _ h)))))
theorem inX2 : ∀ w ∈ wsX20, w ∈ lw_tbl := fun w h => wsL_law_in w (inlX2 w h)
theorem inlX3 : ∀ w ∈ wsX30, w ∈ wsL_law := fun _ h => List.mem_append_left _ (List.mem_append_left _ (List.mem_append_left _ (List.mem_append_left _ (List.mem_append_left _ (List.mem_append_left _ (List.mem_append_right _ h))))))
theorem inX3 : ∀ w ∈ wsX30, w ∈ lw_tbl := fun w h => wsL_law_in w (inlX3 w h)
theorem inlX4 : ∀ w ∈ wsX40, w ∈ wsL_law := fun _ h => List.mem_append_left _ (List.mem_append_right _ h)
theorem inX4 : ∀ w ∈ wsX40, w ∈ lw_tbl := fun w h => wsL_law_in w (inlX4 w h)
theorem inlX5 : ∀ w ∈ wsX50, w ∈ wsL_law := fun _ h => List.mem_append_left _ (List.mem_append_left _ (List.mem_append_left _ (List.mem_append_left _ (List.mem_append_right _ h))))
theorem inX5 : ∀ w ∈ wsX50, w ∈ lw_tbl := fun w h => wsL_law_in w (inlX5 w h)
theorem inlX6 : ∀ w ∈ wsX60, w ∈ wsL_law := fun _ h => List.mem_append_left _ (List.mem_append_left _ (List.mem_append_left _ (List.mem_append_left _ (List.mem_append_left _ (List.mem_append_left _ (List.mem_append_left _ (List.mem_append_left _ (List.mem_append_right _ h))))))))
theorem inX6 : ∀ w ∈ wsX60, w ∈ lw_tbl := fun w h => wsL_law_in w (inlX6 w h)
theorem inlX7 : ∀ w ∈ wsX70, w ∈ wsL_law := fun _ h => List.mem_append_left _ (List.mem_append_left _ (List.mem_append_left _ (List.mem_append_left _ (List.mem_append_left _ (List.mem_append_left _ (List.mem_append_left _ (List.mem_append_right _ h)))))))
theorem inX7 : ∀ w ∈ wsX70, w ∈ lw_tbl := fun w h => wsL_law_in w (inlX7 w h)
theorem inJ9 : ∀ w ∈ wsJ90, w ∈ lw_tbl := by decide +kernel
