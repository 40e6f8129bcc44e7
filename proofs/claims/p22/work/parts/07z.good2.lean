theorem goodIn_c9 {big a : List Cond} {c : Cond} (h : GoodIn big [c]) (ha : GoodIn big a) : GoodIn big (c :: a) := fun w hw => (List.mem_cons.mp hw).elim (fun e => h w (List.mem_cons.mpr (Or.inl e))) (ha w)
set_option maxRecDepth 20000 in
theorem ggL_holds_L_isActed_h : GoodIn wsL_holds [Cond.code yL_isActed cL_isActed 14 (some .boolean)] := goodIn_r _ [85] (by decide +kernel) (by decide +kernel)
set_option maxRecDepth 20000 in
theorem ggL_holds_L_isActed_r1 : GoodIn wsL_holds wsL_isActed_r1 := goodIn_r _ [86, 87, 88, 89, 3, 90, 91, 92, 15, 93, 94, 95, 96, 97, 98, 99, 100, 101, 102, 103, 14, 104, 105, 106] (by decide +kernel) (by decide +kernel)
set_option maxRecDepth 20000 in
theorem ggL_holds_L_isActed_r2 : GoodIn wsL_holds wsL_isActed_r2 := goodIn_r _ [107, 108, 109, 10, 11, 110, 111, 4, 112, 113, 114, 115, 116, 117, 118, 37, 119, 120, 121, 122, 123, 124, 125, 126] (by decide +kernel) (by decide +kernel)
set_option maxRecDepth 20000 in
theorem ggL_holds_L_isActed_r3 : GoodIn wsL_holds wsL_isActed_r3 := goodIn_r _ [127, 128, 129, 130, 36, 131, 60, 61, 62, 132, 133, 134, 135, 136, 137, 138, 139, 140, 141, 142, 143, 144, 145, 146] (by decide +kernel) (by decide +kernel)
set_option maxRecDepth 20000 in
theorem ggL_holds_L_isActed_r4 : GoodIn wsL_holds wsL_isActed_r4 := goodIn_r _ [147, 148, 149, 150, 151, 152, 153, 154, 155, 156, 157, 158, 159, 160, 161, 162, 163, 164, 165, 166, 167, 168, 169, 170] (by decide +kernel) (by decide +kernel)
set_option maxRecDepth 20000 in
theorem ggL_holds_L_isActed_r5 : GoodIn wsL_holds wsL_isActed_r5 := goodIn_r _ [171, 172, 173, 174, 175, 176, 177, 178, 179, 180, 181, 182, 183, 184, 185, 186, 187, 188, 189, 190, 191, 192, 193, 194] (by decide +kernel) (by decide +kernel)
set_option maxRecDepth 20000 in
theorem ggL_holds_L_isActed_r6 : GoodIn wsL_holds wsL_isActed_r6 := goodIn_r _ [195, 196, 197, 79, 198, 199, 200, 201, 202, 19, 203, 204, 205, 18, 206, 53, 207, 208, 209, 210, 211, 212, 213, 214] (by decide +kernel) (by decide +kernel)
set_option maxRecDepth 20000 in
theorem ggL_holds_L_isActed_r7 : GoodIn wsL_holds wsL_isActed_r7 := goodIn_r _ [215, 216, 217, 218, 219, 220, 221, 222, 223, 224, 225, 226, 227, 228, 229, 230, 231, 232, 233, 234, 235, 236, 52, 13] (by decide +kernel) (by decide +kernel)
set_option maxRecDepth 20000 in
theorem ggL_holds_L_isActed_r8 : GoodIn wsL_holds wsL_isActed_r8 := goodIn_r _ [237, 54, 34, 35, 38, 39, 40, 41, 42, 43, 44, 45, 46, 47, 238, 239, 240, 241, 242, 243, 244, 245, 246, 247] (by decide +kernel) (by decide +kernel)
set_option maxRecDepth 20000 in
theorem ggL_holds_L_isActed_r9 : GoodIn wsL_holds wsL_isActed_r9 := goodIn_r _ [248, 249, 250, 251, 252, 253, 254, 255, 256, 257, 258, 259, 23, 260, 261, 262, 263, 264, 265, 266, 267, 268, 269, 270] (by decide +kernel) (by decide +kernel)
set_option maxRecDepth 20000 in
theorem ggL_holds_L_isActed_r10 : GoodIn wsL_holds wsL_isActed_r10 := goodIn_r _ [271, 272, 273, 274, 275, 276, 277, 278, 279, 280, 281, 282, 283, 284, 285, 286, 287, 288, 22, 289, 63, 290, 291, 292] (by decide +kernel) (by decide +kernel)
set_option maxRecDepth 20000 in
theorem ggL_holds_L_isActed_r11 : GoodIn wsL_holds wsL_isActed_r11 := goodIn_r _ [293, 294, 295, 296, 297, 298, 299, 300, 301, 302, 303, 304, 305, 306, 307, 308, 309, 310, 311, 312, 313, 314, 315, 316] (by decide +kernel) (by decide +kernel)
set_option maxRecDepth 20000 in
theorem ggL_holds_L_isActed_r12 : GoodIn wsL_holds wsL_isActed_r12 := goodIn_r _ [317, 318, 319, 320, 321, 31, 322, 323, 324, 325, 326, 327, 30, 328, 74, 329, 330, 331, 332, 333, 334, 335, 336, 337] (by decide +kernel) (by decide +kernel)
set_option maxRecDepth 20000 in
theorem ggL_holds_L_isActed_r13 : GoodIn wsL_holds wsL_isActed_r13 := goodIn_r _ [338, 339, 340, 341, 342, 75, 343, 344, 345, 346, 347, 348, 349, 350, 351, 352, 353, 354, 355, 356, 357, 76, 358, 359] (by decide +kernel) (by decide +kernel)
set_option maxRecDepth 20000 in
theorem ggL_holds_L_isActed_r14 : GoodIn wsL_holds wsL_isActed_r14 := goodIn_r _ [360, 361, 362, 363, 364, 365, 366, 367, 368, 32] (by decide +kernel) (by decide +kernel)
set_option maxRecDepth 20000 in
theorem ggL_holds_L_isActed_wsX60 : GoodIn wsL_holds wsX60 := goodIn_r _ [585, 586, 587, 588, 589, 590] (by decide +kernel) (by decide +kernel)
set_option maxRecDepth 20000 in
theorem ggL_holds_L_isActed_wsX40 : GoodIn wsL_holds wsX40 := goodIn_r _ [605, 606, 607, 608, 609, 610, 611] (by decide +kernel) (by decide +kernel)
set_option maxRecDepth 20000 in
theorem ggL_holds_L_isActed_wsJx4a65c0 : GoodIn wsL_holds wsJx4a65c0 := goodIn_r _ [591, 592, 593] (by decide +kernel) (by decide +kernel)
set_option maxRecDepth 20000 in
theorem ggL_holds_L_isActed_wsX00 : GoodIn wsL_holds wsX00 := goodIn_r _ [594] (by decide +kernel) (by decide +kernel)
set_option maxRecDepth 20000 in
theorem ggL_holds_L_isActed_wsX30 : GoodIn wsL_holds wsX30 := goodIn_r _ [595, 596] (by decide +kernel) (by decide +kernel)
set_option maxRecDepth 20000 in
theorem ggL_holds_L_isActed_wsX50 : GoodIn wsL_holds wsX50 := goodIn_r _ [602, 603, 604] (by decide +kernel) (by decide +kernel)
set_option maxRecDepth 20000 in
theorem ggL_holds_L_isActed : GoodIn wsL_holds wsL_isActed := goodIn_ca (goodIn_ca (goodIn_ca (goodIn_c9 ggL_holds_L_isActed_h (goodIn_app (goodIn_app (goodIn_app (goodIn_app (goodIn_app (goodIn_app (goodIn_app ggL_holds_L_isActed_r1 (goodIn_app ggL_holds_L_isActed_r2 (goodIn_app ggL_holds_L_isActed_r3 (goodIn_app ggL_holds_L_isActed_r4 (goodIn_app ggL_holds_L_isActed_r5 (goodIn_app ggL_holds_L_isActed_r6 (goodIn_app ggL_holds_L_isActed_r7 (goodIn_app ggL_holds_L_isActed_r8 (goodIn_app ggL_holds_L_isActed_r9 (goodIn_app ggL_holds_L_isActed_r10 (goodIn_app ggL_holds_L_isActed_r11 (goodIn_app ggL_holds_L_isActed_r12 (goodIn_app ggL_holds_L_isActed_r13 ggL_holds_L_isActed_r14))))))))))))) ggL_holds_L_isActed_wsX60) ggL_holds_L_isActed_wsX40) ggL_holds_L_isActed_wsJx4a65c0) ggL_holds_L_isActed_wsX00) ggL_holds_L_isActed_wsX30) ggL_holds_L_isActed_wsX50)) (goodIn_sub (fun _ h => List.mem_cons_of_mem _ (List.mem_append_left _ (List.mem_append_left _ (List.mem_append_right _ h)))) (by decide +kernel))) (goodIn_sub (fun _ h => List.mem_cons_of_mem _ (List.mem_append_left _ (List.mem_append_right _ h))) (by decide +kernel))) (goodIn_sub (fun _ h => List.mem_cons_of_mem _ (List.mem_append_right _ h)) (by decide +kernel))
set_option maxRecDepth 20000 in
theorem gL_holds_L_isActed : GoodIn wsL_holds (va_wsS RL 138 yL_isActed wsL_isActed) := goodIn_app (goodIn_of _ (by decide +kernel)) ggL_holds_L_isActed
set_option maxRecDepth 20000 in
theorem ggL_isHeld_L_holds_h : GoodIn wsL_isHeld [Cond.code yL_holds cL_holds 12 (some .boolean)] := goodIn_r _ [7] (by decide +kernel) (by decide +kernel)
set_option maxRecDepth 20000 in
theorem ggL_isHeld_L_holds_r1 : GoodIn wsL_isHeld wsL_holds_r1 := goodIn_r _ [8, 9, 10, 11, 12, 13, 14, 15, 16, 17, 18, 19, 20, 21, 22, 23, 24, 25, 26, 27, 28, 29, 30, 31] (by decide +kernel) (by decide +kernel)
set_option maxRecDepth 20000 in
theorem ggL_isHeld_L_holds_r2 : GoodIn wsL_isHeld wsL_holds_r2 := goodIn_r _ [32, 33, 34, 35, 36, 37, 38, 39, 40, 41, 42, 43, 44, 45, 46, 47, 48, 49, 50, 51, 52, 53, 54, 55] (by decide +kernel) (by decide +kernel)
set_option maxRecDepth 20000 in
theorem ggL_isHeld_L_holds_r3 : GoodIn wsL_isHeld wsL_holds_r3 := goodIn_r _ [56, 57, 58, 59, 60, 61, 62, 63, 64, 65, 66, 67, 68, 69, 70, 71, 72, 73, 74, 75, 76, 77, 78, 79] (by decide +kernel) (by decide +kernel)
set_option maxRecDepth 20000 in
theorem ggL_isHeld_L_holds_r4 : GoodIn wsL_isHeld wsL_holds_r4 := goodIn_r _ [80, 81, 82, 83, 84, 85, 6, 86, 87, 88, 89, 90, 91, 92, 93, 94, 95, 96, 97, 98, 99, 100, 101, 102] (by decide +kernel) (by decide +kernel)
set_option maxRecDepth 20000 in
theorem ggL_isHeld_L_holds_r5 : GoodIn wsL_isHeld wsL_holds_r5 := goodIn_r _ [103, 104, 105, 106, 107, 108, 109, 110, 111, 112, 113, 114, 115, 116, 117, 118, 119, 120, 121, 122, 123, 124, 125, 126] (by decide +kernel) (by decide +kernel)
set_option maxRecDepth 20000 in
theorem ggL_isHeld_L_holds_r6 : GoodIn wsL_isHeld wsL_holds_r6 := goodIn_r _ [127, 128, 129, 130, 131, 132, 133, 134, 135, 136, 137, 138, 139, 140, 141, 142, 143, 144, 145, 146, 147, 148, 149, 150] (by decide +kernel) (by decide +kernel)
set_option maxRecDepth 20000 in
theorem ggL_isHeld_L_holds_r7 : GoodIn wsL_isHeld wsL_holds_r7 := goodIn_r _ [151, 152, 153, 154, 155, 156, 157, 158, 159, 160, 161, 162, 163, 164, 165, 166, 167, 168, 169, 170, 171, 172, 173, 174] (by decide +kernel) (by decide +kernel)
set_option maxRecDepth 20000 in
theorem ggL_isHeld_L_holds_r8 : GoodIn wsL_isHeld wsL_holds_r8 := goodIn_r _ [175, 176, 177, 178, 179, 180, 181, 182, 183, 184, 185, 186, 187, 188, 189, 190, 191, 192, 193, 194, 195, 196, 197, 198] (by decide +kernel) (by decide +kernel)
set_option maxRecDepth 20000 in
theorem ggL_isHeld_L_holds_r9 : GoodIn wsL_isHeld wsL_holds_r9 := goodIn_r _ [199, 200, 201, 202, 203, 204, 205, 206, 207, 208, 209, 210, 211, 212, 213, 214, 215, 216, 217, 218, 219, 220, 221, 222] (by decide +kernel) (by decide +kernel)
set_option maxRecDepth 20000 in
theorem ggL_isHeld_L_holds_r10 : GoodIn wsL_isHeld wsL_holds_r10 := goodIn_r _ [223, 224, 225, 226, 227, 228, 229, 230, 231, 232, 233, 234, 235, 236, 237, 238, 239, 240, 241, 242, 243, 244, 245, 246] (by decide +kernel) (by decide +kernel)
set_option maxRecDepth 20000 in
theorem ggL_isHeld_L_holds_r11 : GoodIn wsL_isHeld wsL_holds_r11 := goodIn_r _ [247, 248, 249, 250, 251, 252, 253, 254, 255, 256, 257, 258, 259, 260, 261, 262, 263, 264, 265, 266, 267, 268, 269, 270] (by decide +kernel) (by decide +kernel)
set_option maxRecDepth 20000 in
theorem ggL_isHeld_L_holds_r12 : GoodIn wsL_isHeld wsL_holds_r12 := goodIn_r _ [271, 272, 273, 274, 275, 276, 277, 278, 279, 280, 281, 282, 283, 284, 285, 286, 287, 288, 289, 290, 291, 292, 293, 294] (by decide +kernel) (by decide +kernel)
set_option maxRecDepth 20000 in
theorem ggL_isHeld_L_holds_r13 : GoodIn wsL_isHeld wsL_holds_r13 := goodIn_r _ [295, 296, 297, 298, 299, 300, 301, 302, 303, 304, 305, 306, 307, 308, 309, 310, 311, 312, 313, 314, 315, 316, 317, 318] (by decide +kernel) (by decide +kernel)
set_option maxRecDepth 20000 in
theorem ggL_isHeld_L_holds_r14 : GoodIn wsL_isHeld wsL_holds_r14 := goodIn_r _ [319, 320, 321, 322, 323, 324, 325, 326, 327, 328, 329, 330, 331, 332, 333, 334, 335, 336, 337, 338, 339, 340, 341, 342] (by decide +kernel) (by decide +kernel)
set_option maxRecDepth 20000 in
theorem ggL_isHeld_L_holds_r15 : GoodIn wsL_isHeld wsL_holds_r15 := goodIn_r _ [343, 344, 345, 346, 347, 348, 349, 350, 351, 352, 353, 354, 355, 356, 357, 358, 359, 360, 361, 362, 363, 364, 365, 366] (by decide +kernel) (by decide +kernel)
set_option maxRecDepth 20000 in
theorem ggL_isHeld_L_holds_r16 : GoodIn wsL_isHeld wsL_holds_r16 := goodIn_r _ [367, 368, 369, 370, 371, 372, 373, 374, 375, 376, 377, 378, 379, 380, 381, 382, 383, 384, 385, 386, 387, 388, 389, 390] (by decide +kernel) (by decide +kernel)
set_option maxRecDepth 20000 in
theorem ggL_isHeld_L_holds_r17 : GoodIn wsL_isHeld wsL_holds_r17 := goodIn_r _ [391, 392, 393, 394, 395, 396, 397, 398, 399, 400, 401, 402, 403, 404, 405, 406, 407, 408, 409, 410, 411, 412, 413, 414] (by decide +kernel) (by decide +kernel)
set_option maxRecDepth 20000 in
theorem ggL_isHeld_L_holds_r18 : GoodIn wsL_isHeld wsL_holds_r18 := goodIn_r _ [415, 416, 417, 418, 419, 420, 421, 422, 423, 424, 425, 426, 427, 428, 429, 430, 431, 432, 433, 434, 435, 436, 437, 438] (by decide +kernel) (by decide +kernel)
set_option maxRecDepth 20000 in
theorem ggL_isHeld_L_holds_r19 : GoodIn wsL_isHeld wsL_holds_r19 := goodIn_r _ [439, 440, 441, 442, 443, 444, 445, 446, 447, 448, 449, 450, 451, 452, 453, 454, 455, 456, 457, 458, 459, 460, 461, 462] (by decide +kernel) (by decide +kernel)
set_option maxRecDepth 20000 in
theorem ggL_isHeld_L_holds_r20 : GoodIn wsL_isHeld wsL_holds_r20 := goodIn_r _ [463, 464, 465, 466, 467, 468, 469, 470, 471, 472, 473, 474, 475, 476, 477, 478, 479, 480, 481, 482, 483, 484, 485, 486] (by decide +kernel) (by decide +kernel)
set_option maxRecDepth 20000 in
theorem ggL_isHeld_L_holds_r21 : GoodIn wsL_isHeld wsL_holds_r21 := goodIn_r _ [487, 488, 489, 490, 491, 492, 493, 494, 495, 496, 497, 498, 499, 500, 501, 502, 503, 504, 505, 506, 507, 508, 509, 510] (by decide +kernel) (by decide +kernel)
set_option maxRecDepth 20000 in
theorem ggL_isHeld_L_holds_r22 : GoodIn wsL_isHeld wsL_holds_r22 := goodIn_r _ [511, 512, 513, 514, 515, 516, 517, 518, 519, 520, 521, 522, 523, 524, 525, 526, 527, 528, 529, 530, 531, 532, 533, 534] (by decide +kernel) (by decide +kernel)
set_option maxRecDepth 20000 in
theorem ggL_isHeld_L_holds_r23 : GoodIn wsL_isHeld wsL_holds_r23 := goodIn_r _ [535, 536, 537, 538, 539, 540, 541, 542, 543, 544, 545, 546, 547, 548, 549, 550, 551, 552, 553, 554, 555, 556, 557, 558] (by decide +kernel) (by decide +kernel)
set_option maxRecDepth 20000 in
theorem ggL_isHeld_L_holds_r24 : GoodIn wsL_isHeld wsL_holds_r24 := goodIn_r _ [559, 560, 561, 562, 563, 564, 565, 566, 567, 568, 569, 570, 571, 572, 573, 574, 575, 576, 577, 578, 579, 580, 581, 582] (by decide +kernel) (by decide +kernel)
set_option maxRecDepth 20000 in
theorem ggL_isHeld_L_holds_r25 : GoodIn wsL_isHeld wsL_holds_r25 := goodIn_r _ [583, 584, 585, 586, 587, 588, 589, 590] (by decide +kernel) (by decide +kernel)
set_option maxRecDepth 20000 in
theorem ggL_isHeld_L_holds_wsX60 : GoodIn wsL_isHeld wsX60 := goodIn_r _ [591, 592, 593, 594, 595, 596] (by decide +kernel) (by decide +kernel)
set_option maxRecDepth 20000 in
theorem ggL_isHeld_L_holds_wsJx4a65c0 : GoodIn wsL_isHeld wsJx4a65c0 := goodIn_r _ [597, 598, 599] (by decide +kernel) (by decide +kernel)
set_option maxRecDepth 20000 in
theorem ggL_isHeld_L_holds_wsX00 : GoodIn wsL_isHeld wsX00 := goodIn_r _ [600] (by decide +kernel) (by decide +kernel)
set_option maxRecDepth 20000 in
theorem ggL_isHeld_L_holds_wsX30 : GoodIn wsL_isHeld wsX30 := goodIn_r _ [601, 602] (by decide +kernel) (by decide +kernel)
set_option maxRecDepth 20000 in
theorem ggL_isHeld_L_holds_wsX10 : GoodIn wsL_isHeld wsX10 := goodIn_r _ [603, 604, 605, 606, 607] (by decide +kernel) (by decide +kernel)
set_option maxRecDepth 20000 in
theorem ggL_isHeld_L_holds_wsX50 : GoodIn wsL_isHeld wsX50 := goodIn_r _ [608, 609, 610] (by decide +kernel) (by decide +kernel)
set_option maxRecDepth 20000 in
theorem ggL_isHeld_L_holds_wsX40 : GoodIn wsL_isHeld wsX40 := goodIn_r _ [611, 612, 613, 614, 615, 616, 617] (by decide +kernel) (by decide +kernel)
set_option maxRecDepth 20000 in
theorem ggL_isHeld_L_holds_wsX20 : GoodIn wsL_isHeld wsX20 := goodIn_r _ [618, 619] (by decide +kernel) (by decide +kernel)
set_option maxRecDepth 20000 in
theorem ggL_isHeld_L_holds : GoodIn wsL_isHeld wsL_holds := goodIn_ca (goodIn_ca (goodIn_ca (goodIn_c9 ggL_isHeld_L_holds_h (goodIn_app (goodIn_app (goodIn_app (goodIn_app (goodIn_app (goodIn_app (goodIn_app (goodIn_app (goodIn_app ggL_isHeld_L_holds_r1 (goodIn_app ggL_isHeld_L_holds_r2 (goodIn_app ggL_isHeld_L_holds_r3 (goodIn_app ggL_isHeld_L_holds_r4 (goodIn_app ggL_isHeld_L_holds_r5 (goodIn_app ggL_isHeld_L_holds_r6 (goodIn_app ggL_isHeld_L_holds_r7 (goodIn_app ggL_isHeld_L_holds_r8 (goodIn_app ggL_isHeld_L_holds_r9 (goodIn_app ggL_isHeld_L_holds_r10 (goodIn_app ggL_isHeld_L_holds_r11 (goodIn_app ggL_isHeld_L_holds_r12 (goodIn_app ggL_isHeld_L_holds_r13 (goodIn_app ggL_isHeld_L_holds_r14 (goodIn_app ggL_isHeld_L_holds_r15 (goodIn_app ggL_isHeld_L_holds_r16 (goodIn_app ggL_isHeld_L_holds_r17 (goodIn_app ggL_isHeld_L_holds_r18 (goodIn_app ggL_isHeld_L_holds_r19 (goodIn_app ggL_isHeld_L_holds_r20 (goodIn_app ggL_isHeld_L_holds_r21 (goodIn_app ggL_isHeld_L_holds_r22 (goodIn_app ggL_isHeld_L_holds_r23 (goodIn_app ggL_isHeld_L_holds_r24 ggL_isHeld_L_holds_r25)))))))))))))))))))))))) ggL_isHeld_L_holds_wsX60) ggL_isHeld_L_holds_wsJx4a65c0) ggL_isHeld_L_holds_wsX00) ggL_isHeld_L_holds_wsX30) ggL_isHeld_L_holds_wsX10) ggL_isHeld_L_holds_wsX50) ggL_isHeld_L_holds_wsX40) ggL_isHeld_L_holds_wsX20)) (goodIn_sub (fun _ h => List.mem_cons_of_mem _ (List.mem_append_left _ (List.mem_append_left _ (List.mem_append_right _ h)))) (by decide +kernel))) (goodIn_sub (fun _ h => List.mem_cons_of_mem _ (List.mem_append_left _ (List.mem_append_right _ h))) (by decide +kernel))) (goodIn_sub (fun _ h => List.mem_cons_of_mem _ (List.mem_append_right _ h)) (by decide +kernel))
set_option maxRecDepth 20000 in
theorem gL_isHeld_L_holds : GoodIn wsL_isHeld (va_wsS RL 154 yL_holds wsL_holds) := goodIn_app (goodIn_of _ (by decide +kernel)) ggL_isHeld_L_holds
set_option maxRecDepth 20000 in
theorem ggL_law_L_isHeld_h : GoodIn wsL_law [Cond.codeWith yL_isHeld cL_isHeld 2 (some .boolean) [(0, 4, 5, 158), (0, 4, 8, 160), (0, 4, 11, 162)]] := goodIn_r _ [3] (by decide +kernel) (by decide +kernel)
set_option maxRecDepth 20000 in
theorem ggL_law_L_isHeld_r1 : GoodIn wsL_law wsL_isHeld_r1 := goodIn_r _ [4, 5, 6, 7, 8, 2, 9, 10, 11, 12, 13, 14, 15, 16, 17, 18, 19, 20, 21, 22, 23, 24, 25, 26] (by decide +kernel) (by decide +kernel)
set_option maxRecDepth 20000 in
theorem ggL_law_L_isHeld_r2 : GoodIn wsL_law wsL_isHeld_r2 := goodIn_r _ [27, 28, 29, 30, 31, 32, 33, 34, 35, 36, 37, 38, 39, 40, 41, 42, 43, 44, 45, 46, 47, 48, 49, 50] (by decide +kernel) (by decide +kernel)
set_option maxRecDepth 20000 in
theorem ggL_law_L_isHeld_r3 : GoodIn wsL_law wsL_isHeld_r3 := goodIn_r _ [51, 52, 53, 54, 55, 56, 57, 58, 59, 60, 61, 62, 63, 64, 65, 66, 67, 68, 69, 70, 71, 72, 73, 74] (by decide +kernel) (by decide +kernel)
set_option maxRecDepth 20000 in
theorem ggL_law_L_isHeld_r4 : GoodIn wsL_law wsL_isHeld_r4 := goodIn_r _ [75, 76, 77, 78, 79, 80, 81, 82, 83, 84, 85, 86, 87, 88, 89, 90, 91, 92, 93, 94, 95, 96, 97, 98] (by decide +kernel) (by decide +kernel)
set_option maxRecDepth 20000 in
theorem ggL_law_L_isHeld_r5 : GoodIn wsL_law wsL_isHeld_r5 := goodIn_r _ [99, 100, 101, 102, 103, 104, 105, 106, 107, 108, 109, 110, 111, 112, 113, 114, 115, 116, 117, 118, 119, 120, 121, 122] (by decide +kernel) (by decide +kernel)
set_option maxRecDepth 20000 in
theorem ggL_law_L_isHeld_r6 : GoodIn wsL_law wsL_isHeld_r6 := goodIn_r _ [123, 124, 125, 126, 127, 128, 129, 130, 131, 132, 133, 134, 135, 136, 137, 138, 139, 140, 141, 142, 143, 144, 145, 146] (by decide +kernel) (by decide +kernel)
set_option maxRecDepth 20000 in
theorem ggL_law_L_isHeld_r7 : GoodIn wsL_law wsL_isHeld_r7 := goodIn_r _ [147, 148, 149, 150, 151, 152, 153, 154, 155, 156, 157, 158, 159, 160, 161, 162, 163, 164, 165, 166, 167, 168, 169, 170] (by decide +kernel) (by decide +kernel)
set_option maxRecDepth 20000 in
theorem ggL_law_L_isHeld_r8 : GoodIn wsL_law wsL_isHeld_r8 := goodIn_r _ [171, 172, 173, 174, 175, 176, 177, 178, 179, 180, 181, 182, 183, 184, 185, 186, 187, 188, 189, 190, 191, 192, 193, 194] (by decide +kernel) (by decide +kernel)
set_option maxRecDepth 20000 in
theorem ggL_law_L_isHeld_r9 : GoodIn wsL_law wsL_isHeld_r9 := goodIn_r _ [195, 196, 197, 198, 199, 200, 201, 202, 203, 204, 205, 206, 207, 208, 209, 210, 211, 212, 213, 214, 215, 216, 217, 218] (by decide +kernel) (by decide +kernel)
set_option maxRecDepth 20000 in
theorem ggL_law_L_isHeld_r10 : GoodIn wsL_law wsL_isHeld_r10 := goodIn_r _ [219, 220, 221, 222, 223, 224, 225, 226, 227, 228, 229, 230, 231, 232, 233, 234, 235, 236, 237, 238, 239, 240, 241, 242] (by decide +kernel) (by decide +kernel)
set_option maxRecDepth 20000 in
theorem ggL_law_L_isHeld_r11 : GoodIn wsL_law wsL_isHeld_r11 := goodIn_r _ [243, 244, 245, 246, 247, 248, 249, 250, 251, 252, 253, 254, 255, 256, 257, 258, 259, 260, 261, 262, 263, 264, 265, 266] (by decide +kernel) (by decide +kernel)
set_option maxRecDepth 20000 in
theorem ggL_law_L_isHeld_r12 : GoodIn wsL_law wsL_isHeld_r12 := goodIn_r _ [267, 268, 269, 270, 271, 272, 273, 274, 275, 276, 277, 278, 279, 280, 281, 282, 283, 284, 285, 286, 287, 288, 289, 290] (by decide +kernel) (by decide +kernel)
set_option maxRecDepth 20000 in
theorem ggL_law_L_isHeld_r13 : GoodIn wsL_law wsL_isHeld_r13 := goodIn_r _ [291, 292, 293, 294, 295, 296, 297, 298, 299, 300, 301, 302, 303, 304, 305, 306, 307, 308, 309, 310, 311, 312, 313, 314] (by decide +kernel) (by decide +kernel)
set_option maxRecDepth 20000 in
theorem ggL_law_L_isHeld_r14 : GoodIn wsL_law wsL_isHeld_r14 := goodIn_r _ [315, 316, 317, 318, 319, 320, 321, 322, 323, 324, 325, 326, 327, 328, 329, 330, 331, 332, 333, 334, 335, 336, 337, 338] (by decide +kernel) (by decide +kernel)
set_option maxRecDepth 20000 in
theorem ggL_law_L_isHeld_r15 : GoodIn wsL_law wsL_isHeld_r15 := goodIn_r _ [339, 340, 341, 342, 343, 344, 345, 346, 347, 348, 349, 350, 351, 352, 353, 354, 355, 356, 357, 358, 359, 360, 361, 362] (by decide +kernel) (by decide +kernel)
set_option maxRecDepth 20000 in
theorem ggL_law_L_isHeld_r16 : GoodIn wsL_law wsL_isHeld_r16 := goodIn_r _ [363, 364, 365, 366, 367, 368, 369, 370, 371, 372, 373, 374, 375, 376, 377, 378, 379, 380, 381, 382, 383, 384, 385, 386] (by decide +kernel) (by decide +kernel)
set_option maxRecDepth 20000 in
theorem ggL_law_L_isHeld_r17 : GoodIn wsL_law wsL_isHeld_r17 := goodIn_r _ [387, 388, 389, 390, 391, 392, 393, 394, 395, 396, 397, 398, 399, 400, 401, 402, 403, 404, 405, 406, 407, 408, 409, 410] (by decide +kernel) (by decide +kernel)
set_option maxRecDepth 20000 in
theorem ggL_law_L_isHeld_r18 : GoodIn wsL_law wsL_isHeld_r18 := goodIn_r _ [411, 412, 413, 414, 415, 416, 417, 418, 419, 420, 421, 422, 423, 424, 425, 426, 427, 428, 429, 430, 431, 432, 433, 434] (by decide +kernel) (by decide +kernel)
set_option maxRecDepth 20000 in
theorem ggL_law_L_isHeld_r19 : GoodIn wsL_law wsL_isHeld_r19 := goodIn_r _ [435, 436, 437, 438, 439, 440, 441, 442, 443, 444, 445, 446, 447, 448, 449, 450, 451, 452, 453, 454, 455, 456, 457, 458] (by decide +kernel) (by decide +kernel)
set_option maxRecDepth 20000 in
theorem ggL_law_L_isHeld_r20 : GoodIn wsL_law wsL_isHeld_r20 := goodIn_r _ [459, 460, 461, 462, 463, 464, 465, 466, 467, 468, 469, 470, 471, 472, 473, 474, 475, 476, 477, 478, 479, 480, 481, 482] (by decide +kernel) (by decide +kernel)
set_option maxRecDepth 20000 in
theorem ggL_law_L_isHeld_r21 : GoodIn wsL_law wsL_isHeld_r21 := goodIn_r _ [483, 484, 485, 486, 487, 488, 489, 490, 491, 492, 493, 494, 495, 496, 497, 498, 499, 500, 501, 502, 503, 504, 505, 506] (by decide +kernel) (by decide +kernel)
set_option maxRecDepth 20000 in
theorem ggL_law_L_isHeld_r22 : GoodIn wsL_law wsL_isHeld_r22 := goodIn_r _ [507, 508, 509, 510, 511, 512, 513, 514, 515, 516, 517, 518, 519, 520, 521, 522, 523, 524, 525, 526, 527, 528, 529, 530] (by decide +kernel) (by decide +kernel)
set_option maxRecDepth 20000 in
theorem ggL_law_L_isHeld_r23 : GoodIn wsL_law wsL_isHeld_r23 := goodIn_r _ [531, 532, 533, 534, 535, 536, 537, 538, 539, 540, 541, 542, 543, 544, 545, 546, 547, 548, 549, 550, 551, 552, 553, 554] (by decide +kernel) (by decide +kernel)
set_option maxRecDepth 20000 in
theorem ggL_law_L_isHeld_r24 : GoodIn wsL_law wsL_isHeld_r24 := goodIn_r _ [555, 556, 557, 558, 559, 560, 561, 562, 563, 564, 565, 566, 567, 568, 569, 570, 571, 572, 573, 574, 575, 576, 577, 578] (by decide +kernel) (by decide +kernel)
set_option maxRecDepth 20000 in
theorem ggL_law_L_isHeld_r25 : GoodIn wsL_law wsL_isHeld_r25 := goodIn_r _ [579, 580, 581, 582, 583, 584, 585, 586, 587, 588, 589, 590, 591, 592] (by decide +kernel) (by decide +kernel)
set_option maxRecDepth 20000 in
theorem ggL_law_L_isHeld_wsX60 : GoodIn wsL_law wsX60 := goodIn_r _ [593, 594, 595, 596, 597, 598] (by decide +kernel) (by decide +kernel)
set_option maxRecDepth 20000 in
theorem ggL_law_L_isHeld_wsJx4a65c0 : GoodIn wsL_law wsJx4a65c0 := goodIn_r _ [599, 600, 601] (by decide +kernel) (by decide +kernel)
set_option maxRecDepth 20000 in
theorem ggL_law_L_isHeld_wsX00 : GoodIn wsL_law wsX00 := goodIn_r _ [602] (by decide +kernel) (by decide +kernel)
set_option maxRecDepth 20000 in
theorem ggL_law_L_isHeld_wsX30 : GoodIn wsL_law wsX30 := goodIn_r _ [603, 604] (by decide +kernel) (by decide +kernel)
set_option maxRecDepth 20000 in
theorem ggL_law_L_isHeld_wsX10 : GoodIn wsL_law wsX10 := goodIn_r _ [605, 606, 607, 608, 609] (by decide +kernel) (by decide +kernel)
set_option maxRecDepth 20000 in
theorem ggL_law_L_isHeld_wsX50 : GoodIn wsL_law wsX50 := goodIn_r _ [610, 611, 612] (by decide +kernel) (by decide +kernel)
set_option maxRecDepth 20000 in
theorem ggL_law_L_isHeld_wsX40 : GoodIn wsL_law wsX40 := goodIn_r _ [613, 614, 615, 616, 617, 618, 619] (by decide +kernel) (by decide +kernel)
set_option maxRecDepth 20000 in
theorem ggL_law_L_isHeld_wsX20 : GoodIn wsL_law wsX20 := goodIn_r _ [620, 621] (by decide +kernel) (by decide +kernel)
set_option maxRecDepth 20000 in
theorem ggL_law_L_isHeld : GoodIn wsL_law wsL_isHeld := goodIn_ca (goodIn_ca (goodIn_ca (goodIn_c9 ggL_law_L_isHeld_h (goodIn_app (goodIn_app (goodIn_app (goodIn_app (goodIn_app (goodIn_app (goodIn_app (goodIn_app (goodIn_app ggL_law_L_isHeld_r1 (goodIn_app ggL_law_L_isHeld_r2 (goodIn_app ggL_law_L_isHeld_r3 (goodIn_app ggL_law_L_isHeld_r4 (goodIn_app ggL_law_L_isHeld_r5 (goodIn_app ggL_law_L_isHeld_r6 (goodIn_app ggL_law_L_isHeld_r7 (goodIn_app ggL_law_L_isHeld_r8 (goodIn_app ggL_law_L_isHeld_r9 (goodIn_app ggL_law_L_isHeld_r10 (goodIn_app ggL_law_L_isHeld_r11 (goodIn_app ggL_law_L_isHeld_r12 (goodIn_app ggL_law_L_isHeld_r13 (goodIn_app ggL_law_L_isHeld_r14 (goodIn_app ggL_law_L_isHeld_r15 (goodIn_app ggL_law_L_isHeld_r16 (goodIn_app ggL_law_L_isHeld_r17 (goodIn_app ggL_law_L_isHeld_r18 (goodIn_app ggL_law_L_isHeld_r19 (goodIn_app ggL_law_L_isHeld_r20 (goodIn_app ggL_law_L_isHeld_r21 (goodIn_app ggL_law_L_isHeld_r22 (goodIn_app ggL_law_L_isHeld_r23 (goodIn_app ggL_law_L_isHeld_r24 ggL_law_L_isHeld_r25)))))))))))))))))))))))) ggL_law_L_isHeld_wsX60) ggL_law_L_isHeld_wsJx4a65c0) ggL_law_L_isHeld_wsX00) ggL_law_L_isHeld_wsX30) ggL_law_L_isHeld_wsX10) ggL_law_L_isHeld_wsX50) ggL_law_L_isHeld_wsX40) ggL_law_L_isHeld_wsX20)) (goodIn_sub (fun _ h => List.mem_append_left _ (List.mem_append_left _ (List.mem_append_right _ h))) (by decide +kernel))) (goodIn_sub (fun _ h => List.mem_append_left _ (List.mem_append_right _ h)) (by decide +kernel))) (goodIn_sub (fun _ h => List.mem_append_right _ h) (by decide +kernel))
set_option maxRecDepth 20000 in
theorem gL_law_L_isHeld : GoodIn wsL_law (va_wsS RL 164 yL_isHeld wsL_isHeld) := goodIn_app (goodIn_of _ (by decide +kernel)) ggL_law_L_isHeld
