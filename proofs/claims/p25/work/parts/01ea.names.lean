set_option maxRecDepth 20000 in
theorem gb_L_law_L_acts_c : GoodIn wsL_law [Cond.code yL_acts cL_acts 16 (some .boolean)] := goodIn_sub (fun w hw => by rw [List.mem_singleton.mp hw]; exact List.mem_of_getElem? (i := 365) rfl) (by decide +kernel)
set_option maxRecDepth 20000 in
theorem gb_L_law_L_acts_wsL_acts_r1 : GoodIn wsL_law wsL_acts_r1 := goodIn_r _ [257, 258, 259, 2, 260, 12, 90, 14, 18, 261, 262, 263, 264, 11, 265, 38, 266, 267, 268, 269, 36, 270, 219, 220] (by decide +kernel) (by decide +kernel)
set_option maxRecDepth 20000 in
theorem gb_L_law_L_acts_wsL_acts_r2 : GoodIn wsL_law wsL_acts_r2 := goodIn_r _ [221, 222, 111, 112, 113, 223, 224, 225, 226, 227, 228, 229, 230, 40, 271, 272, 273, 274, 275, 276, 277, 278, 279, 280] (by decide +kernel) (by decide +kernel)
set_option maxRecDepth 20000 in
theorem gb_L_law_L_acts_wsL_acts_r3 : GoodIn wsL_law wsL_acts_r3 := goodIn_r _ [281, 282, 283, 284, 285, 286, 320, 321, 318, 322, 323, 336, 337, 338, 339, 340, 341, 342, 343, 344, 345, 346, 239, 240] (by decide +kernel) (by decide +kernel)
set_option maxRecDepth 20000 in
theorem gb_L_law_L_acts_wsL_acts_r4 : GoodIn wsL_law wsL_acts_r4 := goodIn_r _ [241, 242, 13, 31, 243, 244, 245, 246, 187, 188, 189, 190, 191, 192, 193, 194, 195, 196, 197, 198, 199, 200, 201, 202] (by decide +kernel) (by decide +kernel)
set_option maxRecDepth 20000 in
theorem gb_L_law_L_acts_wsL_acts_r5 : GoodIn wsL_law wsL_acts_r5 := goodIn_r _ [347, 333, 334, 335, 348, 366, 367, 368, 369, 370, 166, 167, 168, 169, 170, 171, 172, 173, 174, 175, 371, 372, 373, 374] (by decide +kernel) (by decide +kernel)
set_option maxRecDepth 20000 in
theorem gb_L_law_L_acts_wsL_acts_r6 : GoodIn wsL_law wsL_acts_r6 := goodIn_r _ [358, 359, 360, 361, 362, 375, 376, 377, 378, 379, 380, 381, 382, 383, 384, 385, 386, 387, 388, 389, 390, 353, 354, 355] (by decide +kernel) (by decide +kernel)
set_option maxRecDepth 20000 in
theorem gb_L_law_L_acts_wsL_acts_r7 : GoodIn wsL_law wsL_acts_r7 := goodIn_r _ [356, 357, 292, 293, 294, 295, 22, 296, 297, 298, 299, 300, 301, 302, 21, 303, 304, 52, 305, 306, 307, 308, 309, 310] (by decide +kernel) (by decide +kernel)
set_option maxRecDepth 20000 in
theorem gb_L_law_L_acts_wsL_acts_r8 : GoodIn wsL_law wsL_acts_r8 := goodIn_r _ [311, 312, 313, 314, 315, 391, 392, 393, 394, 395, 396, 397, 398, 399, 400, 401, 402, 403, 404, 405, 406, 407, 408, 409] (by decide +kernel) (by decide +kernel)
set_option maxRecDepth 20000 in
theorem gb_L_law_L_acts_wsL_acts_r9 : GoodIn wsL_law wsL_acts_r9 := goodIn_r _ [410, 411, 412, 413, 414, 415, 416, 417, 418, 419, 420, 421, 422, 423, 424, 425, 426, 427, 428, 429, 287, 288, 289, 290] (by decide +kernel) (by decide +kernel)
set_option maxRecDepth 20000 in
theorem gb_L_law_L_acts_wsL_acts_r10 : GoodIn wsL_law wsL_acts_r10 := goodIn_r _ [26, 207, 291, 208, 209, 210, 25, 211, 212, 59, 213, 214, 215, 216, 217, 60, 218, 231, 123, 124, 58, 125, 126, 127] (by decide +kernel) (by decide +kernel)
set_option maxRecDepth 20000 in
theorem gb_L_law_L_acts_wsL_acts_r11 : GoodIn wsL_law wsL_acts_r11 := goodIn_r _ [128, 65, 66, 129, 130, 131, 132, 64, 133, 134, 135, 136, 232, 233, 234, 235, 236, 237, 238, 147, 148, 149, 203, 204] (by decide +kernel) (by decide +kernel)
set_option maxRecDepth 20000 in
theorem gb_L_law_L_acts_wsL_acts_r12 : GoodIn wsL_law wsL_acts_r12 := goodIn_r _ [205, 206, 247, 248, 249, 250, 251, 252, 253, 254, 255, 256, 324, 325, 326, 327, 328, 329, 330, 331, 332, 430, 431, 432] (by decide +kernel) (by decide +kernel)
set_option maxRecDepth 20000 in
theorem gb_L_law_L_acts_wsL_acts_r13 : GoodIn wsL_law wsL_acts_r13 := goodIn_r _ [433, 86, 87, 88, 89, 30, 91, 92, 93, 94, 95, 96, 97, 98, 99, 100, 101, 29, 102, 77, 103, 104, 105, 106] (by decide +kernel) (by decide +kernel)
set_option maxRecDepth 20000 in
theorem gb_L_law_L_acts_wsL_acts_r14 : GoodIn wsL_law wsL_acts_r14 := goodIn_r _ [107, 108, 70, 71, 74, 83, 109, 81, 110, 80, 114, 115, 116, 117, 85, 84, 118, 119, 120, 121, 79, 122, 137, 138] (by decide +kernel) (by decide +kernel)
set_option maxRecDepth 20000 in
theorem gb_L_law_L_acts_wsL_acts_r15 : GoodIn wsL_law wsL_acts_r15 := goodIn_r _ [139, 140, 141, 142, 143, 144, 145, 72, 73, 146, 150, 151, 152, 153, 154, 155, 156, 157, 158, 159, 160, 161, 75, 76] (by decide +kernel) (by decide +kernel)
set_option maxRecDepth 20000 in
theorem gb_L_law_L_acts_wsL_acts_r16 : GoodIn wsL_law wsL_acts_r16 := goodIn_r _ [162, 163, 164, 165] (by decide +kernel) (by decide +kernel)
set_option maxRecDepth 20000 in
theorem gb_L_law_L_acts_wsX60 : GoodIn wsL_law wsX60 := goodIn_r _ [465, 466, 467, 468, 469, 470, 471, 472] (by decide +kernel) (by decide +kernel)
set_option maxRecDepth 20000 in
theorem gb_L_law_L_acts_wsX00 : GoodIn wsL_law wsX00 := goodIn_r _ [473, 474, 475] (by decide +kernel) (by decide +kernel)
set_option maxRecDepth 20000 in
theorem gb_L_law_L_acts_wsX50 : GoodIn wsL_law wsX50 := goodIn_r _ [476, 477, 478, 479, 480] (by decide +kernel) (by decide +kernel)
set_option maxRecDepth 20000 in
theorem gb_L_law_L_acts_wsX20 : GoodIn wsL_law wsX20 := goodIn_r _ [481] (by decide +kernel) (by decide +kernel)
set_option maxRecDepth 20000 in
theorem gb_L_law_L_acts_wsX30 : GoodIn wsL_law wsX30 := goodIn_r _ [482, 483] (by decide +kernel) (by decide +kernel)
set_option maxRecDepth 20000 in
theorem gb_L_law_L_acts_wsX40 : GoodIn wsL_law wsX40 := goodIn_r _ [498, 499, 500] (by decide +kernel) (by decide +kernel)
set_option maxRecDepth 20000 in
theorem gb_L_law_L_acts_wsX10 : GoodIn wsL_law wsX10 := goodIn_r _ [484, 485, 486, 487, 488, 489, 490, 491, 492, 493, 494, 495, 496, 497] (by decide +kernel) (by decide +kernel)
theorem ggL_law_L_acts : GoodIn wsL_law wsL_acts := goodIn_app (a := [Cond.code yL_acts cL_acts 16 (some .boolean)]) gb_L_law_L_acts_c (goodIn_app (goodIn_app (goodIn_app (goodIn_app (goodIn_app (goodIn_app (goodIn_app (goodIn_app gb_L_law_L_acts_wsL_acts_r1 (goodIn_app gb_L_law_L_acts_wsL_acts_r2 (goodIn_app gb_L_law_L_acts_wsL_acts_r3 (goodIn_app gb_L_law_L_acts_wsL_acts_r4 (goodIn_app gb_L_law_L_acts_wsL_acts_r5 (goodIn_app gb_L_law_L_acts_wsL_acts_r6 (goodIn_app gb_L_law_L_acts_wsL_acts_r7 (goodIn_app gb_L_law_L_acts_wsL_acts_r8 (goodIn_app gb_L_law_L_acts_wsL_acts_r9 (goodIn_app gb_L_law_L_acts_wsL_acts_r10 (goodIn_app gb_L_law_L_acts_wsL_acts_r11 (goodIn_app gb_L_law_L_acts_wsL_acts_r12 (goodIn_app gb_L_law_L_acts_wsL_acts_r13 (goodIn_app gb_L_law_L_acts_wsL_acts_r14 (goodIn_app gb_L_law_L_acts_wsL_acts_r15 gb_L_law_L_acts_wsL_acts_r16))))))))))))))) gb_L_law_L_acts_wsX60) gb_L_law_L_acts_wsX00) gb_L_law_L_acts_wsX50) gb_L_law_L_acts_wsX20) gb_L_law_L_acts_wsX30) gb_L_law_L_acts_wsX40) gb_L_law_L_acts_wsX10)
set_option maxRecDepth 20000 in
theorem gL_law_L_acts : GoodIn wsL_law (va_wsS RL 95 yL_acts wsL_acts) := goodIn_app (goodIn_of _ (by decide +kernel)) ggL_law_L_acts
