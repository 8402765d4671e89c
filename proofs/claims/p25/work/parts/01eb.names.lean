set_option maxRecDepth 20000 in
theorem gb_L_law_L_rules_c : GoodIn wsL_law [Cond.code yL_rules cL_rules 15 (some .boolean)] := goodIn_sub (fun w hw => by rw [List.mem_singleton.mp hw]; exact List.mem_of_getElem? (i := 436) rfl) (by decide +kernel)
set_option maxRecDepth 20000 in
theorem gb_L_law_L_rules_wsL_rules_r1 : GoodIn wsL_law wsL_rules_r1 := goodIn_r _ [257, 258, 259, 2, 260, 12, 90, 14, 18, 261, 262, 263, 264, 11, 265, 38, 266, 267, 268, 269, 36, 270, 219, 220] (by decide +kernel) (by decide +kernel)
set_option maxRecDepth 20000 in
theorem gb_L_law_L_rules_wsL_rules_r2 : GoodIn wsL_law wsL_rules_r2 := goodIn_r _ [221, 222, 111, 112, 113, 223, 224, 225, 226, 227, 228, 229, 230, 40, 271, 272, 273, 274, 275, 276, 277, 278, 279, 280] (by decide +kernel) (by decide +kernel)
set_option maxRecDepth 20000 in
theorem gb_L_law_L_rules_wsL_rules_r3 : GoodIn wsL_law wsL_rules_r3 := goodIn_r _ [281, 282, 283, 284, 285, 286, 358, 359, 360, 361, 362, 340, 341, 342, 343, 353, 354, 355, 356, 357, 437, 438, 318, 439] (by decide +kernel) (by decide +kernel)
set_option maxRecDepth 20000 in
theorem gb_L_law_L_rules_wsL_rules_r4 : GoodIn wsL_law wsL_rules_r4 := goodIn_r _ [366, 367, 368, 369, 348, 370, 166, 167, 168, 169, 170, 171, 172, 173, 174, 175, 371, 372, 373, 374, 425, 426, 427, 428] (by decide +kernel) (by decide +kernel)
set_option maxRecDepth 20000 in
theorem gb_L_law_L_rules_wsL_rules_r5 : GoodIn wsL_law wsL_rules_r5 := goodIn_r _ [401, 402, 403, 404, 429, 440, 441, 442, 287, 288, 289, 290, 26, 207, 291, 208, 209, 210, 25, 211, 212, 59, 213, 214] (by decide +kernel) (by decide +kernel)
set_option maxRecDepth 20000 in
theorem gb_L_law_L_rules_wsL_rules_r6 : GoodIn wsL_law wsL_rules_r6 := goodIn_r _ [215, 216, 217, 60, 218, 231, 123, 124, 58, 125, 126, 127, 128, 65, 66, 129, 130, 131, 132, 64, 133, 134, 135, 136] (by decide +kernel) (by decide +kernel)
set_option maxRecDepth 20000 in
theorem gb_L_law_L_rules_wsL_rules_r7 : GoodIn wsL_law wsL_rules_r7 := goodIn_r _ [232, 233, 234, 235, 236, 237, 238, 147, 148, 149] (by decide +kernel) (by decide +kernel)
set_option maxRecDepth 20000 in
theorem gb_L_law_L_rules_wsX60 : GoodIn wsL_law wsX60 := goodIn_r _ [465, 466, 467, 468, 469, 470, 471, 472] (by decide +kernel) (by decide +kernel)
set_option maxRecDepth 20000 in
theorem gb_L_law_L_rules_wsX00 : GoodIn wsL_law wsX00 := goodIn_r _ [473, 474, 475] (by decide +kernel) (by decide +kernel)
set_option maxRecDepth 20000 in
theorem gb_L_law_L_rules_wsX50 : GoodIn wsL_law wsX50 := goodIn_r _ [476, 477, 478, 479, 480] (by decide +kernel) (by decide +kernel)
set_option maxRecDepth 20000 in
theorem gb_L_law_L_rules_wsX30 : GoodIn wsL_law wsX30 := goodIn_r _ [482, 483] (by decide +kernel) (by decide +kernel)
set_option maxRecDepth 20000 in
theorem gb_L_law_L_rules_wsX40 : GoodIn wsL_law wsX40 := goodIn_r _ [498, 499, 500] (by decide +kernel) (by decide +kernel)
theorem ggL_law_L_rules : GoodIn wsL_law wsL_rules := goodIn_app (a := [Cond.code yL_rules cL_rules 15 (some .boolean)]) gb_L_law_L_rules_c (goodIn_app (goodIn_app (goodIn_app (goodIn_app (goodIn_app (goodIn_app gb_L_law_L_rules_wsL_rules_r1 (goodIn_app gb_L_law_L_rules_wsL_rules_r2 (goodIn_app gb_L_law_L_rules_wsL_rules_r3 (goodIn_app gb_L_law_L_rules_wsL_rules_r4 (goodIn_app gb_L_law_L_rules_wsL_rules_r5 (goodIn_app gb_L_law_L_rules_wsL_rules_r6 gb_L_law_L_rules_wsL_rules_r7)))))) gb_L_law_L_rules_wsX60) gb_L_law_L_rules_wsX00) gb_L_law_L_rules_wsX50) gb_L_law_L_rules_wsX30) gb_L_law_L_rules_wsX40)
set_option maxRecDepth 20000 in
theorem gL_law_L_rules : GoodIn wsL_law (va_wsS RL 99 yL_rules wsL_rules) := goodIn_app (goodIn_of _ (by decide +kernel)) ggL_law_L_rules
