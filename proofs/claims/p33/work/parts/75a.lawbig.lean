theorem g_cons {big l : List Cond} {c : Cond} (h1 : GoodIn big [c]) (h2 : GoodIn big l) : GoodIn big (c :: l) := fun w h => (List.mem_cons.mp h).elim (fun e => h1 w (by rw [e]; exact List.mem_cons_self)) (h2 w)
set_option maxRecDepth 20000 in
theorem qq_refused_c : GoodIn wsL_law [.code yL_refused cL_refused 2 (some .boolean)] := goodIn_r _ [99] (by decide +kernel) (by decide +kernel)
set_option maxRecDepth 20000 in
theorem qq_refused_r1 : GoodIn wsL_law wsL_refused_r1 := goodIn_r _ [3, 100, 101, 102, 2, 103, 13, 21, 17, 104, 20, 105, 106, 107, 61, 108, 109, 110, 111, 112, 12, 113, 114, 115] (by decide +kernel) (by decide +kernel)
set_option maxRecDepth 20000 in
theorem qq_refused_r2 : GoodIn wsL_law wsL_refused_r2 := goodIn_r _ [49, 116, 117, 118, 119, 120, 121, 122, 123, 124, 125, 126, 127, 128, 129, 130, 131, 132, 133, 134, 135, 136, 137, 138] (by decide +kernel) (by decide +kernel)
set_option maxRecDepth 20000 in
theorem qq_refused_r3 : GoodIn wsL_law wsL_refused_r3 := goodIn_r _ [139, 16, 140, 141, 142, 143, 144, 145, 146, 147, 148, 149, 150, 151, 152, 153, 154, 155, 156, 157, 158, 159, 160, 161] (by decide +kernel) (by decide +kernel)
set_option maxRecDepth 20000 in
theorem qq_refused_r4 : GoodIn wsL_law wsL_refused_r4 := goodIn_r _ [162, 163, 164, 165, 166, 62, 63, 64, 65, 167, 168, 169, 170, 171, 172, 173, 174, 175, 176, 177, 178, 179, 180, 181] (by decide +kernel) (by decide +kernel)
set_option maxRecDepth 20000 in
theorem qq_refused_r5 : GoodIn wsL_law wsL_refused_r5 := goodIn_r _ [182, 183, 184, 185, 186, 187, 188, 189, 190, 29, 191, 28, 192, 193, 194, 195, 196, 197, 198, 199, 200, 201, 202, 203] (by decide +kernel) (by decide +kernel)
set_option maxRecDepth 20000 in
theorem qq_refused_r6 : GoodIn wsL_law wsL_refused_r6 := goodIn_r _ [204, 205, 206, 207, 208, 209, 210, 211, 212, 213, 214, 215, 216, 217, 218, 219, 220, 221, 71, 222, 223, 224, 225, 226] (by decide +kernel) (by decide +kernel)
set_option maxRecDepth 20000 in
theorem qq_refused_r7 : GoodIn wsL_law wsL_refused_r7 := goodIn_r _ [227, 228, 229, 230, 231, 232, 233, 234, 235, 236, 237, 238, 239, 240, 241, 242, 25, 243, 244, 245, 246, 247, 248, 249] (by decide +kernel) (by decide +kernel)
set_option maxRecDepth 20000 in
theorem qq_refused_r8 : GoodIn wsL_law wsL_refused_r8 := goodIn_r _ [250, 251, 252, 253, 56, 57, 254, 255, 256, 257, 37, 258, 36, 259, 260, 80, 261, 262, 263, 264, 265, 266, 267, 268] (by decide +kernel) (by decide +kernel)
set_option maxRecDepth 20000 in
theorem qq_refused_r9 : GoodIn wsL_law wsL_refused_r9 := goodIn_r _ [269, 270, 82, 271, 272, 273, 274, 83, 84, 275, 276, 277, 278, 279, 280, 281, 282, 283, 284, 285, 286, 287, 288, 289] (by decide +kernel) (by decide +kernel)
set_option maxRecDepth 20000 in
theorem qq_refused_r10 : GoodIn wsL_law wsL_refused_r10 := goodIn_r _ [290, 291, 292, 293, 294, 295, 296, 297, 66, 67, 298, 299, 300, 301, 45, 302, 44, 303, 304, 305, 306, 307, 308, 309] (by decide +kernel) (by decide +kernel)
set_option maxRecDepth 20000 in
theorem qq_refused_r11 : GoodIn wsL_law wsL_refused_r11 := goodIn_r _ [310, 311, 312, 313, 314, 315, 316, 317, 318, 319, 320, 321, 322, 323, 324, 95, 325, 326, 327, 328, 94, 329, 330, 331] (by decide +kernel) (by decide +kernel)
set_option maxRecDepth 20000 in
theorem qq_refused_r12 : GoodIn wsL_law wsL_refused_r12 := goodIn_r _ [332, 333, 334, 335, 336, 337, 338, 339, 340, 341, 342, 343, 41, 344, 40, 345, 346, 347, 348, 349, 88, 350, 351, 352] (by decide +kernel) (by decide +kernel)
set_option maxRecDepth 20000 in
theorem qq_refused_r13 : GoodIn wsL_law wsL_refused_r13 := goodIn_r _ [353, 354, 355, 356, 357, 89, 90, 358, 359, 360, 361, 362, 363, 364, 365, 366, 367, 368, 369, 370, 371, 372, 373, 374] (by decide +kernel) (by decide +kernel)
set_option maxRecDepth 20000 in
theorem qq_refused_r14 : GoodIn wsL_law wsL_refused_r14 := goodIn_r _ [375, 376, 377, 378, 379, 380, 381, 382, 383, 384, 385, 386, 22, 23, 387, 388, 389, 390, 391, 392, 393, 394, 395] (by decide +kernel) (by decide +kernel)
set_option maxRecDepth 20000 in
theorem qq_refused_wsX80 : GoodIn wsL_law wsX80 := goodIn_r _ [498, 499, 500, 501, 502, 503, 504, 505, 506, 507, 508] (by decide +kernel) (by decide +kernel)
set_option maxRecDepth 20000 in
theorem qq_refused_wsX60 : GoodIn wsL_law wsX60 := goodIn_r _ [509, 510, 511, 512, 513, 514, 515] (by decide +kernel) (by decide +kernel)
set_option maxRecDepth 20000 in
theorem qq_refused_wsX10 : GoodIn wsL_law wsX10 := goodIn_r _ [519, 520, 521, 522, 523, 524, 525, 526, 527, 528, 529, 530] (by decide +kernel) (by decide +kernel)
set_option maxRecDepth 20000 in
theorem qq_refused_wsX20 : GoodIn wsL_law wsX20 := goodIn_r _ [516, 517, 518] (by decide +kernel) (by decide +kernel)
set_option maxRecDepth 20000 in
theorem qq_refused_wsX70 : GoodIn wsL_law wsX70 := goodIn_r _ [531, 532, 533, 534, 535] (by decide +kernel) (by decide +kernel)
set_option maxRecDepth 20000 in
theorem qq_refused_wsX30 : GoodIn wsL_law wsX30 := goodIn_r _ [540, 541, 542, 543, 544, 545, 546, 547] (by decide +kernel) (by decide +kernel)
set_option maxRecDepth 20000 in
theorem qq_refused_wsX50 : GoodIn wsL_law wsX50 := goodIn_r _ [554, 555, 556, 557, 558, 559, 560] (by decide +kernel) (by decide +kernel)
set_option maxRecDepth 20000 in
theorem qq_refused_wsX40 : GoodIn wsL_law wsX40 := goodIn_r _ [548, 549, 550, 551, 552, 553] (by decide +kernel) (by decide +kernel)
theorem ggL_law_L_refused : GoodIn wsL_law wsL_refused := g_cons qq_refused_c (goodIn_app (goodIn_app (goodIn_app (goodIn_app (goodIn_app (goodIn_app (goodIn_app (goodIn_app (goodIn_app qq_refused_r1 (goodIn_app qq_refused_r2 (goodIn_app qq_refused_r3 (goodIn_app qq_refused_r4 (goodIn_app qq_refused_r5 (goodIn_app qq_refused_r6 (goodIn_app qq_refused_r7 (goodIn_app qq_refused_r8 (goodIn_app qq_refused_r9 (goodIn_app qq_refused_r10 (goodIn_app qq_refused_r11 (goodIn_app qq_refused_r12 (goodIn_app qq_refused_r13 qq_refused_r14))))))))))))) qq_refused_wsX80) qq_refused_wsX60) qq_refused_wsX10) qq_refused_wsX20) qq_refused_wsX70) qq_refused_wsX30) qq_refused_wsX50) qq_refused_wsX40)
set_option maxRecDepth 20000 in
theorem gL_law_L_refused : GoodIn wsL_law (va_wsS RL 111 yL_refused wsL_refused) := goodIn_app (goodIn_of _ (by decide +kernel)) ggL_law_L_refused
set_option maxRecDepth 20000 in
theorem qq_act_c : GoodIn wsL_law [.code yL_act cL_act 7 (some .int)] := goodIn_r _ [403] (by decide +kernel) (by decide +kernel)
set_option maxRecDepth 20000 in
theorem qq_act_r1 : GoodIn wsL_law wsL_act_r1 := goodIn_r _ [404, 405, 406, 407, 408, 100, 101, 102, 2, 103, 13, 21, 17, 104, 20, 105, 106, 107, 61, 409, 410, 411, 412, 108] (by decide +kernel) (by decide +kernel)
set_option maxRecDepth 20000 in
theorem qq_act_r2 : GoodIn wsL_law wsL_act_r2 := goodIn_r _ [109, 110, 111, 112, 12, 113, 114, 115, 49, 413, 414, 415, 416, 22, 23, 417, 418, 419, 420, 421, 52, 422, 423, 424] (by decide +kernel) (by decide +kernel)
set_option maxRecDepth 20000 in
theorem qq_act_r3 : GoodIn wsL_law wsL_act_r3 := goodIn_r _ [425, 426, 427, 428, 429, 430, 431, 432, 433, 434, 435, 436, 437, 438, 439, 440, 441, 442, 50, 443, 444, 445, 446, 447] (by decide +kernel) (by decide +kernel)
set_option maxRecDepth 20000 in
theorem qq_act_r4 : GoodIn wsL_law wsL_act_r4 := goodIn_r _ [16, 448, 449, 142, 56, 57, 450, 451, 452, 167, 391, 244, 245, 246, 166, 297, 453, 454, 455, 456, 123, 124, 125, 126] (by decide +kernel) (by decide +kernel)
set_option maxRecDepth 20000 in
theorem qq_act_r5 : GoodIn wsL_law wsL_act_r5 := goodIn_r _ [120, 121, 122, 127, 128, 129, 130, 131, 132, 133, 134, 158, 159, 160, 161, 162, 147, 148, 149, 150, 163, 164, 165, 62] (by decide +kernel) (by decide +kernel)
set_option maxRecDepth 20000 in
theorem qq_act_r6 : GoodIn wsL_law wsL_act_r6 := goodIn_r _ [63, 64, 65, 168, 169, 151, 152, 153, 154, 155, 156, 157, 170, 171, 172, 173, 174, 175, 176, 177, 178, 179, 180, 181] (by decide +kernel) (by decide +kernel)
set_option maxRecDepth 20000 in
theorem qq_act_r7 : GoodIn wsL_law wsL_act_r7 := goodIn_r _ [182, 183, 184, 185, 457, 458, 459, 460, 461, 462, 463, 464, 465, 466, 467, 247, 248, 249, 250, 251, 252, 253, 290, 291] (by decide +kernel) (by decide +kernel)
set_option maxRecDepth 20000 in
theorem qq_act_r8 : GoodIn wsL_law wsL_act_r8 := goodIn_r _ [292, 293, 294, 295, 296, 66, 67, 468, 469, 470, 471, 379, 380, 381, 382, 383, 384, 385, 386, 387, 388, 389, 390, 392] (by decide +kernel) (by decide +kernel)
set_option maxRecDepth 20000 in
theorem qq_act_r9 : GoodIn wsL_law wsL_act_r9 := goodIn_r _ [393, 394, 395] (by decide +kernel) (by decide +kernel)
set_option maxRecDepth 20000 in
theorem qq_act_wsX80 : GoodIn wsL_law wsX80 := goodIn_r _ [498, 499, 500, 501, 502, 503, 504, 505, 506, 507, 508] (by decide +kernel) (by decide +kernel)
set_option maxRecDepth 20000 in
theorem qq_act_wsX60 : GoodIn wsL_law wsX60 := goodIn_r _ [509, 510, 511, 512, 513, 514, 515] (by decide +kernel) (by decide +kernel)
set_option maxRecDepth 20000 in
theorem qq_act_wsX10 : GoodIn wsL_law wsX10 := goodIn_r _ [519, 520, 521, 522, 523, 524, 525, 526, 527, 528, 529, 530] (by decide +kernel) (by decide +kernel)
set_option maxRecDepth 20000 in
theorem qq_act_wsX20 : GoodIn wsL_law wsX20 := goodIn_r _ [516, 517, 518] (by decide +kernel) (by decide +kernel)
theorem ggL_law_L_act : GoodIn wsL_law wsL_act := g_cons qq_act_c (goodIn_app (goodIn_app (goodIn_app (goodIn_app (goodIn_app qq_act_r1 (goodIn_app qq_act_r2 (goodIn_app qq_act_r3 (goodIn_app qq_act_r4 (goodIn_app qq_act_r5 (goodIn_app qq_act_r6 (goodIn_app qq_act_r7 (goodIn_app qq_act_r8 qq_act_r9)))))))) qq_act_wsX80) qq_act_wsX60) qq_act_wsX10) qq_act_wsX20)
set_option maxRecDepth 20000 in
theorem gL_law_L_act : GoodIn wsL_law (va_wsS RL 119 yL_act wsL_act) := goodIn_app (goodIn_of _ (by decide +kernel)) ggL_law_L_act
