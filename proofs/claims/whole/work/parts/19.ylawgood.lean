set_option maxRecDepth 20000 in
theorem ggL_law_X8_init : GoodIn wsL_law wsX8_init := goodIn_r _ [8, 9, 10, 11, 12, 13, 14, 15, 16, 17, 18, 19, 20, 21, 22, 23, 24, 25, 26, 27, 28, 29, 30, 31, 32, 33, 34, 35, 36, 37, 38, 39, 40, 41, 42, 43, 44, 45, 46, 47, 48, 49, 50, 51, 52, 53, 54, 55, 56, 57, 58, 59, 60, 61, 62, 63, 64, 65, 66, 67, 68, 69, 70, 71, 72, 73, 74, 75, 76, 77, 78, 79, 80, 587, 588, 569, 570, 571, 572, 573, 574, 575, 576, 589, 590, 591, 592, 593, 594, 595, 596, 597, 598, 599, 600, 601, 602, 603, 604, 605, 606, 607] (by decide +kernel) (by decide +kernel)
set_option maxRecDepth 20000 in
theorem gL_law_X8_init : GoodIn wsL_law (wsX8_init) := ggL_law_X8_init
set_option maxRecDepth 20000 in
theorem ggL_law_X9_init : GoodIn wsL_law wsX9_init := goodIn_r _ [83, 84, 10, 11, 85, 44, 86, 87, 88, 89, 90, 91, 92, 93, 94, 577, 578, 579, 580, 581, 582, 583, 584, 585, 586] (by decide +kernel) (by decide +kernel)
set_option maxRecDepth 20000 in
theorem gL_law_X9_init : GoodIn wsL_law (wsX9_init) := ggL_law_X9_init
set_option maxRecDepth 20000 in
theorem ggL_law_X8_net : GoodIn wsL_law wsX8_net := goodIn_r _ [98, 15, 99, 100, 101, 2, 102, 103, 104, 105, 14, 106, 45, 46, 107, 108, 109, 110, 569, 570, 571, 572, 573, 574, 575, 576, 587, 588] (by decide +kernel) (by decide +kernel)
set_option maxRecDepth 20000 in
theorem gL_law_X8_net : GoodIn wsL_law (wsV RL 13 RX8 yX8_net wsX8_net) := goodIn_app (goodIn_of _ (by decide +kernel)) ggL_law_X8_net
set_option maxRecDepth 20000 in
theorem ggL_law_X9_net : GoodIn wsL_law wsX9_net := goodIn_r _ [114, 85, 115, 116, 5, 117, 118, 119, 120, 121, 86, 577, 578, 579, 580, 581, 582, 583, 584, 585, 586] (by decide +kernel) (by decide +kernel)
set_option maxRecDepth 20000 in
theorem gL_law_X9_net : GoodIn wsL_law (wsV RL 17 RX9 yX9_net wsX9_net) := goodIn_app (goodIn_of _ (by decide +kernel)) ggL_law_X9_net
set_option maxRecDepth 20000 in
theorem ggL_law_X8_join : GoodIn wsL_law wsX8_join := goodIn_r _ [125, 15, 126, 127, 128, 14, 129, 46, 100, 101, 2, 102, 130, 131, 132, 133, 45, 134, 135, 136, 137, 138, 139, 140, 141, 569, 570, 571, 572, 573, 574, 575, 576, 587, 588] (by decide +kernel) (by decide +kernel)
set_option maxRecDepth 20000 in
theorem gL_law_X8_join : GoodIn wsL_law (wsV RL 18 RX8 yX8_join wsX8_join) := goodIn_app (goodIn_of _ (by decide +kernel)) ggL_law_X8_join
set_option maxRecDepth 20000 in
theorem ggL_law_X9_join : GoodIn wsL_law wsX9_join := goodIn_r _ [145, 86, 146, 147, 148, 5, 149, 85, 115, 116, 117, 150, 151, 152, 153, 577, 578, 579, 580, 581, 582, 583, 584, 585, 586] (by decide +kernel) (by decide +kernel)
set_option maxRecDepth 20000 in
theorem gL_law_X9_join : GoodIn wsL_law (wsV RL 22 RX9 yX9_join wsX9_join) := goodIn_app (goodIn_of _ (by decide +kernel)) ggL_law_X9_join
set_option maxRecDepth 20000 in
theorem ggL_law_X8_shape : GoodIn wsL_law wsX8_shape := goodIn_r _ [157, 15, 100, 101, 2, 102, 158, 159, 160, 14, 161, 46, 162, 104, 105, 106, 45, 107, 108, 109, 110, 163, 164, 165, 166, 167, 139, 140, 141, 134, 127, 128, 129, 168, 169, 170, 171, 172, 173, 174, 175, 176, 177, 178, 569, 570, 571, 572, 573, 574, 575, 576, 587, 588] (by decide +kernel) (by decide +kernel)
set_option maxRecDepth 20000 in
theorem gL_law_X8_shape : GoodIn wsL_law (wsV RL 23 RX8 yX8_shape wsX8_shape) := goodIn_app (goodIn_of _ (by decide +kernel)) ggL_law_X8_shape
set_option maxRecDepth 20000 in
theorem ggL_law_X9_shape : GoodIn wsL_law wsX9_shape := goodIn_r _ [182, 85, 115, 116, 5, 117, 118, 119, 120, 121, 86, 150, 151, 152, 153, 183, 184, 185, 186, 187, 188, 189, 577, 578, 579, 580, 581, 582, 583, 584, 585, 586] (by decide +kernel) (by decide +kernel)
set_option maxRecDepth 20000 in
theorem gL_law_X9_shape : GoodIn wsL_law (wsV RL 26 RX9 yX9_shape wsX9_shape) := goodIn_app (goodIn_of _ (by decide +kernel)) ggL_law_X9_shape
set_option maxRecDepth 20000 in
theorem ggL_law_X8_set : GoodIn wsL_law wsX8_set := goodIn_r _ [193, 40, 39, 38, 100, 101, 2, 102, 569, 570, 571, 572, 573, 574, 575, 576] (by decide +kernel) (by decide +kernel)
set_option maxRecDepth 20000 in
theorem gL_law_X8_set : GoodIn wsL_law (wsV RL 27 RX8 yX8_set wsX8_set) := goodIn_app (goodIn_of _ (by decide +kernel)) ggL_law_X8_set
set_option maxRecDepth 20000 in
theorem ggL_law_X9_set : GoodIn wsL_law wsX9_set := goodIn_r _ [197, 94, 87, 88, 115, 116, 5, 117, 577, 578, 579, 580, 581, 582, 583, 584, 585, 586] (by decide +kernel) (by decide +kernel)
set_option maxRecDepth 20000 in
theorem gL_law_X9_set : GoodIn wsL_law (wsV RL 31 RX9 yX9_set wsX9_set) := goodIn_app (goodIn_of _ (by decide +kernel)) ggL_law_X9_set
set_option maxRecDepth 20000 in
theorem ggL_law_X8_lawful : GoodIn wsL_law wsX8_lawful := goodIn_r _ [201, 15, 202, 203, 2, 204, 100, 101, 102, 205, 206, 207, 14, 208, 209, 210, 211, 212, 46, 213, 214, 215, 216, 217, 218, 219, 220, 45, 221, 222, 223, 224, 135, 136, 137, 569, 570, 571, 572, 573, 574, 575, 576, 587, 588] (by decide +kernel) (by decide +kernel)
set_option maxRecDepth 20000 in
theorem gL_law_X8_lawful : GoodIn wsL_law (wsV RL 32 RX8 yX8_lawful wsX8_lawful) := goodIn_app (goodIn_of _ (by decide +kernel)) ggL_law_X8_lawful
set_option maxRecDepth 20000 in
theorem ggL_law_X9_lawful : GoodIn wsL_law wsX9_lawful := goodIn_r _ [228, 229, 230, 5, 231, 115, 116, 117, 232, 233, 234, 235, 85, 236, 237, 238, 239, 86, 577, 578, 579, 580, 581, 582, 583, 584, 585, 586] (by decide +kernel) (by decide +kernel)
set_option maxRecDepth 20000 in
theorem gL_law_X9_lawful : GoodIn wsL_law (wsV RL 35 RX9 yX9_lawful wsX9_lawful) := goodIn_app (goodIn_of _ (by decide +kernel)) ggL_law_X9_lawful
set_option maxRecDepth 20000 in
theorem ggL_law_X8_count : GoodIn wsL_law wsX8_count := goodIn_r _ [243, 15, 99, 202, 203, 2, 204, 100, 101, 102, 244, 210, 211, 14, 212, 46, 245, 173, 174, 175, 176, 177, 178, 213, 214, 215, 216, 217, 218, 219, 220, 45, 209, 221, 222, 223, 224, 569, 570, 571, 572, 573, 574, 575, 576, 587, 588] (by decide +kernel) (by decide +kernel)
set_option maxRecDepth 20000 in
theorem gL_law_X8_count : GoodIn wsL_law (wsV RL 36 RX8 yX8_count wsX8_count) := goodIn_app (goodIn_of _ (by decide +kernel)) ggL_law_X8_count
set_option maxRecDepth 20000 in
theorem ggL_law_X9_count : GoodIn wsL_law wsX9_count := goodIn_r _ [249, 85, 229, 230, 5, 231, 115, 116, 117, 187, 188, 189, 236, 237, 238, 239, 86, 577, 578, 579, 580, 581, 582, 583, 584, 585, 586] (by decide +kernel) (by decide +kernel)
set_option maxRecDepth 20000 in
theorem gL_law_X9_count : GoodIn wsL_law (wsV RL 39 RX9 yX9_count wsX9_count) := goodIn_app (goodIn_of _ (by decide +kernel)) ggL_law_X9_count
set_option maxRecDepth 20000 in
theorem ggL_law_X8_weight : GoodIn wsL_law wsX8_weight := goodIn_r _ [253, 15, 33, 37, 254, 255, 2, 256, 100, 101, 102, 205, 206, 207, 14, 208, 209, 210, 211, 212, 46, 257, 258, 259, 260, 261, 32, 262, 263, 264, 265, 266, 267, 268, 29, 269, 270, 271, 272, 273, 274, 26, 275, 276, 277, 278, 279, 280, 173, 174, 175, 176, 177, 178, 281, 282, 283, 284, 285, 131, 132, 133, 45, 134, 127, 128, 129, 286, 287, 288, 289, 569, 570, 571, 572, 573, 574, 575, 576, 587, 588, 607] (by decide +kernel) (by decide +kernel)
set_option maxRecDepth 20000 in
theorem gL_law_X8_weight : GoodIn wsL_law (wsV RL 40 RX8 yX8_weight wsX8_weight) := goodIn_app (goodIn_of _ (by decide +kernel)) ggL_law_X8_weight
set_option maxRecDepth 20000 in
theorem ggL_law_X9_weight : GoodIn wsL_law wsX9_weight := goodIn_r _ [293, 294, 295, 296, 229, 230, 5, 231, 115, 116, 117, 232, 233, 234, 235, 85, 297, 298, 299, 300, 86, 187, 188, 189, 577, 578, 579, 580, 581, 582, 583, 584, 585, 586] (by decide +kernel) (by decide +kernel)
set_option maxRecDepth 20000 in
theorem gL_law_X9_weight : GoodIn wsL_law (wsV RL 43 RX9 yX9_weight wsX9_weight) := goodIn_app (goodIn_of _ (by decide +kernel)) ggL_law_X9_weight
set_option maxRecDepth 20000 in
theorem ggL_law_X8_walk : GoodIn wsL_law wsX8_walk := goodIn_r _ [304, 19, 202, 203, 2, 204, 100, 101, 102, 254, 255, 256, 305, 306, 307, 308, 15, 205, 206, 207, 14, 208, 209, 210, 211, 212, 46, 213, 214, 215, 216, 217, 218, 219, 220, 45, 221, 222, 223, 224, 309, 310, 311, 312, 38, 39, 313, 314, 315, 18, 316, 50, 51, 317, 318, 319, 320, 321, 322, 323, 324, 173, 174, 175, 176, 177, 178, 325, 326, 327, 328, 329, 54, 330, 60, 331, 332, 333, 334, 335, 57, 336, 337, 338, 339, 340, 341, 58, 61, 59, 62, 342, 343, 344, 345, 346, 347, 348, 349, 350, 351, 352, 353, 354, 355, 356, 357, 358, 359, 360, 361, 362, 363, 364, 365, 63, 366, 367, 22, 368, 369, 370, 68, 371, 67, 372, 373, 374, 375, 376, 377, 378, 379, 380, 381, 382, 383, 384, 385, 386, 387, 388, 389, 390, 391, 392, 393, 394, 395, 396, 397, 398, 399, 400, 401, 402, 403, 404, 569, 570, 571, 572, 573, 574, 575, 576, 587, 588, 589, 590, 591, 592, 593, 594, 595, 596, 597, 598, 599, 600, 601, 602, 603, 604, 605, 606] (by decide +kernel) (by decide +kernel)
set_option maxRecDepth 20000 in
theorem gL_law_X8_walk : GoodIn wsL_law (wsV RL 44 RX8 yX8_walk wsX8_walk) := goodIn_app (goodIn_of _ (by decide +kernel)) ggL_law_X8_walk
set_option maxRecDepth 20000 in
theorem ggL_law_X9_walk : GoodIn wsL_law wsX9_walk := goodIn_r _ [408, 89, 409, 85, 410, 411, 412, 5, 413, 229, 230, 231, 115, 116, 117, 232, 233, 234, 235, 236, 237, 238, 239, 86, 414, 415, 416, 417, 91, 418, 419, 420, 421, 422, 423, 424, 425, 94, 87, 187, 188, 189, 297, 298, 299, 300, 577, 578, 579, 580, 581, 582, 583, 584, 585, 586] (by decide +kernel) (by decide +kernel)
set_option maxRecDepth 20000 in
theorem gL_law_X9_walk : GoodIn wsL_law (wsV RL 48 RX9 yX9_walk wsX9_walk) := goodIn_app (goodIn_of _ (by decide +kernel)) ggL_law_X9_walk
set_option maxRecDepth 20000 in
theorem ggL_law_X8_reach : GoodIn wsL_law wsX8_reach := goodIn_r _ [429, 19, 430, 320, 202, 203, 2, 204, 100, 101, 102, 254, 255, 256, 305, 306, 307, 308, 15, 205, 206, 207, 14, 208, 209, 210, 211, 212, 46, 213, 214, 215, 216, 217, 218, 219, 220, 45, 221, 222, 223, 224, 309, 310, 311, 312, 38, 39, 313, 314, 315, 18, 316, 50, 51, 317, 318, 319, 321, 322, 323, 324, 173, 174, 175, 176, 177, 178, 325, 431, 432, 433, 340, 54, 341, 58, 60, 61, 59, 62, 331, 332, 333, 334, 335, 57, 336, 342, 343, 344, 345, 346, 347, 348, 349, 350, 351, 352, 353, 354, 355, 356, 357, 358, 359, 360, 361, 362, 363, 364, 365, 63, 366, 367, 22, 368, 369, 370, 68, 371, 67, 372, 373, 374, 434, 435, 436, 437, 393, 394, 438, 439, 440, 441, 569, 570, 571, 572, 573, 574, 575, 576, 589, 590, 591, 592, 593, 594, 595, 596, 597, 598, 599, 600, 601, 602, 603, 604, 605, 606, 587, 588] (by decide +kernel) (by decide +kernel)
set_option maxRecDepth 20000 in
theorem gL_law_X8_reach : GoodIn wsL_law (wsV RL 49 RX8 yX8_reach wsX8_reach) := goodIn_app (goodIn_of _ (by decide +kernel)) ggL_law_X8_reach
set_option maxRecDepth 20000 in
theorem ggL_law_X9_reach : GoodIn wsL_law wsX9_reach := goodIn_r _ [445, 85, 91, 89, 410, 411, 412, 5, 413, 229, 230, 231, 115, 116, 117, 232, 233, 234, 235, 236, 237, 238, 239, 86, 414, 415, 416, 417, 409, 418, 419, 420, 421, 422, 423, 424, 425, 94, 87, 187, 188, 189, 297, 298, 299, 300, 577, 578, 579, 580, 581, 582, 583, 584, 585, 586] (by decide +kernel) (by decide +kernel)
set_option maxRecDepth 20000 in
theorem gL_law_X9_reach : GoodIn wsL_law (wsV RL 53 RX9 yX9_reach wsX9_reach) := goodIn_app (goodIn_of _ (by decide +kernel)) ggL_law_X9_reach
set_option maxRecDepth 20000 in
theorem ggL_law_X8_parts : GoodIn wsL_law wsX8_parts := goodIn_r _ [449, 19, 15, 99, 202, 203, 2, 204, 100, 101, 102, 254, 255, 256, 309, 310, 311, 312, 38, 39, 313, 314, 315, 18, 316, 50, 51, 317, 318, 319, 320, 321, 322, 323, 210, 211, 14, 212, 46, 324, 173, 174, 175, 176, 177, 178, 325, 214, 215, 216, 217, 218, 219, 220, 45, 209, 221, 222, 223, 224, 450, 451, 452, 453, 54, 454, 57, 60, 337, 338, 339, 340, 341, 58, 61, 59, 62, 331, 332, 333, 334, 335, 336, 342, 343, 344, 345, 346, 347, 348, 349, 350, 351, 352, 353, 354, 355, 356, 357, 358, 359, 360, 361, 362, 363, 364, 365, 63, 366, 367, 22, 368, 369, 370, 68, 371, 67, 372, 373, 374, 375, 569, 570, 571, 572, 573, 574, 575, 576, 587, 588, 589, 590, 591, 592, 593, 594, 595, 596, 597, 598, 599, 600, 601, 602, 603, 604, 605, 606] (by decide +kernel) (by decide +kernel)
set_option maxRecDepth 20000 in
theorem gL_law_X8_parts : GoodIn wsL_law (wsV RL 54 RX8 yX8_parts wsX8_parts) := goodIn_app (goodIn_of _ (by decide +kernel)) ggL_law_X8_parts
set_option maxRecDepth 20000 in
theorem ggL_law_X9_parts : GoodIn wsL_law wsX9_parts := goodIn_r _ [458, 85, 91, 229, 230, 5, 231, 115, 116, 117, 414, 415, 416, 417, 89, 409, 422, 423, 424, 425, 94, 87, 236, 237, 238, 239, 86, 187, 188, 189, 418, 419, 420, 421, 297, 298, 299, 300, 577, 578, 579, 580, 581, 582, 583, 584, 585, 586] (by decide +kernel) (by decide +kernel)
set_option maxRecDepth 20000 in
theorem gL_law_X9_parts : GoodIn wsL_law (wsV RL 57 RX9 yX9_parts wsX9_parts) := goodIn_app (goodIn_of _ (by decide +kernel)) ggL_law_X9_parts
set_option maxRecDepth 20000 in
theorem ggL_law_X8_proper : GoodIn wsL_law wsX8_proper := goodIn_r _ [462, 15, 99, 23, 40, 463, 464, 465, 22, 466, 68, 371, 467, 468, 469, 470, 471, 472, 473, 474, 135, 136, 2, 137, 569, 570, 571, 572, 573, 574, 575, 576, 587, 588, 598, 599, 600, 601, 602, 603, 604, 605, 606] (by decide +kernel) (by decide +kernel)
set_option maxRecDepth 20000 in
theorem gL_law_X8_proper : GoodIn wsL_law (wsV RL 58 RX8 yX8_proper wsX8_proper) := goodIn_app (goodIn_of _ (by decide +kernel)) ggL_law_X8_proper
set_option maxRecDepth 20000 in
theorem ggL_law_X9_proper : GoodIn wsL_law wsX9_proper := goodIn_r _ [478, 85, 479, 480, 481, 5, 482, 88, 483, 484, 485, 486, 115, 116, 117, 487, 488, 489, 490, 86, 577, 578, 579, 580, 581, 582, 583, 584, 585, 586] (by decide +kernel) (by decide +kernel)
set_option maxRecDepth 20000 in
theorem gL_law_X9_proper : GoodIn wsL_law (wsV RL 61 RX9 yX9_proper wsX9_proper) := goodIn_app (goodIn_of _ (by decide +kernel)) ggL_law_X9_proper
set_option maxRecDepth 20000 in
theorem ggL_law_X8_shades : GoodIn wsL_law wsX8_shades := goodIn_r _ [494, 15, 99, 23, 40, 495, 496, 497, 22, 498, 499, 464, 465, 466, 68, 371, 467, 468, 469, 500, 471, 472, 473, 474, 501, 502, 503, 504, 67, 505, 506, 507, 508, 509, 510, 511, 512, 513, 514, 515, 516, 517, 518, 329, 54, 330, 60, 331, 332, 333, 334, 335, 57, 336, 337, 338, 339, 340, 341, 58, 61, 59, 62, 342, 343, 344, 345, 346, 347, 348, 349, 350, 351, 18, 352, 353, 354, 51, 355, 50, 356, 357, 358, 359, 360, 323, 210, 211, 14, 212, 46, 361, 362, 363, 364, 365, 63, 366, 367, 368, 369, 370, 372, 373, 374, 375, 569, 570, 571, 572, 573, 574, 575, 576, 587, 588, 598, 599, 600, 601, 602, 603, 604, 605, 606, 589, 590, 591, 592, 593, 594, 595, 596, 597] (by decide +kernel) (by decide +kernel)
set_option maxRecDepth 20000 in
theorem gL_law_X8_shades : GoodIn wsL_law (wsV RL 62 RX8 yX8_shades wsX8_shades) := goodIn_app (goodIn_of _ (by decide +kernel)) ggL_law_X8_shades
set_option maxRecDepth 20000 in
theorem ggL_law_X9_shades : GoodIn wsL_law wsX9_shades := goodIn_r _ [522, 85, 92, 487, 488, 489, 5, 490, 86, 479, 480, 481, 482, 88, 483, 484, 485, 486, 115, 116, 117, 523, 524, 525, 526, 527, 528, 529, 530, 93, 577, 578, 579, 580, 581, 582, 583, 584, 585, 586] (by decide +kernel) (by decide +kernel)
set_option maxRecDepth 20000 in
theorem gL_law_X9_shades : GoodIn wsL_law (wsV RL 65 RX9 yX9_shades wsX9_shades) := goodIn_app (goodIn_of _ (by decide +kernel)) ggL_law_X9_shades
set_option maxRecDepth 20000 in
theorem ggL_law_X8_heaps : GoodIn wsL_law wsX8_heaps := goodIn_r _ [534, 15, 99, 23, 40, 100, 101, 2, 102, 501, 502, 503, 22, 504, 67, 68, 371, 505, 506, 507, 508, 509, 510, 511, 512, 513, 514, 515, 496, 497, 498, 499, 464, 465, 466, 467, 468, 469, 500, 471, 472, 473, 474, 535, 536, 537, 538, 539, 540, 541, 542, 369, 370, 543, 367, 544, 368, 372, 373, 374, 364, 54, 365, 60, 59, 62, 63, 331, 332, 333, 334, 335, 57, 336, 545, 546, 547, 453, 454, 337, 338, 339, 340, 341, 58, 61, 342, 343, 344, 345, 346, 347, 348, 349, 350, 351, 18, 352, 353, 354, 51, 355, 50, 356, 357, 358, 359, 360, 323, 210, 211, 14, 212, 46, 361, 362, 363, 366, 375, 569, 570, 571, 572, 573, 574, 575, 576, 587, 588, 598, 599, 600, 601, 602, 603, 604, 605, 606, 589, 590, 591, 592, 593, 594, 595, 596, 597] (by decide +kernel) (by decide +kernel)
set_option maxRecDepth 20000 in
theorem gL_law_X8_heaps : GoodIn wsL_law (wsV RL 66 RX8 yX8_heaps wsX8_heaps) := goodIn_app (goodIn_of _ (by decide +kernel)) ggL_law_X8_heaps
set_option maxRecDepth 20000 in
theorem ggL_law_X9_heaps : GoodIn wsL_law wsX9_heaps := goodIn_r _ [551, 85, 92, 115, 116, 5, 117, 523, 524, 525, 526, 483, 484, 485, 486, 487, 488, 489, 490, 86, 479, 480, 481, 482, 88, 527, 528, 529, 530, 93, 577, 578, 579, 580, 581, 582, 583, 584, 585, 586] (by decide +kernel) (by decide +kernel)
set_option maxRecDepth 20000 in
theorem gL_law_X9_heaps : GoodIn wsL_law (wsV RL 69 RX9 yX9_heaps wsX9_heaps) := goodIn_app (goodIn_of _ (by decide +kernel)) ggL_law_X9_heaps
set_option maxRecDepth 20000 in
theorem ggL_law_X8_told : GoodIn wsL_law wsX8_told := goodIn_r _ [555, 15, 99, 38, 39, 40, 168, 169, 170, 14, 171, 46, 45, 172, 173, 174, 175, 176, 177, 178, 569, 570, 571, 572, 573, 574, 575, 576, 587, 588] (by decide +kernel) (by decide +kernel)
set_option maxRecDepth 20000 in
theorem gL_law_X8_told : GoodIn wsL_law (wsV RL 70 RX8 yX8_told wsX8_told) := goodIn_app (goodIn_of _ (by decide +kernel)) ggL_law_X8_told
set_option maxRecDepth 20000 in
theorem ggL_law_X9_told : GoodIn wsL_law wsX9_told := goodIn_r _ [559, 85, 94, 87, 88, 183, 184, 185, 5, 186, 86, 187, 188, 189, 577, 578, 579, 580, 581, 582, 583, 584, 585, 586] (by decide +kernel) (by decide +kernel)
set_option maxRecDepth 20000 in
theorem gL_law_X9_told : GoodIn wsL_law (wsV RL 73 RX9 yX9_told wsX9_told) := goodIn_app (goodIn_of _ (by decide +kernel)) ggL_law_X9_told
set_option maxRecDepth 20000 in
theorem ggL_law_X8_trace : GoodIn wsL_law wsX8_trace := goodIn_r _ [563, 37, 564, 569, 570, 571, 572, 573, 574, 575, 576, 607] (by decide +kernel) (by decide +kernel)
set_option maxRecDepth 20000 in
theorem gL_law_X8_trace : GoodIn wsL_law (wsV RL 74 RX8 yX8_trace wsX8_trace) := goodIn_app (goodIn_of _ (by decide +kernel)) ggL_law_X8_trace
set_option maxRecDepth 20000 in
theorem ggL_law_X9_trace : GoodIn wsL_law wsX9_trace := goodIn_r _ [568, 294, 577, 578, 579, 580, 581, 582, 583, 584, 585, 586] (by decide +kernel) (by decide +kernel)
set_option maxRecDepth 20000 in
theorem gL_law_X9_trace : GoodIn wsL_law (wsV RL 78 RX9 yX9_trace wsX9_trace) := goodIn_app (goodIn_of _ (by decide +kernel)) ggL_law_X9_trace
