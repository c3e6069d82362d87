set_option maxRecDepth 20000 in
theorem ggL_law_X8_pass : GoodIn wsL_law wsX8_pass := goodIn_r _ [452, 453, 250, 279, 280, 5, 281, 454, 455, 456, 457, 340, 255, 458, 459, 460, 461, 375, 376, 377, 378, 249, 462, 463, 464, 465, 466, 467, 468, 469, 254, 470, 471, 472, 473, 253, 474, 475, 476, 477, 343, 344, 345, 346, 478, 479, 480, 481, 379, 380, 381, 382, 371, 372, 373, 374, 482, 483, 484, 485, 829, 830, 831, 832, 833, 834, 835, 836, 837, 838, 839, 840, 841, 842, 843, 844, 845, 846, 847, 848, 849, 850, 851, 852] (by decide +kernel) (by decide +kernel)
set_option maxRecDepth 20000 in
theorem gL_law_X8_pass : GoodIn wsL_law (wsV RL 43 RX8 yX8_pass wsX8_pass) := goodIn_app (goodIn_of _ (by decide +kernel)) ggL_law_X8_pass
set_option maxRecDepth 20000 in
theorem ggL_law_X7_lettuce : GoodIn wsL_law wsX7_lettuce := goodIn_r _ [489, 43, 32, 27, 351, 206, 207, 42, 208, 99, 91, 490, 491, 492, 2, 493, 352, 353, 354, 26, 355, 67, 396, 397, 398, 31, 399, 75, 80, 81, 400, 242, 243, 244, 401, 402, 403, 404, 241, 68, 69, 70, 494, 446, 447, 448, 495, 496, 497, 498, 499, 818, 819, 820, 821, 822, 823, 824, 825, 826, 827, 828, 872, 873, 874, 875, 876, 877, 878, 879, 880, 881, 882, 883, 884, 862, 863, 864, 865, 866, 867, 868] (by decide +kernel) (by decide +kernel)
set_option maxRecDepth 20000 in
theorem gL_law_X7_lettuce : GoodIn wsL_law (wsV RL 44 RX7 yX7_lettuce wsX7_lettuce) := goodIn_app (goodIn_of _ (by decide +kernel)) ggL_law_X7_lettuce
set_option maxRecDepth 20000 in
theorem ggL_law_X8_lettuce : GoodIn wsL_law wsX8_lettuce := goodIn_r _ [503, 250, 367, 368, 369, 5, 370, 343, 344, 345, 346, 249, 279, 280, 281, 371, 372, 373, 374, 454, 455, 456, 457, 340, 255, 504, 505, 506, 507, 829, 830, 831, 832, 833, 834, 835, 836, 837, 838, 839, 840, 841, 842, 843, 844, 845, 846, 847, 848, 849, 850, 851, 852] (by decide +kernel) (by decide +kernel)
set_option maxRecDepth 20000 in
theorem gL_law_X8_lettuce : GoodIn wsL_law (wsV RL 47 RX8 yX8_lettuce wsX8_lettuce) := goodIn_app (goodIn_of _ (by decide +kernel)) ggL_law_X8_lettuce
set_option maxRecDepth 20000 in
theorem ggL_law_X7_salt : GoodIn wsL_law wsX7_salt := goodIn_r _ [511, 43, 27, 32, 351, 206, 207, 42, 208, 99, 91, 352, 353, 354, 26, 355, 67, 396, 397, 398, 31, 399, 75, 80, 81, 400, 242, 243, 244, 401, 402, 403, 404, 241, 68, 69, 70, 494, 446, 447, 448, 818, 819, 820, 821, 822, 823, 824, 825, 826, 827, 828, 862, 863, 864, 865, 872, 873, 874, 875, 876, 877, 878, 879, 880, 881, 882, 883, 884, 866, 867, 868] (by decide +kernel) (by decide +kernel)
set_option maxRecDepth 20000 in
theorem gL_law_X7_salt : GoodIn wsL_law (wsV RL 48 RX7 yX7_salt wsX7_salt) := goodIn_app (goodIn_of _ (by decide +kernel)) ggL_law_X7_salt
set_option maxRecDepth 20000 in
theorem ggL_law_X8_salt : GoodIn wsL_law wsX8_salt := goodIn_r _ [515, 250, 367, 368, 369, 5, 370, 343, 344, 345, 346, 249, 279, 280, 281, 371, 372, 373, 374, 454, 455, 456, 457, 340, 255, 829, 830, 831, 832, 833, 834, 835, 836, 837, 838, 839, 840, 841, 842, 843, 844, 845, 846, 847, 848, 849, 850, 851, 852] (by decide +kernel) (by decide +kernel)
set_option maxRecDepth 20000 in
theorem gL_law_X8_salt : GoodIn wsL_law (wsV RL 51 RX8 yX8_salt wsX8_salt) := goodIn_app (goodIn_of _ (by decide +kernel)) ggL_law_X8_salt
set_option maxRecDepth 20000 in
theorem ggL_law_X7_stone : GoodIn wsL_law wsX7_stone := goodIn_r _ [519, 43, 27, 32, 351, 206, 207, 42, 208, 99, 91, 352, 353, 354, 26, 355, 67, 490, 491, 492, 2, 493, 396, 397, 398, 31, 399, 75, 80, 81, 400, 242, 243, 244, 401, 402, 403, 404, 241, 68, 69, 70, 494, 446, 447, 448, 495, 496, 497, 498, 499, 818, 819, 820, 821, 822, 823, 824, 825, 826, 827, 828, 872, 873, 874, 875, 876, 877, 878, 879, 880, 881, 882, 883, 884, 862, 863, 864, 865, 866, 867, 868] (by decide +kernel) (by decide +kernel)
set_option maxRecDepth 20000 in
theorem gL_law_X7_stone : GoodIn wsL_law (wsV RL 52 RX7 yX7_stone wsX7_stone) := goodIn_app (goodIn_of _ (by decide +kernel)) ggL_law_X7_stone
set_option maxRecDepth 20000 in
theorem ggL_law_X8_stone : GoodIn wsL_law wsX8_stone := goodIn_r _ [523, 250, 367, 368, 369, 5, 370, 343, 344, 345, 346, 249, 279, 280, 281, 371, 372, 373, 374, 454, 455, 456, 457, 340, 255, 504, 505, 506, 507, 829, 830, 831, 832, 833, 834, 835, 836, 837, 838, 839, 840, 841, 842, 843, 844, 845, 846, 847, 848, 849, 850, 851, 852] (by decide +kernel) (by decide +kernel)
set_option maxRecDepth 20000 in
theorem gL_law_X8_stone : GoodIn wsL_law (wsV RL 55 RX8 yX8_stone wsX8_stone) := goodIn_app (goodIn_of _ (by decide +kernel)) ggL_law_X8_stone
set_option maxRecDepth 20000 in
theorem ggL_law_X7_undo : GoodIn wsL_law wsX7_undo := goodIn_r _ [527, 32, 27, 528, 529, 530, 31, 531, 75, 81, 532, 533, 534, 26, 535, 67, 241, 242, 243, 244, 68, 69, 70, 818, 819, 820, 821, 822, 823, 824, 825, 826, 827, 828, 866, 867, 868, 862, 863, 864, 865] (by decide +kernel) (by decide +kernel)
set_option maxRecDepth 20000 in
theorem gL_law_X7_undo : GoodIn wsL_law (wsV RL 56 RX7 yX7_undo wsX7_undo) := goodIn_app (goodIn_of _ (by decide +kernel)) ggL_law_X7_undo
set_option maxRecDepth 20000 in
theorem ggL_law_X8_undo : GoodIn wsL_law wsX8_undo := goodIn_r _ [539, 340, 250, 255, 829, 830, 831, 832, 833, 834, 835, 836, 837, 838, 839, 840, 841, 842, 843, 844, 845, 846, 847, 848, 849, 850, 851, 852] (by decide +kernel) (by decide +kernel)
set_option maxRecDepth 20000 in
theorem gL_law_X8_undo : GoodIn wsL_law (wsV RL 59 RX8 yX8_undo wsX8_undo) := goodIn_app (goodIn_of _ (by decide +kernel)) ggL_law_X8_undo
set_option maxRecDepth 20000 in
theorem ggL_law_X7_where : GoodIn wsL_law wsX7_where := goodIn_r _ [543, 28, 27, 544, 545, 546, 26, 547, 67, 241, 242, 243, 244, 68, 69, 70, 405, 406, 407, 2, 408, 23, 43, 356, 357, 358, 42, 359, 101, 94, 409, 410, 411, 22, 412, 413, 414, 415, 416, 417, 418, 419, 420, 62, 63, 421, 422, 423, 424, 166, 167, 168, 425, 426, 427, 428, 93, 429, 353, 354, 355, 361, 362, 430, 431, 432, 433, 434, 435, 436, 437, 438, 439, 440, 441, 99, 98, 442, 443, 444, 445, 446, 447, 448, 818, 819, 820, 821, 822, 823, 824, 825, 826, 827, 828, 862, 863, 864, 865, 872, 873, 874, 875, 876, 877, 878, 879, 880, 881, 882, 883, 884, 860, 861] (by decide +kernel) (by decide +kernel)
set_option maxRecDepth 20000 in
theorem gL_law_X7_where : GoodIn wsL_law (wsV RL 60 RX7 yX7_where wsX7_where) := goodIn_app (goodIn_of _ (by decide +kernel)) ggL_law_X7_where
set_option maxRecDepth 20000 in
theorem ggL_law_X8_where : GoodIn wsL_law wsX8_where := goodIn_r _ [551, 453, 250, 279, 280, 5, 281, 552, 553, 554, 555, 256, 458, 459, 460, 461, 375, 376, 377, 378, 249, 462, 463, 464, 465, 466, 467, 468, 469, 254, 470, 471, 472, 473, 253, 474, 475, 476, 477, 343, 344, 345, 346, 478, 479, 480, 481, 379, 380, 381, 382, 371, 372, 373, 374, 482, 483, 484, 485, 556, 557, 558, 559, 829, 830, 831, 832, 833, 834, 835, 836, 837, 838, 839, 840, 841, 842, 843, 844, 845, 846, 847, 848, 849, 850, 851, 852] (by decide +kernel) (by decide +kernel)
set_option maxRecDepth 20000 in
theorem gL_law_X8_where : GoodIn wsL_law (wsV RL 63 RX8 yX8_where wsX8_where) := goodIn_app (goodIn_of _ (by decide +kernel)) ggL_law_X8_where
set_option maxRecDepth 20000 in
theorem ggL_law_X7_begins : GoodIn wsL_law wsX7_begins := goodIn_r _ [563, 28, 27, 544, 545, 546, 26, 547, 67, 241, 242, 243, 244, 68, 69, 70, 564, 565, 566, 2, 567, 23, 43, 568, 414, 415, 416, 356, 357, 358, 42, 359, 101, 94, 409, 410, 411, 22, 412, 413, 417, 418, 419, 420, 62, 63, 421, 422, 423, 424, 166, 167, 168, 425, 426, 427, 428, 93, 429, 353, 354, 355, 361, 362, 430, 431, 432, 433, 434, 435, 436, 437, 438, 439, 440, 441, 99, 98, 442, 443, 444, 445, 446, 447, 448, 818, 819, 820, 821, 822, 823, 824, 825, 826, 827, 828, 862, 863, 864, 865, 872, 873, 874, 875, 876, 877, 878, 879, 880, 881, 882, 883, 884, 860, 861] (by decide +kernel) (by decide +kernel)
set_option maxRecDepth 20000 in
theorem gL_law_X7_begins : GoodIn wsL_law (wsV RL 64 RX7 yX7_begins wsX7_begins) := goodIn_app (goodIn_of _ (by decide +kernel)) ggL_law_X7_begins
set_option maxRecDepth 20000 in
theorem ggL_law_X8_begins : GoodIn wsL_law wsX8_begins := goodIn_r _ [572, 573, 574, 575, 5, 576, 552, 553, 554, 555, 256, 250, 577, 578, 579, 580, 581, 582, 375, 376, 377, 378, 249, 462, 463, 464, 465, 466, 467, 468, 469, 254, 470, 471, 472, 473, 253, 474, 475, 476, 477, 343, 344, 345, 346, 478, 479, 480, 481, 379, 380, 381, 382, 371, 372, 373, 374, 482, 483, 484, 485, 556, 557, 558, 559, 829, 830, 831, 832, 833, 834, 835, 836, 837, 838, 839, 840, 841, 842, 843, 844, 845, 846, 847, 848, 849, 850, 851, 852] (by decide +kernel) (by decide +kernel)
set_option maxRecDepth 20000 in
theorem gL_law_X8_begins : GoodIn wsL_law (wsV RL 67 RX8 yX8_begins wsX8_begins) := goodIn_app (goodIn_of _ (by decide +kernel)) ggL_law_X8_begins
set_option maxRecDepth 20000 in
theorem ggL_law_X7_due : GoodIn wsL_law wsX7_due := goodIn_r _ [586, 28, 27, 43, 544, 545, 546, 26, 547, 67, 241, 242, 243, 244, 68, 69, 70, 564, 565, 566, 2, 567, 23, 568, 414, 415, 416, 356, 357, 358, 42, 359, 101, 94, 409, 410, 411, 22, 412, 413, 417, 418, 419, 420, 62, 63, 421, 422, 423, 424, 166, 167, 168, 425, 426, 427, 428, 93, 429, 353, 354, 355, 361, 362, 430, 431, 432, 433, 434, 435, 436, 437, 438, 439, 440, 441, 99, 98, 442, 443, 444, 445, 446, 447, 448, 587, 588, 589, 590, 102, 95, 96, 818, 819, 820, 821, 822, 823, 824, 825, 826, 827, 828, 862, 863, 864, 865, 872, 873, 874, 875, 876, 877, 878, 879, 880, 881, 882, 883, 884, 860, 861] (by decide +kernel) (by decide +kernel)
set_option maxRecDepth 20000 in
theorem gL_law_X7_due : GoodIn wsL_law (wsV RL 68 RX7 yX7_due wsX7_due) := goodIn_app (goodIn_of _ (by decide +kernel)) ggL_law_X7_due
set_option maxRecDepth 20000 in
theorem ggL_law_X8_due : GoodIn wsL_law wsX8_due := goodIn_r _ [594, 249, 581, 573, 574, 575, 5, 576, 552, 553, 554, 555, 256, 250, 577, 578, 579, 580, 582, 375, 376, 377, 378, 462, 463, 464, 465, 466, 467, 468, 469, 254, 470, 471, 472, 473, 253, 474, 475, 476, 477, 343, 344, 345, 346, 478, 479, 480, 481, 379, 380, 381, 382, 371, 372, 373, 374, 482, 483, 484, 485, 556, 557, 558, 559, 829, 830, 831, 832, 833, 834, 835, 836, 837, 838, 839, 840, 841, 842, 843, 844, 845, 846, 847, 848, 849, 850, 851, 852] (by decide +kernel) (by decide +kernel)
set_option maxRecDepth 20000 in
theorem gL_law_X8_due : GoodIn wsL_law (wsV RL 71 RX8 yX8_due wsX8_due) := goodIn_app (goodIn_of _ (by decide +kernel)) ggL_law_X8_due
