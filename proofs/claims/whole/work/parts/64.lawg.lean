set_option maxRecDepth 20000 in
theorem ggL_law_X8_salter : GoodIn wsL_law wsX8_salter := goodIn_r _ [718, 249, 250, 279, 280, 5, 281, 552, 553, 554, 555, 256, 264, 265, 266, 267, 719, 720, 721, 722, 339, 258, 257, 375, 376, 377, 378, 462, 463, 464, 465, 466, 467, 468, 469, 254, 470, 471, 472, 473, 253, 474, 475, 476, 477, 343, 344, 345, 346, 478, 479, 480, 481, 379, 380, 381, 382, 371, 372, 373, 374, 482, 483, 484, 485, 556, 557, 558, 559, 829, 830, 831, 832, 833, 834, 835, 836, 837, 838, 839, 840, 841, 842, 843, 844, 845, 846, 847, 848, 849, 850, 851, 852] (by decide +kernel) (by decide +kernel)
set_option maxRecDepth 20000 in
theorem gL_law_X8_salter : GoodIn wsL_law (wsV RL 104 RX8 yX8_salter wsX8_salter) := goodIn_app (goodIn_of _ (by decide +kernel)) ggL_law_X8_salter
set_option maxRecDepth 20000 in
theorem ggL_law_X7_slept : GoodIn wsL_law wsX7_slept := goodIn_r _ [726, 28, 43, 23, 237, 238, 239, 26, 240, 67, 241, 242, 243, 244, 68, 69, 70, 356, 357, 358, 42, 359, 101, 94, 409, 410, 411, 22, 412, 413, 414, 415, 416, 417, 418, 419, 420, 62, 63, 421, 422, 423, 424, 166, 167, 168, 425, 426, 427, 428, 93, 429, 353, 354, 355, 361, 2, 362, 430, 431, 432, 433, 434, 435, 436, 437, 438, 439, 440, 441, 99, 98, 442, 443, 444, 445, 446, 447, 448, 818, 819, 820, 821, 822, 823, 824, 825, 826, 827, 828, 872, 873, 874, 875, 876, 877, 878, 879, 880, 881, 882, 883, 884, 862, 863, 864, 865, 860, 861] (by decide +kernel) (by decide +kernel)
set_option maxRecDepth 20000 in
theorem gL_law_X7_slept : GoodIn wsL_law (wsV RL 105 RX7 yX7_slept wsX7_slept) := goodIn_app (goodIn_of _ (by decide +kernel)) ggL_law_X7_slept
set_option maxRecDepth 20000 in
theorem ggL_law_X8_slept : GoodIn wsL_law wsX8_slept := goodIn_r _ [730, 552, 553, 554, 5, 555, 256, 250, 264, 265, 266, 267, 249, 375, 376, 377, 378, 462, 463, 464, 465, 466, 467, 468, 469, 254, 470, 471, 472, 473, 253, 474, 475, 476, 477, 343, 344, 345, 346, 478, 479, 480, 481, 379, 380, 381, 382, 371, 372, 373, 374, 482, 483, 484, 485, 556, 557, 558, 559, 829, 830, 831, 832, 833, 834, 835, 836, 837, 838, 839, 840, 841, 842, 843, 844, 845, 846, 847, 848, 849, 850, 851, 852] (by decide +kernel) (by decide +kernel)
set_option maxRecDepth 20000 in
theorem gL_law_X8_slept : GoodIn wsL_law (wsV RL 108 RX8 yX8_slept wsX8_slept) := goodIn_app (goodIn_of _ (by decide +kernel)) ggL_law_X8_slept
set_option maxRecDepth 20000 in
theorem ggL_law_X7_likely : GoodIn wsL_law wsX7_likely := goodIn_r _ [734, 735, 77, 78, 79, 736, 737, 2, 738, 739, 740, 741, 742, 28, 27, 23, 43, 544, 545, 546, 26, 547, 67, 241, 242, 243, 244, 68, 69, 70, 568, 414, 415, 416, 743, 744, 745, 746, 747, 748, 409, 410, 411, 22, 412, 413, 417, 418, 419, 420, 62, 63, 421, 422, 423, 424, 166, 167, 168, 425, 426, 427, 42, 428, 93, 429, 353, 354, 355, 361, 362, 430, 431, 432, 433, 434, 435, 436, 437, 438, 439, 440, 441, 99, 98, 442, 443, 444, 445, 446, 447, 448, 749, 750, 751, 818, 819, 820, 821, 822, 823, 824, 825, 826, 827, 828, 862, 863, 864, 865, 860, 861, 872, 873, 874, 875, 876, 877, 878, 879, 880, 881, 882, 883, 884] (by decide +kernel) (by decide +kernel)
set_option maxRecDepth 20000 in
theorem gL_law_X7_likely : GoodIn wsL_law (wsV RL 109 RX7 yX7_likely wsX7_likely) := goodIn_app (goodIn_of _ (by decide +kernel)) ggL_law_X7_likely
set_option maxRecDepth 20000 in
theorem ggL_law_X8_likely : GoodIn wsL_law wsX8_likely := goodIn_r _ [755, 756, 757, 758, 759, 279, 280, 5, 281, 760, 761, 762, 763, 250, 552, 553, 554, 555, 256, 462, 463, 464, 465, 249, 466, 467, 468, 469, 254, 470, 471, 472, 473, 253, 474, 475, 476, 477, 343, 344, 345, 346, 478, 479, 480, 481, 379, 380, 381, 382, 371, 372, 373, 374, 482, 483, 484, 485, 556, 557, 558, 559, 829, 830, 831, 832, 833, 834, 835, 836, 837, 838, 839, 840, 841, 842, 843, 844, 845, 846, 847, 848, 849, 850, 851, 852] (by decide +kernel) (by decide +kernel)
set_option maxRecDepth 20000 in
theorem gL_law_X8_likely : GoodIn wsL_law (wsV RL 112 RX8 yX8_likely wsX8_likely) := goodIn_app (goodIn_of _ (by decide +kernel)) ggL_law_X8_likely
set_option maxRecDepth 20000 in
theorem ggL_law_X7_bet : GoodIn wsL_law wsX7_bet := goodIn_r _ [767, 736, 737, 2, 738, 739, 740, 741, 742, 28, 27, 23, 43, 544, 545, 546, 26, 547, 67, 241, 242, 243, 244, 68, 69, 70, 568, 414, 415, 416, 743, 744, 745, 746, 747, 748, 409, 410, 411, 22, 412, 413, 417, 418, 419, 420, 62, 63, 421, 422, 423, 424, 166, 167, 168, 425, 426, 427, 42, 428, 93, 429, 353, 354, 355, 361, 362, 430, 431, 432, 433, 434, 435, 436, 437, 438, 439, 440, 441, 99, 98, 442, 443, 444, 445, 446, 447, 448, 818, 819, 820, 821, 822, 823, 824, 825, 826, 827, 828, 862, 863, 864, 865, 860, 861, 872, 873, 874, 875, 876, 877, 878, 879, 880, 881, 882, 883, 884] (by decide +kernel) (by decide +kernel)
set_option maxRecDepth 20000 in
theorem gL_law_X7_bet : GoodIn wsL_law (wsV RL 113 RX7 yX7_bet wsX7_bet) := goodIn_app (goodIn_of _ (by decide +kernel)) ggL_law_X7_bet
set_option maxRecDepth 20000 in
theorem ggL_law_X8_bet : GoodIn wsL_law wsX8_bet := goodIn_r _ [771, 756, 757, 758, 759, 279, 280, 5, 281, 760, 761, 762, 763, 250, 552, 553, 554, 555, 256, 462, 463, 464, 465, 249, 466, 467, 468, 469, 254, 470, 471, 472, 473, 253, 474, 475, 476, 477, 343, 344, 345, 346, 478, 479, 480, 481, 379, 380, 381, 382, 371, 372, 373, 374, 482, 483, 484, 485, 556, 557, 558, 559, 829, 830, 831, 832, 833, 834, 835, 836, 837, 838, 839, 840, 841, 842, 843, 844, 845, 846, 847, 848, 849, 850, 851, 852] (by decide +kernel) (by decide +kernel)
set_option maxRecDepth 20000 in
theorem gL_law_X8_bet : GoodIn wsL_law (wsV RL 116 RX8 yX8_bet wsX8_bet) := goodIn_app (goodIn_of _ (by decide +kernel)) ggL_law_X8_bet
set_option maxRecDepth 20000 in
theorem ggL_law_X7_year : GoodIn wsL_law wsX7_year := goodIn_r _ [775, 28, 27, 23, 43, 544, 545, 546, 26, 547, 67, 241, 242, 243, 244, 68, 69, 70, 568, 414, 415, 416, 776, 777, 2, 778, 779, 780, 781, 782, 783, 409, 410, 411, 22, 412, 413, 417, 418, 419, 420, 62, 63, 421, 422, 423, 424, 166, 167, 168, 425, 426, 427, 42, 428, 93, 429, 353, 354, 355, 361, 362, 430, 431, 432, 433, 434, 435, 436, 437, 438, 439, 440, 441, 99, 98, 442, 443, 444, 445, 446, 447, 448, 818, 819, 820, 821, 822, 823, 824, 825, 826, 827, 828, 862, 863, 864, 865, 860, 861, 872, 873, 874, 875, 876, 877, 878, 879, 880, 881, 882, 883, 884] (by decide +kernel) (by decide +kernel)
set_option maxRecDepth 20000 in
theorem gL_law_X7_year : GoodIn wsL_law (wsV RL 117 RX7 yX7_year wsX7_year) := goodIn_app (goodIn_of _ (by decide +kernel)) ggL_law_X7_year
set_option maxRecDepth 20000 in
theorem ggL_law_X8_year : GoodIn wsL_law wsX8_year := goodIn_r _ [787, 788, 250, 789, 790, 791, 792, 793, 279, 280, 5, 281, 552, 553, 554, 555, 256, 462, 463, 464, 465, 249, 466, 467, 468, 469, 254, 470, 471, 472, 473, 253, 474, 475, 476, 477, 343, 344, 345, 346, 478, 479, 480, 481, 379, 380, 381, 382, 371, 372, 373, 374, 482, 483, 484, 485, 556, 557, 558, 559, 829, 830, 831, 832, 833, 834, 835, 836, 837, 838, 839, 840, 841, 842, 843, 844, 845, 846, 847, 848, 849, 850, 851, 852] (by decide +kernel) (by decide +kernel)
set_option maxRecDepth 20000 in
theorem gL_law_X8_year : GoodIn wsL_law (wsV RL 120 RX8 yX8_year wsX8_year) := goodIn_app (goodIn_of _ (by decide +kernel)) ggL_law_X8_year
set_option maxRecDepth 20000 in
theorem ggL_law_X7_keep : GoodIn wsL_law wsX7_keep := goodIn_r _ [797, 33, 27, 396, 397, 398, 31, 399, 75, 80, 81, 400, 242, 243, 244, 401, 402, 403, 26, 404, 67, 241, 68, 69, 70, 818, 819, 820, 821, 822, 823, 824, 825, 826, 827, 828, 866, 867, 868, 862, 863, 864, 865] (by decide +kernel) (by decide +kernel)
set_option maxRecDepth 20000 in
theorem gL_law_X7_keep : GoodIn wsL_law (wsV RL 121 RX7 yX7_keep wsX7_keep) := goodIn_app (goodIn_of _ (by decide +kernel)) ggL_law_X7_keep
set_option maxRecDepth 20000 in
theorem ggL_law_X8_keep : GoodIn wsL_law wsX8_keep := goodIn_r _ [801, 341, 259, 250, 829, 830, 831, 832, 833, 834, 835, 836, 837, 838, 839, 840, 841, 842, 843, 844, 845, 846, 847, 848, 849, 850, 851, 852] (by decide +kernel) (by decide +kernel)
set_option maxRecDepth 20000 in
theorem gL_law_X8_keep : GoodIn wsL_law (wsV RL 124 RX8 yX8_keep wsX8_keep) := goodIn_app (goodIn_of _ (by decide +kernel)) ggL_law_X8_keep
set_option maxRecDepth 20000 in
theorem ggL_law_X7_back : GoodIn wsL_law wsX7_back := goodIn_r _ [805, 33, 27, 32, 528, 529, 530, 31, 531, 75, 81, 532, 533, 534, 26, 535, 67, 241, 242, 243, 244, 68, 69, 70, 818, 819, 820, 821, 822, 823, 824, 825, 826, 827, 828, 866, 867, 868, 862, 863, 864, 865] (by decide +kernel) (by decide +kernel)
set_option maxRecDepth 20000 in
theorem gL_law_X7_back : GoodIn wsL_law (wsV RL 125 RX7 yX7_back wsX7_back) := goodIn_app (goodIn_of _ (by decide +kernel)) ggL_law_X7_back
set_option maxRecDepth 20000 in
theorem ggL_law_X8_back : GoodIn wsL_law wsX8_back := goodIn_r _ [809, 341, 250, 259, 340, 829, 830, 831, 832, 833, 834, 835, 836, 837, 838, 839, 840, 841, 842, 843, 844, 845, 846, 847, 848, 849, 850, 851, 852] (by decide +kernel) (by decide +kernel)
set_option maxRecDepth 20000 in
theorem gL_law_X8_back : GoodIn wsL_law (wsV RL 128 RX8 yX8_back wsX8_back) := goodIn_app (goodIn_of _ (by decide +kernel)) ggL_law_X8_back
set_option maxRecDepth 20000 in
theorem ggL_law_X7_count : GoodIn wsL_law wsX7_count := goodIn_r _ [813, 43, 27, 37, 32, 33, 15, 495, 496, 497, 26, 498, 499, 353, 354, 355, 67, 818, 819, 820, 821, 822, 823, 824, 825, 826, 827, 828, 872, 873, 874, 875, 876, 877, 878, 879, 880, 881, 882, 883, 884, 862, 863, 864, 865, 869, 870, 871, 866, 867, 868, 853, 854] (by decide +kernel) (by decide +kernel)
set_option maxRecDepth 20000 in
theorem gL_law_X7_count : GoodIn wsL_law (wsV RL 129 RX7 yX7_count wsX7_count) := goodIn_app (goodIn_of _ (by decide +kernel)) ggL_law_X7_count
set_option maxRecDepth 20000 in
theorem ggL_law_X8_count : GoodIn wsL_law wsX8_count := goodIn_r _ [817, 249, 250, 339, 340, 341, 278, 343, 344, 345, 5, 346, 504, 505, 506, 507, 371, 372, 373, 374, 829, 830, 831, 832, 833, 834, 835, 836, 837, 838, 839, 840, 841, 842, 843, 844, 845, 846, 847, 848, 849, 850, 851, 852] (by decide +kernel) (by decide +kernel)
set_option maxRecDepth 20000 in
theorem gL_law_X8_count : GoodIn wsL_law (wsV RL 132 RX8 yX8_count wsX8_count) := goodIn_app (goodIn_of _ (by decide +kernel)) ggL_law_X8_count
