set_option maxRecDepth 20000 in
theorem ggL_law_X7_heir : GoodIn wsL_law wsX7_heir := goodIn_r _ [598, 28, 27, 43, 544, 545, 546, 26, 547, 67, 241, 242, 243, 244, 68, 69, 70, 564, 565, 566, 2, 567, 23, 568, 414, 415, 416, 356, 357, 358, 42, 359, 101, 94, 409, 410, 411, 22, 412, 413, 417, 418, 419, 420, 62, 63, 421, 422, 423, 424, 166, 167, 168, 425, 426, 427, 428, 93, 429, 353, 354, 355, 361, 362, 430, 431, 432, 433, 434, 435, 436, 437, 438, 439, 440, 441, 99, 98, 442, 443, 444, 445, 446, 447, 448, 599, 600, 601, 602, 92, 205, 206, 207, 208, 91, 603, 604, 605, 606, 103, 97, 607, 608, 78, 609, 818, 819, 820, 821, 822, 823, 824, 825, 826, 827, 828, 862, 863, 864, 865, 872, 873, 874, 875, 876, 877, 878, 879, 880, 881, 882, 883, 884, 860, 861] (by decide +kernel) (by decide +kernel)
set_option maxRecDepth 20000 in
theorem gL_law_X7_heir : GoodIn wsL_law (wsV RL 72 RX7 yX7_heir wsX7_heir) := goodIn_app (goodIn_of _ (by decide +kernel)) ggL_law_X7_heir
set_option maxRecDepth 20000 in
theorem ggL_law_X8_heir : GoodIn wsL_law wsX8_heir := goodIn_r _ [613, 582, 249, 573, 574, 575, 5, 576, 552, 553, 554, 555, 256, 250, 577, 578, 579, 580, 581, 375, 376, 377, 378, 462, 463, 464, 465, 466, 467, 468, 469, 254, 470, 471, 472, 473, 253, 474, 475, 476, 477, 343, 344, 345, 346, 478, 479, 480, 481, 379, 380, 381, 382, 371, 372, 373, 374, 482, 483, 484, 485, 556, 557, 558, 559, 614, 615, 616, 829, 830, 831, 832, 833, 834, 835, 836, 837, 838, 839, 840, 841, 842, 843, 844, 845, 846, 847, 848, 849, 850, 851, 852] (by decide +kernel) (by decide +kernel)
set_option maxRecDepth 20000 in
theorem gL_law_X8_heir : GoodIn wsL_law (wsV RL 75 RX8 yX8_heir wsX8_heir) := goodIn_app (goodIn_of _ (by decide +kernel)) ggL_law_X8_heir
set_option maxRecDepth 20000 in
theorem ggL_law_X7_far : GoodIn wsL_law wsX7_far := goodIn_r _ [620, 43, 23, 27, 351, 206, 207, 42, 208, 99, 91, 621, 622, 623, 22, 624, 62, 421, 422, 423, 424, 166, 167, 168, 425, 426, 427, 428, 93, 429, 353, 354, 26, 355, 67, 361, 2, 362, 818, 819, 820, 821, 822, 823, 824, 825, 826, 827, 828, 872, 873, 874, 875, 876, 877, 878, 879, 880, 881, 882, 883, 884, 862, 863, 864, 865, 860, 861] (by decide +kernel) (by decide +kernel)
set_option maxRecDepth 20000 in
theorem gL_law_X7_far : GoodIn wsL_law (wsV RL 76 RX7 yX7_far wsX7_far) := goodIn_app (goodIn_of _ (by decide +kernel)) ggL_law_X7_far
set_option maxRecDepth 20000 in
theorem ggL_law_X8_far : GoodIn wsL_law wsX8_far := goodIn_r _ [628, 253, 367, 368, 369, 5, 370, 343, 344, 345, 346, 249, 279, 280, 281, 474, 475, 476, 477, 250, 478, 479, 480, 481, 379, 380, 381, 382, 371, 372, 373, 374, 829, 830, 831, 832, 833, 834, 835, 836, 837, 838, 839, 840, 841, 842, 843, 844, 845, 846, 847, 848, 849, 850, 851, 852] (by decide +kernel) (by decide +kernel)
set_option maxRecDepth 20000 in
theorem gL_law_X8_far : GoodIn wsL_law (wsV RL 79 RX8 yX8_far wsX8_far) := goodIn_app (goodIn_of _ (by decide +kernel)) ggL_law_X8_far
set_option maxRecDepth 20000 in
theorem ggL_law_X7_layFor : GoodIn wsL_law wsX7_layFor := goodIn_r _ [632, 39, 633, 634, 635, 2, 636, 28, 27, 43, 544, 545, 546, 26, 547, 67, 241, 242, 243, 244, 68, 69, 70, 564, 565, 566, 567, 23, 568, 414, 415, 416, 356, 357, 358, 42, 359, 101, 94, 409, 410, 411, 22, 412, 413, 417, 418, 419, 420, 62, 63, 421, 422, 423, 424, 166, 167, 168, 425, 426, 427, 428, 93, 429, 353, 354, 355, 361, 362, 430, 431, 432, 433, 434, 435, 436, 437, 438, 439, 440, 441, 99, 98, 442, 443, 444, 445, 446, 447, 448, 637, 638, 639, 490, 491, 492, 493, 352, 640, 641, 642, 643, 494, 818, 819, 820, 821, 822, 823, 824, 825, 826, 827, 828, 872, 873, 874, 875, 876, 877, 878, 879, 880, 881, 882, 883, 884, 862, 863, 864, 865, 860, 861] (by decide +kernel) (by decide +kernel)
set_option maxRecDepth 20000 in
theorem gL_law_X7_layFor : GoodIn wsL_law (wsV RL 80 RX7 yX7_layFor wsX7_layFor) := goodIn_app (goodIn_of _ (by decide +kernel)) ggL_law_X7_layFor
set_option maxRecDepth 20000 in
theorem ggL_law_X8_layFor : GoodIn wsL_law wsX8_layFor := goodIn_r _ [647, 453, 648, 649, 650, 279, 280, 5, 281, 651, 652, 653, 654, 250, 552, 553, 554, 555, 256, 655, 656, 657, 658, 577, 578, 579, 580, 581, 582, 375, 376, 377, 378, 249, 462, 463, 464, 465, 466, 467, 468, 469, 254, 470, 471, 472, 473, 253, 474, 475, 476, 477, 343, 344, 345, 346, 478, 479, 480, 481, 379, 380, 381, 382, 371, 372, 373, 374, 482, 483, 484, 485, 556, 557, 558, 559, 659, 660, 661, 662, 829, 830, 831, 832, 833, 834, 835, 836, 837, 838, 839, 840, 841, 842, 843, 844, 845, 846, 847, 848, 849, 850, 851, 852] (by decide +kernel) (by decide +kernel)
set_option maxRecDepth 20000 in
theorem gL_law_X8_layFor : GoodIn wsL_law (wsV RL 84 RX8 yX8_layFor wsX8_layFor) := goodIn_app (goodIn_of _ (by decide +kernel)) ggL_law_X8_layFor
set_option maxRecDepth 20000 in
theorem ggL_law_X7_decides : GoodIn wsL_law wsX7_decides := goodIn_r _ [666, 28, 27, 43, 544, 545, 546, 26, 547, 67, 241, 242, 243, 244, 68, 69, 70, 564, 565, 566, 2, 567, 23, 568, 414, 415, 416, 356, 357, 358, 42, 359, 101, 94, 409, 410, 411, 22, 412, 413, 417, 418, 419, 420, 62, 63, 421, 422, 423, 424, 166, 167, 168, 425, 426, 427, 428, 93, 429, 353, 354, 355, 361, 362, 430, 431, 432, 433, 434, 435, 436, 437, 438, 439, 440, 441, 99, 98, 442, 443, 444, 445, 446, 447, 448, 352, 494, 818, 819, 820, 821, 822, 823, 824, 825, 826, 827, 828, 872, 873, 874, 875, 876, 877, 878, 879, 880, 881, 882, 883, 884, 862, 863, 864, 865, 860, 861] (by decide +kernel) (by decide +kernel)
set_option maxRecDepth 20000 in
theorem gL_law_X7_decides : GoodIn wsL_law (wsV RL 85 RX7 yX7_decides wsX7_decides) := goodIn_app (goodIn_of _ (by decide +kernel)) ggL_law_X7_decides
set_option maxRecDepth 20000 in
theorem ggL_law_X8_decides : GoodIn wsL_law wsX8_decides := goodIn_r _ [670, 250, 573, 574, 575, 5, 576, 552, 553, 554, 555, 256, 577, 578, 579, 580, 581, 582, 375, 376, 377, 378, 249, 462, 463, 464, 465, 466, 467, 468, 469, 254, 470, 471, 472, 473, 253, 474, 475, 476, 477, 343, 344, 345, 346, 478, 479, 480, 481, 379, 380, 381, 382, 371, 372, 373, 374, 482, 483, 484, 485, 556, 557, 558, 559, 829, 830, 831, 832, 833, 834, 835, 836, 837, 838, 839, 840, 841, 842, 843, 844, 845, 846, 847, 848, 849, 850, 851, 852] (by decide +kernel) (by decide +kernel)
set_option maxRecDepth 20000 in
theorem gL_law_X8_decides : GoodIn wsL_law (wsV RL 88 RX8 yX8_decides wsX8_decides) := goodIn_app (goodIn_of _ (by decide +kernel)) ggL_law_X8_decides
set_option maxRecDepth 20000 in
theorem ggL_law_X7_latest : GoodIn wsL_law wsX7_latest := goodIn_r _ [674, 43, 28, 27, 490, 491, 492, 2, 493, 352, 353, 354, 26, 355, 67, 544, 545, 546, 547, 241, 242, 243, 244, 68, 69, 70, 494, 446, 447, 448, 564, 565, 566, 567, 23, 568, 414, 415, 416, 356, 357, 358, 42, 359, 101, 94, 409, 410, 411, 22, 412, 413, 417, 418, 419, 420, 62, 63, 421, 422, 423, 424, 166, 167, 168, 425, 426, 427, 428, 93, 429, 361, 362, 430, 431, 432, 433, 434, 435, 436, 437, 438, 439, 440, 441, 99, 98, 442, 443, 444, 445, 818, 819, 820, 821, 822, 823, 824, 825, 826, 827, 828, 872, 873, 874, 875, 876, 877, 878, 879, 880, 881, 882, 883, 884, 862, 863, 864, 865, 860, 861] (by decide +kernel) (by decide +kernel)
set_option maxRecDepth 20000 in
theorem gL_law_X7_latest : GoodIn wsL_law (wsV RL 89 RX7 yX7_latest wsX7_latest) := goodIn_app (goodIn_of _ (by decide +kernel)) ggL_law_X7_latest
set_option maxRecDepth 20000 in
theorem ggL_law_X8_latest : GoodIn wsL_law wsX8_latest := goodIn_r _ [678, 250, 279, 280, 5, 281, 552, 553, 554, 555, 256, 343, 344, 345, 346, 249, 659, 660, 661, 662, 371, 372, 373, 374, 577, 578, 579, 580, 581, 582, 375, 376, 377, 378, 462, 463, 464, 465, 466, 467, 468, 469, 254, 470, 471, 472, 473, 253, 474, 475, 476, 477, 478, 479, 480, 481, 379, 380, 381, 382, 482, 483, 484, 485, 556, 557, 558, 559, 829, 830, 831, 832, 833, 834, 835, 836, 837, 838, 839, 840, 841, 842, 843, 844, 845, 846, 847, 848, 849, 850, 851, 852] (by decide +kernel) (by decide +kernel)
set_option maxRecDepth 20000 in
theorem gL_law_X8_latest : GoodIn wsL_law (wsV RL 92 RX8 yX8_latest wsX8_latest) := goodIn_app (goodIn_of _ (by decide +kernel)) ggL_law_X8_latest
set_option maxRecDepth 20000 in
theorem ggL_law_X7_seen : GoodIn wsL_law wsX7_seen := goodIn_r _ [682, 43, 37, 351, 206, 207, 42, 208, 99, 91, 683, 684, 685, 36, 686, 87, 85, 86, 818, 819, 820, 821, 822, 823, 824, 825, 826, 827, 828, 869, 870, 871, 872, 873, 874, 875, 876, 877, 878, 879, 880, 881, 882, 883, 884] (by decide +kernel) (by decide +kernel)
set_option maxRecDepth 20000 in
theorem gL_law_X7_seen : GoodIn wsL_law (wsV RL 93 RX7 yX7_seen wsX7_seen) := goodIn_app (goodIn_of _ (by decide +kernel)) ggL_law_X7_seen
set_option maxRecDepth 20000 in
theorem ggL_law_X8_seen : GoodIn wsL_law wsX8_seen := goodIn_r _ [690, 453, 339, 257, 258, 367, 368, 369, 5, 370, 343, 344, 345, 346, 249, 279, 280, 281, 829, 830, 831, 832, 833, 834, 835, 836, 837, 838, 839, 840, 841, 842, 843, 844, 845, 846, 847, 848, 849, 850, 851, 852] (by decide +kernel) (by decide +kernel)
set_option maxRecDepth 20000 in
theorem gL_law_X8_seen : GoodIn wsL_law (wsV RL 96 RX8 yX8_seen wsX8_seen) := goodIn_app (goodIn_of _ (by decide +kernel)) ggL_law_X8_seen
set_option maxRecDepth 20000 in
theorem ggL_law_X7_forget : GoodIn wsL_law wsX7_forget := goodIn_r _ [694, 37, 818, 819, 820, 821, 822, 823, 824, 825, 826, 827, 828, 869, 870, 871] (by decide +kernel) (by decide +kernel)
set_option maxRecDepth 20000 in
theorem gL_law_X7_forget : GoodIn wsL_law (wsV RL 97 RX7 yX7_forget wsX7_forget) := goodIn_app (goodIn_of _ (by decide +kernel)) ggL_law_X7_forget
set_option maxRecDepth 20000 in
theorem ggL_law_X8_forget : GoodIn wsL_law wsX8_forget := goodIn_r _ [698, 339, 829, 830, 831, 832, 833, 834, 835, 836, 837, 838, 839, 840, 841, 842, 843, 844, 845, 846, 847, 848, 849, 850, 851, 852] (by decide +kernel) (by decide +kernel)
set_option maxRecDepth 20000 in
theorem gL_law_X8_forget : GoodIn wsL_law (wsV RL 100 RX8 yX8_forget wsX8_forget) := goodIn_app (goodIn_of _ (by decide +kernel)) ggL_law_X8_forget
set_option maxRecDepth 20000 in
theorem ggL_law_X7_salter : GoodIn wsL_law wsX7_salter := goodIn_r _ [702, 43, 703, 704, 705, 2, 706, 28, 37, 23, 237, 238, 239, 26, 240, 67, 241, 242, 243, 244, 68, 69, 70, 494, 446, 447, 448, 707, 708, 709, 36, 710, 87, 86, 85, 356, 357, 358, 42, 359, 101, 94, 409, 410, 411, 22, 412, 413, 414, 415, 416, 417, 418, 419, 420, 62, 63, 421, 422, 423, 424, 166, 167, 168, 425, 426, 427, 428, 93, 429, 353, 354, 355, 361, 362, 430, 431, 432, 433, 434, 435, 436, 437, 438, 439, 440, 441, 99, 98, 442, 443, 444, 445, 711, 712, 713, 714, 91, 205, 206, 207, 208, 818, 819, 820, 821, 822, 823, 824, 825, 826, 827, 828, 872, 873, 874, 875, 876, 877, 878, 879, 880, 881, 882, 883, 884, 862, 863, 864, 865, 869, 870, 871, 860, 861] (by decide +kernel) (by decide +kernel)
set_option maxRecDepth 20000 in
theorem gL_law_X7_salter : GoodIn wsL_law (wsV RL 101 RX7 yX7_salter wsX7_salter) := goodIn_app (goodIn_of _ (by decide +kernel)) ggL_law_X7_salter
