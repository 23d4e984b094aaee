/-! the worlds between calls (by program) -/
def iC3 : IT := ([(0, 4000), (0, 800), (0, 4000), (0, 1), (0, 4000), (0, 15), (1, 256), (1, 4), (0, 800), (0, 6400), ((-1), 800), (0, 1000000), (0, 288), (0, 32), (0, 19), (0, 320), (0, 288), (0, 32), (0, 1600), (0, 258), (0, 1600), ((-2147483648), 2147483647), ((-2147483648), 2147483647)], [(0, [((-1), 2), (1, 4)])], [some (.inr (8, [some (.inr (.inl (0, [(1, 0)]))), some (.inl 1), some (.inr (.inl (0, [(1, 1)]))), some (.inl 2), some (.inr (.inl (0, [(1, 2)]))), some (.inl 3), some (.inl 4), some (.inr (.inl (0, [(1, 3)]))), some (.inl 5), some (.inl 6), some (.inl 8), some (.inl 31), some (.inl 45), some (.inl 47)])), some (.inl (1, (800, []), (-128), 127, none)), some (.inl (1, (0, [(1, 4)]), (-128), 127, none)), some (.inl (1, (0, [(1, 4)]), (-128), 127, none)), some (.inl (1, (1600, []), (-128), 127, none)), some (.inr (5, [some (.inr (.inl (0, [(1, 5)]))), some (.inr (.inl (0, [(1, 6)]))), some (.inr (.inl (0, [(1, 7)])))])), some (.inr (7, [none, some (.inr (.inl (0, [(1, 8)]))), some (.inr (.inl (0, [(1, 9)]))), some (.inr (.inl (0, [(1, 10)])))])), none, some (.inr (6, [none, some (.inr (.inl (0, [(1, 11)])))])), none, some (.inr (0, [some (.inl 11), some (.inl 12), some (.inl 13), some (.inl 14), some (.inl 15), some (.inl 16), some (.inr (.inl (0, [(1, 12)])))])), some (.inl (0, (288, []), 0, 15, none)), some (.inl (0, (288, []), (-2147483648), 2147483647, none)), some (.inl (0, (288, []), 0, 287, none)), some (.inl (0, (16, []), 0, 288, none)), some (.inl (0, (16, []), (-2147483648), 2147483647, none)), some (.inl (0, (16, []), 0, 4896, none)), some (.inr (0, [some (.inl 18), some (.inl 19), some (.inl 20), some (.inl 21), some (.inl 22), some (.inl 23), some (.inr (.inl (0, [(1, 13)])))])), some (.inl (0, (32, []), 0, 15, none)), some (.inl (0, (32, []), (-2147483648), 2147483647, none)), some (.inl (0, (32, []), 0, 31, none)), some (.inl (0, (16, []), 0, 32, none)), some (.inl (0, (16, []), (-2147483648), 2147483647, none)), some (.inl (0, (16, []), 0, 544, none)), some (.inr (0, [some (.inl 25), some (.inl 26), some (.inl 27), some (.inl 28), some (.inl 29), some (.inl 30), some (.inr (.inl (0, [(1, 14)])))])), some (.inl (0, (19, []), 0, 15, none)), some (.inl (0, (19, []), (-2147483648), 2147483647, none)), some (.inl (0, (19, []), 0, 18, none)), some (.inl (0, (16, []), 0, 19, none)), some (.inl (0, (16, []), (-2147483648), 2147483647, none)), some (.inl (0, (16, []), 0, 323, none)), some (.inr (2, [some (.inl 10), some (.inl 17), some (.inl 24), some (.inl 32), some (.inl 37), some (.inl 38), some (.inl 39), some (.inl 40), some (.inl 41), some (.inl 42), some (.inl 43), some (.inl 44), some (.inr (.inl (0, [(1, 15)]))), some (.inr (.inl (0, [(1, 16)]))), some (.inr (.inl (0, [(1, 17)])))])), some (.inr (4, [some (.inl 33), some (.inl 34), some (.inl 35), some (.inl 36), some (.inr (.inl (0, [(1, 18)]))), some (.inr (.inl (0, [(1, 19)]))), some (.inr (.inl (0, [(1, 20)])))])), some (.inl (0, (1600, []), (-2147483648), 2147483647, none)), some (.inl (0, (256, []), (-2147483648), 2147483647, none)), some (.inl (0, (1600, []), 0, 258, none)), some (.inl (0, (1600, []), 0, 1600, none)), some (.inl (0, (288, []), (-2147483648), 2147483647, none)), some (.inl (0, (32, []), (-2147483648), 2147483647, none)), some (.inl (0, (288, []), (-2147483648), 2147483647, none)), some (.inl (0, (288, []), (-2147483648), 2147483647, none)), some (.inl (0, (288, []), (-2147483648), 2147483647, none)), some (.inl (0, (320, []), 0, 15, none)), some (.inl (0, (320, []), 0, 18, none)), some (.inl (0, (320, []), (-2147483648), 2147483647, none)), some (.inr (3, [some (.inl 10), some (.inl 17), some (.inl 24), some (.inl 46), some (.inr (.inl (0, [(1, 21)]))), some (.inr (.inl (0, [(1, 22)]))), none, none])), some (.inl (0, (320, []), 0, 18, none)), some (.inr (1, [some (.inl 48), some (.inl 49), some (.inl 50)])), some (.inl (0, (4096, []), (-2147483648), 2147483647, none)), some (.inl (0, (4096, []), (-2147483648), 2147483647, none)), some (.inl (0, (4096, []), (-2147483648), 2147483647, none))])
def iC2 : IT := ([(0, 4000), (0, 800), (0, 4000), (0, 1), (0, 4000), (0, 15), (1, 256), (1, 4), (0, 800), (0, 6400), ((-1), 800), (0, 1000000), (0, 288), (0, 32), (0, 19), (0, 320), (0, 288), (0, 32), (0, 1600), (0, 258), (0, 1600), ((-2147483648), 2147483647), ((-2147483648), 2147483647)], [(0, [((-1), 2), (1, 4)])], [some (.inr (8, [some (.inr (.inl (0, [(1, 0)]))), some (.inl 1), some (.inr (.inl (0, [(1, 1)]))), some (.inl 3), some (.inr (.inl (0, [(1, 2)]))), some (.inl 2), some (.inl 4), some (.inr (.inl (0, [(1, 3)]))), some (.inl 5), some (.inl 6), some (.inl 8), some (.inl 31), some (.inl 45), some (.inl 47)])), some (.inl (1, (800, []), (-128), 127, none)), some (.inl (1, (0, [(1, 4)]), (-128), 127, none)), some (.inl (1, (0, [(1, 4)]), (-128), 127, none)), some (.inl (1, (1600, []), (-128), 127, none)), some (.inr (5, [some (.inr (.inl (0, [(1, 5)]))), some (.inr (.inl (0, [(1, 6)]))), some (.inr (.inl (0, [(1, 7)])))])), some (.inr (7, [none, some (.inr (.inl (0, [(1, 8)]))), some (.inr (.inl (0, [(1, 9)]))), some (.inr (.inl (0, [(1, 10)])))])), none, some (.inr (6, [none, some (.inr (.inl (0, [(1, 11)])))])), none, some (.inr (0, [some (.inl 11), some (.inl 12), some (.inl 13), some (.inl 14), some (.inl 15), some (.inl 16), some (.inr (.inl (0, [(1, 12)])))])), some (.inl (0, (288, []), 0, 15, none)), some (.inl (0, (288, []), (-2147483648), 2147483647, none)), some (.inl (0, (288, []), 0, 287, none)), some (.inl (0, (16, []), 0, 288, none)), some (.inl (0, (16, []), (-2147483648), 2147483647, none)), some (.inl (0, (16, []), 0, 4896, none)), some (.inr (0, [some (.inl 18), some (.inl 19), some (.inl 20), some (.inl 21), some (.inl 22), some (.inl 23), some (.inr (.inl (0, [(1, 13)])))])), some (.inl (0, (32, []), 0, 15, none)), some (.inl (0, (32, []), (-2147483648), 2147483647, none)), some (.inl (0, (32, []), 0, 31, none)), some (.inl (0, (16, []), 0, 32, none)), some (.inl (0, (16, []), (-2147483648), 2147483647, none)), some (.inl (0, (16, []), 0, 544, none)), some (.inr (0, [some (.inl 25), some (.inl 26), some (.inl 27), some (.inl 28), some (.inl 29), some (.inl 30), some (.inr (.inl (0, [(1, 14)])))])), some (.inl (0, (19, []), 0, 15, none)), some (.inl (0, (19, []), (-2147483648), 2147483647, none)), some (.inl (0, (19, []), 0, 18, none)), some (.inl (0, (16, []), 0, 19, none)), some (.inl (0, (16, []), (-2147483648), 2147483647, none)), some (.inl (0, (16, []), 0, 323, none)), some (.inr (2, [some (.inl 10), some (.inl 17), some (.inl 24), some (.inl 32), some (.inl 37), some (.inl 38), some (.inl 39), some (.inl 40), some (.inl 41), some (.inl 42), some (.inl 43), some (.inl 44), some (.inr (.inl (0, [(1, 15)]))), some (.inr (.inl (0, [(1, 16)]))), some (.inr (.inl (0, [(1, 17)])))])), some (.inr (4, [some (.inl 33), some (.inl 34), some (.inl 35), some (.inl 36), some (.inr (.inl (0, [(1, 18)]))), some (.inr (.inl (0, [(1, 19)]))), some (.inr (.inl (0, [(1, 20)])))])), some (.inl (0, (1600, []), (-2147483648), 2147483647, none)), some (.inl (0, (256, []), (-2147483648), 2147483647, none)), some (.inl (0, (1600, []), 0, 258, none)), some (.inl (0, (1600, []), 0, 1600, none)), some (.inl (0, (288, []), (-2147483648), 2147483647, none)), some (.inl (0, (32, []), (-2147483648), 2147483647, none)), some (.inl (0, (288, []), (-2147483648), 2147483647, none)), some (.inl (0, (288, []), (-2147483648), 2147483647, none)), some (.inl (0, (288, []), (-2147483648), 2147483647, none)), some (.inl (0, (320, []), 0, 15, none)), some (.inl (0, (320, []), 0, 18, none)), some (.inl (0, (320, []), (-2147483648), 2147483647, none)), some (.inr (3, [some (.inl 10), some (.inl 17), some (.inl 24), some (.inl 46), some (.inr (.inl (0, [(1, 21)]))), some (.inr (.inl (0, [(1, 22)]))), none, none])), some (.inl (0, (320, []), 0, 18, none)), some (.inr (1, [some (.inl 48), some (.inl 49), some (.inl 50)])), some (.inl (0, (4096, []), (-2147483648), 2147483647, none)), some (.inl (0, (4096, []), (-2147483648), 2147483647, none)), some (.inl (0, (4096, []), (-2147483648), 2147483647, none))])
def iM0 : IT := ([(0, 2), (0, 4000), (0, 800), (0, 4000), (0, 1), (0, 0), (0, 4), (0, 8), (0, 64), (0, 1600), (0, 8000), (0, 8000), (0, 1), ((-2147483648), 2147483647), (0, 7), (0, 1700), (0, 258), (0, 1600), (0, 340), ((-1), 8000), (0, 802), (0, 8)], [], [some (.inr (9, [some (.inr (.inl (0, [(1, 0)]))), some (.inr (.inl (0, [(1, 1)]))), some (.inr (.inl (0, [(1, 2)]))), some (.inl 1), some (.inr (.inl (0, [(1, 3)]))), some (.inl 2), some (.inr (.inl (0, [(1, 4)]))), some (.inr (.inl (0, [(1, 5)]))), some (.inr (.inl (0, [(1, 6)]))), some (.inr (.inl (0, [(1, 7)]))), some (.inr (.inl (0, [(1, 8)]))), some (.inr (.inl (0, [(1, 9)]))), some (.inl 3), some (.inr (.inl (0, [(1, 10)]))), some (.inl 4), some (.inr (.inl (0, [(1, 11)]))), some (.inl 5), some (.inr (.inl (0, [(1, 12)]))), some (.inr (.inl (0, [(1, 13)]))), some (.inr (.inl (0, [(1, 14)]))), some (.inr (.inl (0, [(1, 15)]))), some (.inl 6), some (.inl 7), some (.inr (.inl (0, [(1, 16)]))), some (.inr (.inl (0, [(1, 17)]))), some (.inl 8), some (.inl 9), some (.inl 10), some (.inl 11), some (.inl 12), some (.inl 13), some (.inl 14), some (.inr (.inl (0, [(1, 18)]))), some (.inl 15), some (.inl 16), some (.inr (.inl (0, [(1, 19)]))), some (.inr (.inl (0, [(1, 20)]))), some (.inr (.inl (0, [(1, 21)]))), some (.inl 17), some (.inl 18)])), some (.inl (0, (800, []), 0, 255, none)), some (.inl (0, (8000, []), 0, 255, none)), some (.inl (0, (8000, []), 0, 255, none)), some (.inl (0, (8000, []), 0, 255, none)), some (.inl (0, (8000, []), 0, 255, none)), some (.inl (0, (1700, []), 0, 258, none)), some (.inl (0, (1700, []), 0, 1600, none)), some (.inl (0, (960, []), 0, 2147483647, none)), some (.inl (0, (960, []), 0, 28, none)), some (.inl (0, (960, []), (-2147483648), 2147483647, none)), some (.inl (0, (640, []), 0, 2147483647, none)), some (.inl (0, (640, []), 0, 640, none)), some (.inl (0, (640, []), (-1), 639, none)), some (.inl (0, (340, []), 0, 28, none)), some (.inl (0, (340, []), 0, 28, none)), some (.inl (0, (340, []), 0, 138, none)), some (.inl (0, (4096, []), 0, 4000, none)), some (.inl (0, (4096, []), 0, 4001, none))])
def iM2 : IT := ([(0, 2), (0, 4000), (0, 800), (0, 4000), (0, 1), (2, 2), (1, 4), (1, 8), (1, 64), (0, 1600), (0, 8000), (0, 8000), (0, 1), ((-2147483648), 2147483647), (0, 7), (0, 1700), (0, 258), (0, 1600), (0, 340), ((-1), 8000), (0, 802), (0, 8)], [], [some (.inr (9, [some (.inr (.inl (0, [(1, 0)]))), some (.inr (.inl (0, [(1, 1)]))), some (.inr (.inl (0, [(1, 2)]))), some (.inl 1), some (.inr (.inl (0, [(1, 3)]))), some (.inl 2), some (.inr (.inl (0, [(1, 4)]))), some (.inr (.inl (0, [(1, 5)]))), some (.inr (.inl (0, [(1, 6)]))), some (.inr (.inl (0, [(1, 7)]))), some (.inr (.inl (0, [(1, 8)]))), some (.inr (.inl (0, [(1, 9)]))), some (.inl 3), some (.inr (.inl (0, [(1, 10)]))), some (.inl 4), some (.inr (.inl (0, [(1, 11)]))), some (.inl 5), some (.inr (.inl (0, [(1, 12)]))), some (.inr (.inl (0, [(1, 13)]))), some (.inr (.inl (0, [(1, 14)]))), some (.inr (.inl (0, [(1, 15)]))), some (.inl 6), some (.inl 7), some (.inr (.inl (0, [(1, 16)]))), some (.inr (.inl (0, [(1, 17)]))), some (.inl 8), some (.inl 9), some (.inl 10), some (.inl 11), some (.inl 12), some (.inl 13), some (.inl 14), some (.inr (.inl (0, [(1, 18)]))), some (.inl 15), some (.inl 16), some (.inr (.inl (0, [(1, 19)]))), some (.inr (.inl (0, [(1, 20)]))), some (.inr (.inl (0, [(1, 21)]))), some (.inl 17), some (.inl 18)])), some (.inl (0, (800, []), 0, 255, none)), some (.inl (0, (8000, []), 0, 255, none)), some (.inl (0, (8000, []), 0, 255, none)), some (.inl (0, (8000, []), 0, 255, none)), some (.inl (0, (8000, []), 0, 255, none)), some (.inl (0, (1700, []), 0, 258, none)), some (.inl (0, (1700, []), 0, 1600, none)), some (.inl (0, (960, []), 0, 2147483647, none)), some (.inl (0, (960, []), 0, 28, none)), some (.inl (0, (960, []), (-2147483648), 2147483647, none)), some (.inl (0, (640, []), 0, 2147483647, none)), some (.inl (0, (640, []), 0, 640, none)), some (.inl (0, (640, []), (-1), 639, none)), some (.inl (0, (340, []), 0, 28, none)), some (.inl (0, (340, []), 0, 28, none)), some (.inl (0, (340, []), 0, 138, none)), some (.inl (0, (4096, []), 0, 4000, none)), some (.inl (0, (4096, []), 0, 4001, none))])
def iM10 : IT := ([(0, 2), (0, 4000), (0, 800), (0, 4000), (0, 1), (10, 15), (1, 4), (1, 8), (1, 64), (0, 1600), (0, 8000), (0, 8000), (0, 1), ((-2147483648), 2147483647), (0, 7), (0, 1700), (0, 258), (0, 1600), (0, 340), ((-1), 8000), (0, 802), (0, 8)], [], [some (.inr (9, [some (.inr (.inl (0, [(1, 0)]))), some (.inr (.inl (0, [(1, 1)]))), some (.inr (.inl (0, [(1, 2)]))), some (.inl 1), some (.inr (.inl (0, [(1, 3)]))), some (.inl 2), some (.inr (.inl (0, [(1, 4)]))), some (.inr (.inl (0, [(1, 5)]))), some (.inr (.inl (0, [(1, 6)]))), some (.inr (.inl (0, [(1, 7)]))), some (.inr (.inl (0, [(1, 8)]))), some (.inr (.inl (0, [(1, 9)]))), some (.inl 3), some (.inr (.inl (0, [(1, 10)]))), some (.inl 4), some (.inr (.inl (0, [(1, 11)]))), some (.inl 5), some (.inr (.inl (0, [(1, 12)]))), some (.inr (.inl (0, [(1, 13)]))), some (.inr (.inl (0, [(1, 14)]))), some (.inr (.inl (0, [(1, 15)]))), some (.inl 6), some (.inl 7), some (.inr (.inl (0, [(1, 16)]))), some (.inr (.inl (0, [(1, 17)]))), some (.inl 8), some (.inl 9), some (.inl 10), some (.inl 11), some (.inl 12), some (.inl 13), some (.inl 14), some (.inr (.inl (0, [(1, 18)]))), some (.inl 15), some (.inl 16), some (.inr (.inl (0, [(1, 19)]))), some (.inr (.inl (0, [(1, 20)]))), some (.inr (.inl (0, [(1, 21)]))), some (.inl 17), some (.inl 18)])), some (.inl (0, (800, []), 0, 255, none)), some (.inl (0, (8000, []), 0, 255, none)), some (.inl (0, (8000, []), 0, 255, none)), some (.inl (0, (8000, []), 0, 255, none)), some (.inl (0, (8000, []), 0, 255, none)), some (.inl (0, (1700, []), 0, 258, none)), some (.inl (0, (1700, []), 0, 1600, none)), some (.inl (0, (960, []), 0, 2147483647, none)), some (.inl (0, (960, []), 0, 28, none)), some (.inl (0, (960, []), (-2147483648), 2147483647, none)), some (.inl (0, (640, []), 0, 2147483647, none)), some (.inl (0, (640, []), 0, 640, none)), some (.inl (0, (640, []), (-1), 639, none)), some (.inl (0, (340, []), 0, 28, none)), some (.inl (0, (340, []), 0, 28, none)), some (.inl (0, (340, []), 0, 138, none)), some (.inl (0, (4096, []), 0, 4000, none)), some (.inl (0, (4096, []), 0, 4001, none))])
theorem ip_predictor_3_kn : preB iC3 [((-2147483648), (-1)), ((-2147483648), 2147483647), ((-2147483648), 2147483647), ((-2147483648), 2147483647)] [some (.inl 0), some (.inr (.inl (0, [(1, 23)]))), some (.inr (.inl (0, [(1, 24)]))), some (.inr (.inl (0, [(1, 25)]))), some (.inr (.inl (0, [(1, 26)])))] kC303 [(1, [(2, 0, 1)])] = true := by decide +kernel
theorem iq_predictor_3_kn : postB kC303 [] iC3 [(1, [(2, 0, 1)])] = true := by decide +kernel
theorem ip_predictor_3_k1 : preB iC3 [(1, 1), ((-2147483648), 2147483647), ((-2147483648), 2147483647), ((-2147483648), 2147483647)] [some (.inl 0), some (.inr (.inl (0, [(1, 23)]))), some (.inr (.inl (0, [(1, 24)]))), some (.inr (.inl (0, [(1, 25)]))), some (.inr (.inl (0, [(1, 26)])))] kC304 [(1, [(2, 0, 1)])] = true := by decide +kernel
theorem iq_predictor_3_k1 : postB kC304 [] iC3 [(1, [(2, 0, 1)])] = true := by decide +kernel
theorem ip_predictor_3_k3 : preB iC3 [(3, 9), ((-2147483648), 2147483647), ((-2147483648), 2147483647), ((-2147483648), 2147483647)] [some (.inl 0), some (.inr (.inl (0, [(1, 23)]))), some (.inr (.inl (0, [(1, 24)]))), some (.inr (.inl (0, [(1, 25)]))), some (.inr (.inl (0, [(1, 26)])))] kC305 [(1, [(2, 0, 1)])] = true := by decide +kernel
theorem iq_predictor_3_k3 : postB kC305 [] iC3 [(1, [(2, 0, 1)])] = true := by decide +kernel
theorem ip_predictor_3_k16 : preB iC3 [(16, 2147483647), ((-2147483648), 2147483647), ((-2147483648), 2147483647), ((-2147483648), 2147483647)] [some (.inl 0), some (.inr (.inl (0, [(1, 23)]))), some (.inr (.inl (0, [(1, 24)]))), some (.inr (.inl (0, [(1, 25)]))), some (.inr (.inl (0, [(1, 26)])))] kC306 [(1, [(2, 0, 1)])] = true := by decide +kernel
theorem iq_predictor_3_k16 : postB kC306 [] iC3 [(1, [(2, 0, 1)])] = true := by decide +kernel
theorem ip_predictor_3_cn : preB iC3 [((-2147483648), 2147483647), ((-2147483648), 0), ((-2147483648), 2147483647), ((-2147483648), 2147483647)] [some (.inl 0), some (.inr (.inl (0, [(1, 23)]))), some (.inr (.inl (0, [(1, 24)]))), some (.inr (.inl (0, [(1, 25)]))), some (.inr (.inl (0, [(1, 26)])))] kC307 [(1, [(2, 0, 1)])] = true := by decide +kernel
theorem iq_predictor_3_cn : postB kC307 [] iC3 [(1, [(2, 0, 1)])] = true := by decide +kernel
theorem ip_predictor_3_c5 : preB iC3 [((-2147483648), 2147483647), (5, 2147483647), ((-2147483648), 2147483647), ((-2147483648), 2147483647)] [some (.inl 0), some (.inr (.inl (0, [(1, 23)]))), some (.inr (.inl (0, [(1, 24)]))), some (.inr (.inl (0, [(1, 25)]))), some (.inr (.inl (0, [(1, 26)])))] kC308 [(1, [(2, 0, 1)])] = true := by decide +kernel
theorem iq_predictor_3_c5 : postB kC308 [] iC3 [(1, [(2, 0, 1)])] = true := by decide +kernel
theorem ip_predictor_3_wn : preB iC3 [((-2147483648), 2147483647), ((-2147483648), 2147483647), ((-2147483648), 2147483647), ((-2147483648), 0)] [some (.inl 0), some (.inr (.inl (0, [(1, 23)]))), some (.inr (.inl (0, [(1, 24)]))), some (.inr (.inl (0, [(1, 25)]))), some (.inr (.inl (0, [(1, 26)])))] kC309 [(1, [(2, 0, 1)])] = true := by decide +kernel
theorem iq_predictor_3_wn : postB kC309 [] iC3 [(1, [(2, 0, 1)])] = true := by decide +kernel
theorem ip_predictor_3_w65 : preB iC3 [((-2147483648), 2147483647), ((-2147483648), 2147483647), ((-2147483648), 2147483647), (65, 2147483647)] [some (.inl 0), some (.inr (.inl (0, [(1, 23)]))), some (.inr (.inl (0, [(1, 24)]))), some (.inr (.inl (0, [(1, 25)]))), some (.inr (.inl (0, [(1, 26)])))] kC310 [(1, [(2, 0, 1)])] = true := by decide +kernel
theorem iq_predictor_3_w65 : postB kC310 [] iC3 [(1, [(2, 0, 1)])] = true := by decide +kernel
theorem ip_predictor_3_bn : preB iC3 [((-2147483648), 2147483647), ((-2147483648), 2147483647), ((-2147483648), 0), ((-2147483648), 2147483647)] [some (.inl 0), some (.inr (.inl (0, [(1, 23)]))), some (.inr (.inl (0, [(1, 24)]))), some (.inr (.inl (0, [(1, 25)]))), some (.inr (.inl (0, [(1, 26)])))] kC311 [(1, [(2, 0, 1)])] = true := by decide +kernel
theorem iq_predictor_3_bn : postB kC311 [] iC3 [(1, [(2, 0, 1)])] = true := by decide +kernel
theorem ip_predictor_3_b3 : preB iC3 [((-2147483648), 2147483647), ((-2147483648), 2147483647), (3, 3), ((-2147483648), 2147483647)] [some (.inl 0), some (.inr (.inl (0, [(1, 23)]))), some (.inr (.inl (0, [(1, 24)]))), some (.inr (.inl (0, [(1, 25)]))), some (.inr (.inl (0, [(1, 26)])))] kC312 [(1, [(2, 0, 1)])] = true := by decide +kernel
theorem iq_predictor_3_b3 : postB kC312 [] iC3 [(1, [(2, 0, 1)])] = true := by decide +kernel
theorem ip_predictor_3_b5 : preB iC3 [((-2147483648), 2147483647), ((-2147483648), 2147483647), (5, 7), ((-2147483648), 2147483647)] [some (.inl 0), some (.inr (.inl (0, [(1, 23)]))), some (.inr (.inl (0, [(1, 24)]))), some (.inr (.inl (0, [(1, 25)]))), some (.inr (.inl (0, [(1, 26)])))] kC313 [(1, [(2, 0, 1)])] = true := by decide +kernel
theorem iq_predictor_3_b5 : postB kC313 [] iC3 [(1, [(2, 0, 1)])] = true := by decide +kernel
theorem ip_predictor_3_b9 : preB iC3 [((-2147483648), 2147483647), ((-2147483648), 2147483647), (9, 2147483647), ((-2147483648), 2147483647)] [some (.inl 0), some (.inr (.inl (0, [(1, 23)]))), some (.inr (.inl (0, [(1, 24)]))), some (.inr (.inl (0, [(1, 25)]))), some (.inr (.inl (0, [(1, 26)])))] kC314 [(1, [(2, 0, 1)])] = true := by decide +kernel
theorem iq_predictor_3_b9 : postB kC314 [] iC3 [(1, [(2, 0, 1)])] = true := by decide +kernel
theorem ip_predictor_3_t1 : preB iC3 [(2, 2), ((-2147483648), 2147483647), (1, 2), ((-2147483648), 2147483647)] [some (.inl 0), some (.inr (.inl (0, [(1, 23)]))), some (.inr (.inl (0, [(1, 24)]))), some (.inr (.inl (0, [(1, 25)]))), some (.inr (.inl (0, [(1, 26)])))] kC315 [(1, [(2, 0, 1)])] = true := by decide +kernel
theorem iq_predictor_3_t1 : postB kC315 [] iC3 [(1, [(2, 0, 1)])] = true := by decide +kernel
theorem ip_predictor_3_t4 : preB iC3 [(2, 2), ((-2147483648), 2147483647), (4, 4), ((-2147483648), 2147483647)] [some (.inl 0), some (.inr (.inl (0, [(1, 23)]))), some (.inr (.inl (0, [(1, 24)]))), some (.inr (.inl (0, [(1, 25)]))), some (.inr (.inl (0, [(1, 26)])))] kC316 [(1, [(2, 0, 1)])] = true := by decide +kernel
theorem iq_predictor_3_t4 : postB kC316 [] iC3 [(1, [(2, 0, 1)])] = true := by decide +kernel
theorem ip_predictor_3_0_1_1 : preB iC3 [(0, 0), (1, 64)] [some (.inl 0), some (.inr (.inl (0, [(1, 23)]))), some (.inr (.inl (1, []))), some (.inr (.inl (1, []))), some (.inr (.inl (0, [(1, 24)])))] kC317 [(1, [(2, 0, 1)])] = true := by decide +kernel
theorem iq_predictor_3_0_1_1 : postB kC317 [] iC3 [(1, [(2, 0, 1)])] = true := by decide +kernel
theorem ip_predictor_3_0_1_2 : preB iC3 [(0, 0), (1, 64)] [some (.inl 0), some (.inr (.inl (0, [(1, 23)]))), some (.inr (.inl (1, []))), some (.inr (.inl (2, []))), some (.inr (.inl (0, [(1, 24)])))] kC318 [(1, [(2, 0, 1)])] = true := by decide +kernel
theorem iq_predictor_3_0_1_2 : postB kC318 [] iC3 [(1, [(2, 0, 1)])] = true := by decide +kernel
theorem ip_predictor_3_0_1_4 : preB iC3 [(0, 0), (1, 64)] [some (.inl 0), some (.inr (.inl (0, [(1, 23)]))), some (.inr (.inl (1, []))), some (.inr (.inl (4, []))), some (.inr (.inl (0, [(1, 24)])))] kC319 [(1, [(2, 0, 1)])] = true := by decide +kernel
theorem iq_predictor_3_0_1_4 : postB kC319 [] iC3 [(1, [(2, 0, 1)])] = true := by decide +kernel
theorem ip_predictor_3_0_1_8 : preB iC3 [(0, 0), (1, 64)] [some (.inl 0), some (.inr (.inl (0, [(1, 23)]))), some (.inr (.inl (1, []))), some (.inr (.inl (8, []))), some (.inr (.inl (0, [(1, 24)])))] kC320 [(1, [(2, 0, 1)])] = true := by decide +kernel
theorem iq_predictor_3_0_1_8 : postB kC320 [] iC3 [(1, [(2, 0, 1)])] = true := by decide +kernel
theorem ip_predictor_3_0_2_1 : preB iC3 [(0, 0), (1, 64)] [some (.inl 0), some (.inr (.inl (0, [(1, 23)]))), some (.inr (.inl (2, []))), some (.inr (.inl (1, []))), some (.inr (.inl (0, [(1, 24)])))] kC321 [(1, [(2, 0, 1)])] = true := by decide +kernel
theorem iq_predictor_3_0_2_1 : postB kC321 [] iC3 [(1, [(2, 0, 1)])] = true := by decide +kernel
theorem ip_predictor_3_0_2_2 : preB iC3 [(0, 0), (1, 64)] [some (.inl 0), some (.inr (.inl (0, [(1, 23)]))), some (.inr (.inl (2, []))), some (.inr (.inl (2, []))), some (.inr (.inl (0, [(1, 24)])))] kC322 [(1, [(2, 0, 1)])] = true := by decide +kernel
theorem iq_predictor_3_0_2_2 : postB kC322 [] iC3 [(1, [(2, 0, 1)])] = true := by decide +kernel
theorem ip_predictor_3_0_2_4 : preB iC3 [(0, 0), (1, 64)] [some (.inl 0), some (.inr (.inl (0, [(1, 23)]))), some (.inr (.inl (2, []))), some (.inr (.inl (4, []))), some (.inr (.inl (0, [(1, 24)])))] kC323 [(1, [(2, 0, 1)])] = true := by decide +kernel
theorem iq_predictor_3_0_2_4 : postB kC323 [] iC3 [(1, [(2, 0, 1)])] = true := by decide +kernel
theorem ip_predictor_3_0_2_8 : preB iC3 [(0, 0), (1, 64)] [some (.inl 0), some (.inr (.inl (0, [(1, 23)]))), some (.inr (.inl (2, []))), some (.inr (.inl (8, []))), some (.inr (.inl (0, [(1, 24)])))] kC324 [(1, [(2, 0, 1)])] = true := by decide +kernel
theorem iq_predictor_3_0_2_8 : postB kC324 [] iC3 [(1, [(2, 0, 1)])] = true := by decide +kernel
theorem ip_predictor_3_0_3_1 : preB iC3 [(0, 0), (1, 64)] [some (.inl 0), some (.inr (.inl (0, [(1, 23)]))), some (.inr (.inl (3, []))), some (.inr (.inl (1, []))), some (.inr (.inl (0, [(1, 24)])))] kC325 [(1, [(2, 0, 1)])] = true := by decide +kernel
theorem iq_predictor_3_0_3_1 : postB kC325 [] iC3 [(1, [(2, 0, 1)])] = true := by decide +kernel
theorem ip_predictor_3_0_3_2 : preB iC3 [(0, 0), (1, 64)] [some (.inl 0), some (.inr (.inl (0, [(1, 23)]))), some (.inr (.inl (3, []))), some (.inr (.inl (2, []))), some (.inr (.inl (0, [(1, 24)])))] kC326 [(1, [(2, 0, 1)])] = true := by decide +kernel
theorem iq_predictor_3_0_3_2 : postB kC326 [] iC3 [(1, [(2, 0, 1)])] = true := by decide +kernel
theorem ip_predictor_3_0_3_4 : preB iC3 [(0, 0), (1, 64)] [some (.inl 0), some (.inr (.inl (0, [(1, 23)]))), some (.inr (.inl (3, []))), some (.inr (.inl (4, []))), some (.inr (.inl (0, [(1, 24)])))] kC327 [(1, [(2, 0, 1)])] = true := by decide +kernel
theorem iq_predictor_3_0_3_4 : postB kC327 [] iC3 [(1, [(2, 0, 1)])] = true := by decide +kernel
theorem ip_predictor_3_0_3_8 : preB iC3 [(0, 0), (1, 64)] [some (.inl 0), some (.inr (.inl (0, [(1, 23)]))), some (.inr (.inl (3, []))), some (.inr (.inl (8, []))), some (.inr (.inl (0, [(1, 24)])))] kC328 [(1, [(2, 0, 1)])] = true := by decide +kernel
theorem iq_predictor_3_0_3_8 : postB kC328 [] iC3 [(1, [(2, 0, 1)])] = true := by decide +kernel
theorem ip_predictor_3_0_4_1 : preB iC3 [(0, 0), (1, 64)] [some (.inl 0), some (.inr (.inl (0, [(1, 23)]))), some (.inr (.inl (4, []))), some (.inr (.inl (1, []))), some (.inr (.inl (0, [(1, 24)])))] kC329 [(1, [(2, 0, 1)])] = true := by decide +kernel
theorem iq_predictor_3_0_4_1 : postB kC329 [] iC3 [(1, [(2, 0, 1)])] = true := by decide +kernel
theorem ip_predictor_3_0_4_2 : preB iC3 [(0, 0), (1, 64)] [some (.inl 0), some (.inr (.inl (0, [(1, 23)]))), some (.inr (.inl (4, []))), some (.inr (.inl (2, []))), some (.inr (.inl (0, [(1, 24)])))] kC330 [(1, [(2, 0, 1)])] = true := by decide +kernel
theorem iq_predictor_3_0_4_2 : postB kC330 [] iC3 [(1, [(2, 0, 1)])] = true := by decide +kernel
theorem ip_predictor_3_0_4_4 : preB iC3 [(0, 0), (1, 64)] [some (.inl 0), some (.inr (.inl (0, [(1, 23)]))), some (.inr (.inl (4, []))), some (.inr (.inl (4, []))), some (.inr (.inl (0, [(1, 24)])))] kC331 [(1, [(2, 0, 1)])] = true := by decide +kernel
theorem iq_predictor_3_0_4_4 : postB kC331 [] iC3 [(1, [(2, 0, 1)])] = true := by decide +kernel
theorem ip_predictor_3_0_4_8 : preB iC3 [(0, 0), (1, 64)] [some (.inl 0), some (.inr (.inl (0, [(1, 23)]))), some (.inr (.inl (4, []))), some (.inr (.inl (8, []))), some (.inr (.inl (0, [(1, 24)])))] kC332 [(1, [(2, 0, 1)])] = true := by decide +kernel
theorem iq_predictor_3_0_4_8 : postB kC332 [] iC3 [(1, [(2, 0, 1)])] = true := by decide +kernel
theorem ip_predictor_3_2_1_8 : preB iC3 [(2, 2), (1, 64)] [some (.inl 0), some (.inr (.inl (0, [(1, 23)]))), some (.inr (.inl (1, []))), some (.inr (.inl (8, []))), some (.inr (.inl (0, [(1, 24)])))] kC333 [(1, [(2, 0, 1)])] = true := by decide +kernel
theorem iq_predictor_3_2_1_8 : postB kC333 [] iC3 [(1, [(2, 0, 1)])] = true := by decide +kernel
theorem ip_predictor_3_2_2_8 : preB iC3 [(2, 2), (1, 64)] [some (.inl 0), some (.inr (.inl (0, [(1, 23)]))), some (.inr (.inl (2, []))), some (.inr (.inl (8, []))), some (.inr (.inl (0, [(1, 24)])))] kC334 [(1, [(2, 0, 1)])] = true := by decide +kernel
theorem iq_predictor_3_2_2_8 : postB kC334 [] iC3 [(1, [(2, 0, 1)])] = true := by decide +kernel
theorem ip_predictor_3_2_3_8 : preB iC3 [(2, 2), (1, 64)] [some (.inl 0), some (.inr (.inl (0, [(1, 23)]))), some (.inr (.inl (3, []))), some (.inr (.inl (8, []))), some (.inr (.inl (0, [(1, 24)])))] kC335 [(1, [(2, 0, 1)])] = true := by decide +kernel
theorem iq_predictor_3_2_3_8 : postB kC335 [] iC3 [(1, [(2, 0, 1)])] = true := by decide +kernel
theorem ip_predictor_3_2_4_8 : preB iC3 [(2, 2), (1, 64)] [some (.inl 0), some (.inr (.inl (0, [(1, 23)]))), some (.inr (.inl (4, []))), some (.inr (.inl (8, []))), some (.inr (.inl (0, [(1, 24)])))] kC336 [(1, [(2, 0, 1)])] = true := by decide +kernel
theorem iq_predictor_3_2_4_8 : postB kC336 [] iC3 [(1, [(2, 0, 1)])] = true := by decide +kernel
theorem ip_predictor_3_10_1_1 : preB iC3 [(10, 15), (1, 64)] [some (.inl 0), some (.inr (.inl (0, [(1, 23)]))), some (.inr (.inl (1, []))), some (.inr (.inl (1, []))), some (.inr (.inl (0, [(1, 24)])))] kC337 [(1, [(2, 0, 1)])] = true := by decide +kernel
theorem iq_predictor_3_10_1_1 : postB kC337 [] iC3 [(1, [(2, 0, 1)])] = true := by decide +kernel
theorem ip_predictor_3_10_1_2 : preB iC3 [(10, 15), (1, 64)] [some (.inl 0), some (.inr (.inl (0, [(1, 23)]))), some (.inr (.inl (1, []))), some (.inr (.inl (2, []))), some (.inr (.inl (0, [(1, 24)])))] kC338 [(1, [(2, 0, 1)])] = true := by decide +kernel
theorem iq_predictor_3_10_1_2 : postB kC338 [] iC3 [(1, [(2, 0, 1)])] = true := by decide +kernel
theorem ip_predictor_3_10_1_4 : preB iC3 [(10, 15), (1, 64)] [some (.inl 0), some (.inr (.inl (0, [(1, 23)]))), some (.inr (.inl (1, []))), some (.inr (.inl (4, []))), some (.inr (.inl (0, [(1, 24)])))] kC339 [(1, [(2, 0, 1)])] = true := by decide +kernel
theorem iq_predictor_3_10_1_4 : postB kC339 [] iC3 [(1, [(2, 0, 1)])] = true := by decide +kernel
theorem ip_predictor_3_10_1_8 : preB iC3 [(10, 15), (1, 64)] [some (.inl 0), some (.inr (.inl (0, [(1, 23)]))), some (.inr (.inl (1, []))), some (.inr (.inl (8, []))), some (.inr (.inl (0, [(1, 24)])))] kC340 [(1, [(2, 0, 1)])] = true := by decide +kernel
theorem iq_predictor_3_10_1_8 : postB kC340 [] iC3 [(1, [(2, 0, 1)])] = true := by decide +kernel
theorem ip_predictor_3_10_2_1 : preB iC3 [(10, 15), (1, 64)] [some (.inl 0), some (.inr (.inl (0, [(1, 23)]))), some (.inr (.inl (2, []))), some (.inr (.inl (1, []))), some (.inr (.inl (0, [(1, 24)])))] kC341 [(1, [(2, 0, 1)])] = true := by decide +kernel
theorem iq_predictor_3_10_2_1 : postB kC341 [] iC3 [(1, [(2, 0, 1)])] = true := by decide +kernel
theorem ip_predictor_3_10_2_2 : preB iC3 [(10, 15), (1, 64)] [some (.inl 0), some (.inr (.inl (0, [(1, 23)]))), some (.inr (.inl (2, []))), some (.inr (.inl (2, []))), some (.inr (.inl (0, [(1, 24)])))] kC342 [(1, [(2, 0, 1)])] = true := by decide +kernel
theorem iq_predictor_3_10_2_2 : postB kC342 [] iC3 [(1, [(2, 0, 1)])] = true := by decide +kernel
theorem ip_predictor_3_10_2_4 : preB iC3 [(10, 15), (1, 64)] [some (.inl 0), some (.inr (.inl (0, [(1, 23)]))), some (.inr (.inl (2, []))), some (.inr (.inl (4, []))), some (.inr (.inl (0, [(1, 24)])))] kC343 [(1, [(2, 0, 1)])] = true := by decide +kernel
theorem iq_predictor_3_10_2_4 : postB kC343 [] iC3 [(1, [(2, 0, 1)])] = true := by decide +kernel
theorem ip_predictor_3_10_2_8 : preB iC3 [(10, 15), (1, 64)] [some (.inl 0), some (.inr (.inl (0, [(1, 23)]))), some (.inr (.inl (2, []))), some (.inr (.inl (8, []))), some (.inr (.inl (0, [(1, 24)])))] kC344 [(1, [(2, 0, 1)])] = true := by decide +kernel
theorem iq_predictor_3_10_2_8 : postB kC344 [] iC3 [(1, [(2, 0, 1)])] = true := by decide +kernel
theorem ip_predictor_3_10_3_1 : preB iC3 [(10, 15), (1, 64)] [some (.inl 0), some (.inr (.inl (0, [(1, 23)]))), some (.inr (.inl (3, []))), some (.inr (.inl (1, []))), some (.inr (.inl (0, [(1, 24)])))] kC345 [(1, [(2, 0, 1)])] = true := by decide +kernel
theorem iq_predictor_3_10_3_1 : postB kC345 [] iC3 [(1, [(2, 0, 1)])] = true := by decide +kernel
theorem ip_predictor_3_10_3_2 : preB iC3 [(10, 15), (1, 64)] [some (.inl 0), some (.inr (.inl (0, [(1, 23)]))), some (.inr (.inl (3, []))), some (.inr (.inl (2, []))), some (.inr (.inl (0, [(1, 24)])))] kC346 [(1, [(2, 0, 1)])] = true := by decide +kernel
theorem iq_predictor_3_10_3_2 : postB kC346 [] iC3 [(1, [(2, 0, 1)])] = true := by decide +kernel
theorem ip_predictor_3_10_3_4 : preB iC3 [(10, 15), (1, 64)] [some (.inl 0), some (.inr (.inl (0, [(1, 23)]))), some (.inr (.inl (3, []))), some (.inr (.inl (4, []))), some (.inr (.inl (0, [(1, 24)])))] kC347 [(1, [(2, 0, 1)])] = true := by decide +kernel
theorem iq_predictor_3_10_3_4 : postB kC347 [] iC3 [(1, [(2, 0, 1)])] = true := by decide +kernel
theorem ip_predictor_3_10_3_8 : preB iC3 [(10, 15), (1, 64)] [some (.inl 0), some (.inr (.inl (0, [(1, 23)]))), some (.inr (.inl (3, []))), some (.inr (.inl (8, []))), some (.inr (.inl (0, [(1, 24)])))] kC348 [(1, [(2, 0, 1)])] = true := by decide +kernel
theorem iq_predictor_3_10_3_8 : postB kC348 [] iC3 [(1, [(2, 0, 1)])] = true := by decide +kernel
theorem ip_predictor_3_10_4_1 : preB iC3 [(10, 15), (1, 64)] [some (.inl 0), some (.inr (.inl (0, [(1, 23)]))), some (.inr (.inl (4, []))), some (.inr (.inl (1, []))), some (.inr (.inl (0, [(1, 24)])))] kC349 [(1, [(2, 0, 1)])] = true := by decide +kernel
theorem iq_predictor_3_10_4_1 : postB kC349 [] iC3 [(1, [(2, 0, 1)])] = true := by decide +kernel
theorem ip_predictor_3_10_4_2 : preB iC3 [(10, 15), (1, 64)] [some (.inl 0), some (.inr (.inl (0, [(1, 23)]))), some (.inr (.inl (4, []))), some (.inr (.inl (2, []))), some (.inr (.inl (0, [(1, 24)])))] kC350 [(1, [(2, 0, 1)])] = true := by decide +kernel
theorem iq_predictor_3_10_4_2 : postB kC350 [] iC3 [(1, [(2, 0, 1)])] = true := by decide +kernel
theorem ip_predictor_3_10_4_4 : preB iC3 [(10, 15), (1, 64)] [some (.inl 0), some (.inr (.inl (0, [(1, 23)]))), some (.inr (.inl (4, []))), some (.inr (.inl (4, []))), some (.inr (.inl (0, [(1, 24)])))] kC351 [(1, [(2, 0, 1)])] = true := by decide +kernel
theorem iq_predictor_3_10_4_4 : postB kC351 [] iC3 [(1, [(2, 0, 1)])] = true := by decide +kernel
theorem ip_predictor_3_10_4_8 : preB iC3 [(10, 15), (1, 64)] [some (.inl 0), some (.inr (.inl (0, [(1, 23)]))), some (.inr (.inl (4, []))), some (.inr (.inl (8, []))), some (.inr (.inl (0, [(1, 24)])))] kC352 [(1, [(2, 0, 1)])] = true := by decide +kernel
theorem iq_predictor_3_10_4_8 : postB kC352 [] iC3 [(1, [(2, 0, 1)])] = true := by decide +kernel
theorem ip_differs_3 : preB iC3 [] [some (.inl 0)] kC302 [(1, [(2, 0, 1)])] = true := by decide +kernel
theorem iq_differs_3 : postB kC302 [] iC3 [(1, [(2, 0, 1)])] = true := by decide +kernel
theorem ip_table_3 : preB iC3 [((-2147483648), 2147483647)] [some (.inl 0), some (.inr (.inl (0, [(1, 23)])))] kC353 [(1, [(2, 0, 1)])] = true := by decide +kernel
theorem iq_table_3 : postB kC353 [] iC3 [(1, [(2, 0, 1)])] = true := by decide +kernel
theorem ip_pack_3 : preB iC3 [(0, 4), ((-2147483648), 2147483647)] [some (.inl 0), some (.inr (.inl (0, [(1, 23)]))), some (.inr (.inl (0, [(1, 24)])))] kX0 [(1, [(2, 0, 1)])] = true := by decide +kernel
theorem iq_pack_3 : postB kX0 [] iC2 [(1, [(2, 1, 1)])] = true := by decide +kernel
theorem it_pack_3_30 : thrB ((pdCuts pX0).getD 0 default).2.1 iC3 [(1, [(2, 0, 1)])] = true := by decide +kernel
theorem it_pack_3_61 : thrB ((pdCuts pX0).getD 1 default).2.1 iC3 [(1, [(2, 0, 1)])] = true := by decide +kernel
theorem ip_packn_3 : preB iC3 [((-2147483648), (-1)), ((-2147483648), 2147483647)] [some (.inl 0), some (.inr (.inl (0, [(1, 23)]))), some (.inr (.inl (0, [(1, 24)])))] kX1 [(1, [(2, 0, 1)])] = true := by decide +kernel
theorem iq_packn_3 : postB kX1 [] iC3 [(1, [(2, 0, 1)])] = true := by decide +kernel
theorem it_packn_3_7 : thrB ((pdCuts pX1).getD 0 default).2.1 iC3 [(1, [(2, 0, 1)])] = true := by decide +kernel
theorem ip_packp_3 : preB iC3 [(5, 2147483647), ((-2147483648), 2147483647)] [some (.inl 0), some (.inr (.inl (0, [(1, 23)]))), some (.inr (.inl (0, [(1, 24)])))] kX2 [(1, [(2, 0, 1)])] = true := by decide +kernel
theorem iq_packp_3 : postB kX2 [] iC3 [(1, [(2, 0, 1)])] = true := by decide +kernel
theorem it_packp_3_7 : thrB ((pdCuts pX2).getD 0 default).2.1 iC3 [(1, [(2, 0, 1)])] = true := by decide +kernel
theorem ip_chain_3 : preB iC3 [(0, 4)] [some (.inl 0), some (.inr (.inl (0, [(1, 23)])))] kX3 [(1, [(2, 0, 1)])] = true := by decide +kernel
theorem iq_chain_3 : postB kX3 [] iC2 [(1, [(2, 5, 1), (2, 11, 1)])] = true := by decide +kernel
theorem it_chain_3_66 : thrB ((pdCuts pX3).getD 0 default).2.1 iC3 [(1, [(2, 0, 1)])] = true := by decide +kernel
theorem ip_chainm_3 : preB iC3 [((-1), (-1))] [some (.inl 0), some (.inr (.inl (0, [(1, 23)])))] kX4 [(1, [(2, 0, 1)])] = true := by decide +kernel
theorem iq_chainm_3 : postB kX4 [] iC3 [(1, [(2, 0, 1)])] = true := by decide +kernel
theorem ip_chainn_3 : preB iC3 [((-2147483648), (-2))] [some (.inl 0), some (.inr (.inl (0, [(1, 23)])))] kX5 [(1, [(2, 0, 1)])] = true := by decide +kernel
theorem iq_chainn_3 : postB kX5 [] iC3 [(1, [(2, 0, 1)])] = true := by decide +kernel
theorem it_chainn_3_12 : thrB ((pdCuts pX5).getD 0 default).2.1 iC3 [(1, [(2, 0, 1)])] = true := by decide +kernel
theorem ip_chainp_3 : preB iC3 [(5, 2147483647)] [some (.inl 0), some (.inr (.inl (0, [(1, 23)])))] kX6 [(1, [(2, 0, 1)])] = true := by decide +kernel
theorem iq_chainp_3 : postB kX6 [] iC3 [(1, [(2, 0, 1)])] = true := by decide +kernel
theorem it_chainp_3_12 : thrB ((pdCuts pX6).getD 0 default).2.1 iC3 [(1, [(2, 0, 1)])] = true := by decide +kernel
theorem ip_add_3 : preB iC3 [((-128), 127)] [some (.inl 0), some (.inr (.inl (0, [(1, 23)])))] kX7 [(1, [(2, 0, 1)])] = true := by decide +kernel
theorem iq_add_3 : postB kX7 [] iC3 [(1, [(2, 0, 1)])] = true := by decide +kernel
theorem it_add_3_12 : thrB ((pdCuts pX7).getD 0 default).2.1 iC3 [(1, [(2, 0, 1)])] = true := by decide +kernel
theorem ip_out_3 : preB iC3 [((-2147483648), 2147483647)] [some (.inl 0), some (.inr (.inl (0, [(1, 23)])))] kX8 [(1, [(2, 0, 1)])] = true := by decide +kernel
theorem iq_out_3 : postB kX8 [] iC3 [(1, [(2, 0, 1)])] = true := by decide +kernel
theorem it_out_3_21 : thrB ((pdCuts pX8).getD 0 default).2.1 iC3 [(1, [(2, 0, 1)])] = true := by decide +kernel
theorem ip_cell_3 : preB iC3 [((-2147483648), 2147483647)] [some (.inl 0), some (.inr (.inl (0, [(1, 23)])))] kX9 [(1, [(2, 0, 1)])] = true := by decide +kernel
theorem iq_cell_3 : postB kX9 [] iC3 [(1, [(2, 0, 1)])] = true := by decide +kernel
theorem it_cell_3_25 : thrB ((pdCuts pX9).getD 0 default).2.1 iC3 [(1, [(2, 0, 1)])] = true := by decide +kernel
theorem ip_sum_3 : preB iC3 [((-2147483648), 2147483647)] [some (.inl 0), some (.inr (.inl (0, [(1, 23)])))] kX10 [(1, [(2, 0, 1)])] = true := by decide +kernel
theorem iq_sum_3 : postB kX10 [] iC3 [(1, [(2, 0, 1)])] = true := by decide +kernel
theorem it_sum_3_9 : thrB ((pdCuts pX10).getD 0 default).2.1 iC3 [(1, [(2, 0, 1)])] = true := by decide +kernel
theorem ip_unpack_3 : preB iC3 [((-2147483648), 2147483647)] [some (.inl 0), some (.inr (.inl (0, [(1, 23)])))] kX11 [(1, [(2, 0, 1)])] = true := by decide +kernel
theorem iq_unpack_3 : postB kX11 [] iC2 [(1, [(2, 3, 1)])] = true := by decide +kernel
theorem it_unpack_3_7 : thrB ((pdCuts pX11).getD 0 default).2.1 iC3 [(1, [(2, 0, 1)])] = true := by decide +kernel
theorem ip_predictor_2_kn : preB iC2 [((-2147483648), (-1)), ((-2147483648), 2147483647), ((-2147483648), 2147483647), ((-2147483648), 2147483647)] [some (.inl 0), some (.inr (.inl (0, [(1, 23)]))), some (.inr (.inl (0, [(1, 24)]))), some (.inr (.inl (0, [(1, 25)]))), some (.inr (.inl (0, [(1, 26)])))] kC364 [(1, [(2, 0, 1)])] = true := by decide +kernel
theorem iq_predictor_2_kn : postB kC364 [] iC2 [(1, [(2, 0, 1)])] = true := by decide +kernel
theorem ip_predictor_2_k1 : preB iC2 [(1, 1), ((-2147483648), 2147483647), ((-2147483648), 2147483647), ((-2147483648), 2147483647)] [some (.inl 0), some (.inr (.inl (0, [(1, 23)]))), some (.inr (.inl (0, [(1, 24)]))), some (.inr (.inl (0, [(1, 25)]))), some (.inr (.inl (0, [(1, 26)])))] kC365 [(1, [(2, 0, 1)])] = true := by decide +kernel
theorem iq_predictor_2_k1 : postB kC365 [] iC2 [(1, [(2, 0, 1)])] = true := by decide +kernel
theorem ip_predictor_2_k3 : preB iC2 [(3, 9), ((-2147483648), 2147483647), ((-2147483648), 2147483647), ((-2147483648), 2147483647)] [some (.inl 0), some (.inr (.inl (0, [(1, 23)]))), some (.inr (.inl (0, [(1, 24)]))), some (.inr (.inl (0, [(1, 25)]))), some (.inr (.inl (0, [(1, 26)])))] kC366 [(1, [(2, 0, 1)])] = true := by decide +kernel
theorem iq_predictor_2_k3 : postB kC366 [] iC2 [(1, [(2, 0, 1)])] = true := by decide +kernel
theorem ip_predictor_2_k16 : preB iC2 [(16, 2147483647), ((-2147483648), 2147483647), ((-2147483648), 2147483647), ((-2147483648), 2147483647)] [some (.inl 0), some (.inr (.inl (0, [(1, 23)]))), some (.inr (.inl (0, [(1, 24)]))), some (.inr (.inl (0, [(1, 25)]))), some (.inr (.inl (0, [(1, 26)])))] kC367 [(1, [(2, 0, 1)])] = true := by decide +kernel
theorem iq_predictor_2_k16 : postB kC367 [] iC2 [(1, [(2, 0, 1)])] = true := by decide +kernel
theorem ip_predictor_2_cn : preB iC2 [((-2147483648), 2147483647), ((-2147483648), 0), ((-2147483648), 2147483647), ((-2147483648), 2147483647)] [some (.inl 0), some (.inr (.inl (0, [(1, 23)]))), some (.inr (.inl (0, [(1, 24)]))), some (.inr (.inl (0, [(1, 25)]))), some (.inr (.inl (0, [(1, 26)])))] kC368 [(1, [(2, 0, 1)])] = true := by decide +kernel
theorem iq_predictor_2_cn : postB kC368 [] iC2 [(1, [(2, 0, 1)])] = true := by decide +kernel
theorem ip_predictor_2_c5 : preB iC2 [((-2147483648), 2147483647), (5, 2147483647), ((-2147483648), 2147483647), ((-2147483648), 2147483647)] [some (.inl 0), some (.inr (.inl (0, [(1, 23)]))), some (.inr (.inl (0, [(1, 24)]))), some (.inr (.inl (0, [(1, 25)]))), some (.inr (.inl (0, [(1, 26)])))] kC369 [(1, [(2, 0, 1)])] = true := by decide +kernel
theorem iq_predictor_2_c5 : postB kC369 [] iC2 [(1, [(2, 0, 1)])] = true := by decide +kernel
theorem ip_predictor_2_wn : preB iC2 [((-2147483648), 2147483647), ((-2147483648), 2147483647), ((-2147483648), 2147483647), ((-2147483648), 0)] [some (.inl 0), some (.inr (.inl (0, [(1, 23)]))), some (.inr (.inl (0, [(1, 24)]))), some (.inr (.inl (0, [(1, 25)]))), some (.inr (.inl (0, [(1, 26)])))] kC370 [(1, [(2, 0, 1)])] = true := by decide +kernel
theorem iq_predictor_2_wn : postB kC370 [] iC2 [(1, [(2, 0, 1)])] = true := by decide +kernel
theorem ip_predictor_2_w65 : preB iC2 [((-2147483648), 2147483647), ((-2147483648), 2147483647), ((-2147483648), 2147483647), (65, 2147483647)] [some (.inl 0), some (.inr (.inl (0, [(1, 23)]))), some (.inr (.inl (0, [(1, 24)]))), some (.inr (.inl (0, [(1, 25)]))), some (.inr (.inl (0, [(1, 26)])))] kC371 [(1, [(2, 0, 1)])] = true := by decide +kernel
theorem iq_predictor_2_w65 : postB kC371 [] iC2 [(1, [(2, 0, 1)])] = true := by decide +kernel
theorem ip_predictor_2_bn : preB iC2 [((-2147483648), 2147483647), ((-2147483648), 2147483647), ((-2147483648), 0), ((-2147483648), 2147483647)] [some (.inl 0), some (.inr (.inl (0, [(1, 23)]))), some (.inr (.inl (0, [(1, 24)]))), some (.inr (.inl (0, [(1, 25)]))), some (.inr (.inl (0, [(1, 26)])))] kC372 [(1, [(2, 0, 1)])] = true := by decide +kernel
theorem iq_predictor_2_bn : postB kC372 [] iC2 [(1, [(2, 0, 1)])] = true := by decide +kernel
theorem ip_predictor_2_b3 : preB iC2 [((-2147483648), 2147483647), ((-2147483648), 2147483647), (3, 3), ((-2147483648), 2147483647)] [some (.inl 0), some (.inr (.inl (0, [(1, 23)]))), some (.inr (.inl (0, [(1, 24)]))), some (.inr (.inl (0, [(1, 25)]))), some (.inr (.inl (0, [(1, 26)])))] kC373 [(1, [(2, 0, 1)])] = true := by decide +kernel
theorem iq_predictor_2_b3 : postB kC373 [] iC2 [(1, [(2, 0, 1)])] = true := by decide +kernel
theorem ip_predictor_2_b5 : preB iC2 [((-2147483648), 2147483647), ((-2147483648), 2147483647), (5, 7), ((-2147483648), 2147483647)] [some (.inl 0), some (.inr (.inl (0, [(1, 23)]))), some (.inr (.inl (0, [(1, 24)]))), some (.inr (.inl (0, [(1, 25)]))), some (.inr (.inl (0, [(1, 26)])))] kC374 [(1, [(2, 0, 1)])] = true := by decide +kernel
theorem iq_predictor_2_b5 : postB kC374 [] iC2 [(1, [(2, 0, 1)])] = true := by decide +kernel
theorem ip_predictor_2_b9 : preB iC2 [((-2147483648), 2147483647), ((-2147483648), 2147483647), (9, 2147483647), ((-2147483648), 2147483647)] [some (.inl 0), some (.inr (.inl (0, [(1, 23)]))), some (.inr (.inl (0, [(1, 24)]))), some (.inr (.inl (0, [(1, 25)]))), some (.inr (.inl (0, [(1, 26)])))] kC375 [(1, [(2, 0, 1)])] = true := by decide +kernel
theorem iq_predictor_2_b9 : postB kC375 [] iC2 [(1, [(2, 0, 1)])] = true := by decide +kernel
theorem ip_predictor_2_t1 : preB iC2 [(2, 2), ((-2147483648), 2147483647), (1, 2), ((-2147483648), 2147483647)] [some (.inl 0), some (.inr (.inl (0, [(1, 23)]))), some (.inr (.inl (0, [(1, 24)]))), some (.inr (.inl (0, [(1, 25)]))), some (.inr (.inl (0, [(1, 26)])))] kC376 [(1, [(2, 0, 1)])] = true := by decide +kernel
theorem iq_predictor_2_t1 : postB kC376 [] iC2 [(1, [(2, 0, 1)])] = true := by decide +kernel
theorem ip_predictor_2_t4 : preB iC2 [(2, 2), ((-2147483648), 2147483647), (4, 4), ((-2147483648), 2147483647)] [some (.inl 0), some (.inr (.inl (0, [(1, 23)]))), some (.inr (.inl (0, [(1, 24)]))), some (.inr (.inl (0, [(1, 25)]))), some (.inr (.inl (0, [(1, 26)])))] kC377 [(1, [(2, 0, 1)])] = true := by decide +kernel
theorem iq_predictor_2_t4 : postB kC377 [] iC2 [(1, [(2, 0, 1)])] = true := by decide +kernel
theorem ip_predictor_2_0_1_1 : preB iC2 [(0, 0), (1, 64)] [some (.inl 0), some (.inr (.inl (0, [(1, 23)]))), some (.inr (.inl (1, []))), some (.inr (.inl (1, []))), some (.inr (.inl (0, [(1, 24)])))] kC378 [(1, [(2, 0, 1)])] = true := by decide +kernel
theorem iq_predictor_2_0_1_1 : postB kC378 [] iC2 [(1, [(2, 0, 1)])] = true := by decide +kernel
theorem ip_predictor_2_0_1_2 : preB iC2 [(0, 0), (1, 64)] [some (.inl 0), some (.inr (.inl (0, [(1, 23)]))), some (.inr (.inl (1, []))), some (.inr (.inl (2, []))), some (.inr (.inl (0, [(1, 24)])))] kC379 [(1, [(2, 0, 1)])] = true := by decide +kernel
theorem iq_predictor_2_0_1_2 : postB kC379 [] iC2 [(1, [(2, 0, 1)])] = true := by decide +kernel
theorem ip_predictor_2_0_1_4 : preB iC2 [(0, 0), (1, 64)] [some (.inl 0), some (.inr (.inl (0, [(1, 23)]))), some (.inr (.inl (1, []))), some (.inr (.inl (4, []))), some (.inr (.inl (0, [(1, 24)])))] kC380 [(1, [(2, 0, 1)])] = true := by decide +kernel
theorem iq_predictor_2_0_1_4 : postB kC380 [] iC2 [(1, [(2, 0, 1)])] = true := by decide +kernel
theorem ip_predictor_2_0_1_8 : preB iC2 [(0, 0), (1, 64)] [some (.inl 0), some (.inr (.inl (0, [(1, 23)]))), some (.inr (.inl (1, []))), some (.inr (.inl (8, []))), some (.inr (.inl (0, [(1, 24)])))] kC381 [(1, [(2, 0, 1)])] = true := by decide +kernel
theorem iq_predictor_2_0_1_8 : postB kC381 [] iC2 [(1, [(2, 0, 1)])] = true := by decide +kernel
theorem ip_predictor_2_0_2_1 : preB iC2 [(0, 0), (1, 64)] [some (.inl 0), some (.inr (.inl (0, [(1, 23)]))), some (.inr (.inl (2, []))), some (.inr (.inl (1, []))), some (.inr (.inl (0, [(1, 24)])))] kC382 [(1, [(2, 0, 1)])] = true := by decide +kernel
theorem iq_predictor_2_0_2_1 : postB kC382 [] iC2 [(1, [(2, 0, 1)])] = true := by decide +kernel
theorem ip_predictor_2_0_2_2 : preB iC2 [(0, 0), (1, 64)] [some (.inl 0), some (.inr (.inl (0, [(1, 23)]))), some (.inr (.inl (2, []))), some (.inr (.inl (2, []))), some (.inr (.inl (0, [(1, 24)])))] kC383 [(1, [(2, 0, 1)])] = true := by decide +kernel
theorem iq_predictor_2_0_2_2 : postB kC383 [] iC2 [(1, [(2, 0, 1)])] = true := by decide +kernel
theorem ip_predictor_2_0_2_4 : preB iC2 [(0, 0), (1, 64)] [some (.inl 0), some (.inr (.inl (0, [(1, 23)]))), some (.inr (.inl (2, []))), some (.inr (.inl (4, []))), some (.inr (.inl (0, [(1, 24)])))] kC384 [(1, [(2, 0, 1)])] = true := by decide +kernel
theorem iq_predictor_2_0_2_4 : postB kC384 [] iC2 [(1, [(2, 0, 1)])] = true := by decide +kernel
theorem ip_predictor_2_0_2_8 : preB iC2 [(0, 0), (1, 64)] [some (.inl 0), some (.inr (.inl (0, [(1, 23)]))), some (.inr (.inl (2, []))), some (.inr (.inl (8, []))), some (.inr (.inl (0, [(1, 24)])))] kC385 [(1, [(2, 0, 1)])] = true := by decide +kernel
theorem iq_predictor_2_0_2_8 : postB kC385 [] iC2 [(1, [(2, 0, 1)])] = true := by decide +kernel
theorem ip_predictor_2_0_3_1 : preB iC2 [(0, 0), (1, 64)] [some (.inl 0), some (.inr (.inl (0, [(1, 23)]))), some (.inr (.inl (3, []))), some (.inr (.inl (1, []))), some (.inr (.inl (0, [(1, 24)])))] kC386 [(1, [(2, 0, 1)])] = true := by decide +kernel
theorem iq_predictor_2_0_3_1 : postB kC386 [] iC2 [(1, [(2, 0, 1)])] = true := by decide +kernel
theorem ip_predictor_2_0_3_2 : preB iC2 [(0, 0), (1, 64)] [some (.inl 0), some (.inr (.inl (0, [(1, 23)]))), some (.inr (.inl (3, []))), some (.inr (.inl (2, []))), some (.inr (.inl (0, [(1, 24)])))] kC387 [(1, [(2, 0, 1)])] = true := by decide +kernel
theorem iq_predictor_2_0_3_2 : postB kC387 [] iC2 [(1, [(2, 0, 1)])] = true := by decide +kernel
theorem ip_predictor_2_0_3_4 : preB iC2 [(0, 0), (1, 64)] [some (.inl 0), some (.inr (.inl (0, [(1, 23)]))), some (.inr (.inl (3, []))), some (.inr (.inl (4, []))), some (.inr (.inl (0, [(1, 24)])))] kC388 [(1, [(2, 0, 1)])] = true := by decide +kernel
theorem iq_predictor_2_0_3_4 : postB kC388 [] iC2 [(1, [(2, 0, 1)])] = true := by decide +kernel
theorem ip_predictor_2_0_3_8 : preB iC2 [(0, 0), (1, 64)] [some (.inl 0), some (.inr (.inl (0, [(1, 23)]))), some (.inr (.inl (3, []))), some (.inr (.inl (8, []))), some (.inr (.inl (0, [(1, 24)])))] kC389 [(1, [(2, 0, 1)])] = true := by decide +kernel
theorem iq_predictor_2_0_3_8 : postB kC389 [] iC2 [(1, [(2, 0, 1)])] = true := by decide +kernel
theorem ip_predictor_2_0_4_1 : preB iC2 [(0, 0), (1, 64)] [some (.inl 0), some (.inr (.inl (0, [(1, 23)]))), some (.inr (.inl (4, []))), some (.inr (.inl (1, []))), some (.inr (.inl (0, [(1, 24)])))] kC390 [(1, [(2, 0, 1)])] = true := by decide +kernel
theorem iq_predictor_2_0_4_1 : postB kC390 [] iC2 [(1, [(2, 0, 1)])] = true := by decide +kernel
theorem ip_predictor_2_0_4_2 : preB iC2 [(0, 0), (1, 64)] [some (.inl 0), some (.inr (.inl (0, [(1, 23)]))), some (.inr (.inl (4, []))), some (.inr (.inl (2, []))), some (.inr (.inl (0, [(1, 24)])))] kC391 [(1, [(2, 0, 1)])] = true := by decide +kernel
theorem iq_predictor_2_0_4_2 : postB kC391 [] iC2 [(1, [(2, 0, 1)])] = true := by decide +kernel
theorem ip_predictor_2_0_4_4 : preB iC2 [(0, 0), (1, 64)] [some (.inl 0), some (.inr (.inl (0, [(1, 23)]))), some (.inr (.inl (4, []))), some (.inr (.inl (4, []))), some (.inr (.inl (0, [(1, 24)])))] kC392 [(1, [(2, 0, 1)])] = true := by decide +kernel
theorem iq_predictor_2_0_4_4 : postB kC392 [] iC2 [(1, [(2, 0, 1)])] = true := by decide +kernel
theorem ip_predictor_2_0_4_8 : preB iC2 [(0, 0), (1, 64)] [some (.inl 0), some (.inr (.inl (0, [(1, 23)]))), some (.inr (.inl (4, []))), some (.inr (.inl (8, []))), some (.inr (.inl (0, [(1, 24)])))] kC393 [(1, [(2, 0, 1)])] = true := by decide +kernel
theorem iq_predictor_2_0_4_8 : postB kC393 [] iC2 [(1, [(2, 0, 1)])] = true := by decide +kernel
theorem ip_predictor_2_2_1_8 : preB iC2 [(2, 2), (1, 64)] [some (.inl 0), some (.inr (.inl (0, [(1, 23)]))), some (.inr (.inl (1, []))), some (.inr (.inl (8, []))), some (.inr (.inl (0, [(1, 24)])))] kC394 [(1, [(2, 0, 1)])] = true := by decide +kernel
theorem iq_predictor_2_2_1_8 : postB kC394 [] iC2 [(1, [(2, 0, 1)])] = true := by decide +kernel
theorem ip_predictor_2_2_2_8 : preB iC2 [(2, 2), (1, 64)] [some (.inl 0), some (.inr (.inl (0, [(1, 23)]))), some (.inr (.inl (2, []))), some (.inr (.inl (8, []))), some (.inr (.inl (0, [(1, 24)])))] kC395 [(1, [(2, 0, 1)])] = true := by decide +kernel
theorem iq_predictor_2_2_2_8 : postB kC395 [] iC2 [(1, [(2, 0, 1)])] = true := by decide +kernel
theorem ip_predictor_2_2_3_8 : preB iC2 [(2, 2), (1, 64)] [some (.inl 0), some (.inr (.inl (0, [(1, 23)]))), some (.inr (.inl (3, []))), some (.inr (.inl (8, []))), some (.inr (.inl (0, [(1, 24)])))] kC396 [(1, [(2, 0, 1)])] = true := by decide +kernel
theorem iq_predictor_2_2_3_8 : postB kC396 [] iC2 [(1, [(2, 0, 1)])] = true := by decide +kernel
theorem ip_predictor_2_2_4_8 : preB iC2 [(2, 2), (1, 64)] [some (.inl 0), some (.inr (.inl (0, [(1, 23)]))), some (.inr (.inl (4, []))), some (.inr (.inl (8, []))), some (.inr (.inl (0, [(1, 24)])))] kC397 [(1, [(2, 0, 1)])] = true := by decide +kernel
theorem iq_predictor_2_2_4_8 : postB kC397 [] iC2 [(1, [(2, 0, 1)])] = true := by decide +kernel
theorem ip_predictor_2_10_1_1 : preB iC2 [(10, 15), (1, 64)] [some (.inl 0), some (.inr (.inl (0, [(1, 23)]))), some (.inr (.inl (1, []))), some (.inr (.inl (1, []))), some (.inr (.inl (0, [(1, 24)])))] kC398 [(1, [(2, 0, 1)])] = true := by decide +kernel
theorem iq_predictor_2_10_1_1 : postB kC398 [] iC2 [(1, [(2, 0, 1)])] = true := by decide +kernel
theorem ip_predictor_2_10_1_2 : preB iC2 [(10, 15), (1, 64)] [some (.inl 0), some (.inr (.inl (0, [(1, 23)]))), some (.inr (.inl (1, []))), some (.inr (.inl (2, []))), some (.inr (.inl (0, [(1, 24)])))] kC399 [(1, [(2, 0, 1)])] = true := by decide +kernel
theorem iq_predictor_2_10_1_2 : postB kC399 [] iC2 [(1, [(2, 0, 1)])] = true := by decide +kernel
theorem ip_predictor_2_10_1_4 : preB iC2 [(10, 15), (1, 64)] [some (.inl 0), some (.inr (.inl (0, [(1, 23)]))), some (.inr (.inl (1, []))), some (.inr (.inl (4, []))), some (.inr (.inl (0, [(1, 24)])))] kC400 [(1, [(2, 0, 1)])] = true := by decide +kernel
theorem iq_predictor_2_10_1_4 : postB kC400 [] iC2 [(1, [(2, 0, 1)])] = true := by decide +kernel
theorem ip_predictor_2_10_1_8 : preB iC2 [(10, 15), (1, 64)] [some (.inl 0), some (.inr (.inl (0, [(1, 23)]))), some (.inr (.inl (1, []))), some (.inr (.inl (8, []))), some (.inr (.inl (0, [(1, 24)])))] kC401 [(1, [(2, 0, 1)])] = true := by decide +kernel
theorem iq_predictor_2_10_1_8 : postB kC401 [] iC2 [(1, [(2, 0, 1)])] = true := by decide +kernel
theorem ip_predictor_2_10_2_1 : preB iC2 [(10, 15), (1, 64)] [some (.inl 0), some (.inr (.inl (0, [(1, 23)]))), some (.inr (.inl (2, []))), some (.inr (.inl (1, []))), some (.inr (.inl (0, [(1, 24)])))] kC402 [(1, [(2, 0, 1)])] = true := by decide +kernel
theorem iq_predictor_2_10_2_1 : postB kC402 [] iC2 [(1, [(2, 0, 1)])] = true := by decide +kernel
theorem ip_predictor_2_10_2_2 : preB iC2 [(10, 15), (1, 64)] [some (.inl 0), some (.inr (.inl (0, [(1, 23)]))), some (.inr (.inl (2, []))), some (.inr (.inl (2, []))), some (.inr (.inl (0, [(1, 24)])))] kC403 [(1, [(2, 0, 1)])] = true := by decide +kernel
theorem iq_predictor_2_10_2_2 : postB kC403 [] iC2 [(1, [(2, 0, 1)])] = true := by decide +kernel
theorem ip_predictor_2_10_2_4 : preB iC2 [(10, 15), (1, 64)] [some (.inl 0), some (.inr (.inl (0, [(1, 23)]))), some (.inr (.inl (2, []))), some (.inr (.inl (4, []))), some (.inr (.inl (0, [(1, 24)])))] kC404 [(1, [(2, 0, 1)])] = true := by decide +kernel
theorem iq_predictor_2_10_2_4 : postB kC404 [] iC2 [(1, [(2, 0, 1)])] = true := by decide +kernel
theorem ip_predictor_2_10_2_8 : preB iC2 [(10, 15), (1, 64)] [some (.inl 0), some (.inr (.inl (0, [(1, 23)]))), some (.inr (.inl (2, []))), some (.inr (.inl (8, []))), some (.inr (.inl (0, [(1, 24)])))] kC405 [(1, [(2, 0, 1)])] = true := by decide +kernel
theorem iq_predictor_2_10_2_8 : postB kC405 [] iC2 [(1, [(2, 0, 1)])] = true := by decide +kernel
theorem ip_predictor_2_10_3_1 : preB iC2 [(10, 15), (1, 64)] [some (.inl 0), some (.inr (.inl (0, [(1, 23)]))), some (.inr (.inl (3, []))), some (.inr (.inl (1, []))), some (.inr (.inl (0, [(1, 24)])))] kC406 [(1, [(2, 0, 1)])] = true := by decide +kernel
theorem iq_predictor_2_10_3_1 : postB kC406 [] iC2 [(1, [(2, 0, 1)])] = true := by decide +kernel
theorem ip_predictor_2_10_3_2 : preB iC2 [(10, 15), (1, 64)] [some (.inl 0), some (.inr (.inl (0, [(1, 23)]))), some (.inr (.inl (3, []))), some (.inr (.inl (2, []))), some (.inr (.inl (0, [(1, 24)])))] kC407 [(1, [(2, 0, 1)])] = true := by decide +kernel
theorem iq_predictor_2_10_3_2 : postB kC407 [] iC2 [(1, [(2, 0, 1)])] = true := by decide +kernel
theorem ip_predictor_2_10_3_4 : preB iC2 [(10, 15), (1, 64)] [some (.inl 0), some (.inr (.inl (0, [(1, 23)]))), some (.inr (.inl (3, []))), some (.inr (.inl (4, []))), some (.inr (.inl (0, [(1, 24)])))] kC408 [(1, [(2, 0, 1)])] = true := by decide +kernel
theorem iq_predictor_2_10_3_4 : postB kC408 [] iC2 [(1, [(2, 0, 1)])] = true := by decide +kernel
theorem ip_predictor_2_10_3_8 : preB iC2 [(10, 15), (1, 64)] [some (.inl 0), some (.inr (.inl (0, [(1, 23)]))), some (.inr (.inl (3, []))), some (.inr (.inl (8, []))), some (.inr (.inl (0, [(1, 24)])))] kC409 [(1, [(2, 0, 1)])] = true := by decide +kernel
theorem iq_predictor_2_10_3_8 : postB kC409 [] iC2 [(1, [(2, 0, 1)])] = true := by decide +kernel
theorem ip_predictor_2_10_4_1 : preB iC2 [(10, 15), (1, 64)] [some (.inl 0), some (.inr (.inl (0, [(1, 23)]))), some (.inr (.inl (4, []))), some (.inr (.inl (1, []))), some (.inr (.inl (0, [(1, 24)])))] kC410 [(1, [(2, 0, 1)])] = true := by decide +kernel
theorem iq_predictor_2_10_4_1 : postB kC410 [] iC2 [(1, [(2, 0, 1)])] = true := by decide +kernel
theorem ip_predictor_2_10_4_2 : preB iC2 [(10, 15), (1, 64)] [some (.inl 0), some (.inr (.inl (0, [(1, 23)]))), some (.inr (.inl (4, []))), some (.inr (.inl (2, []))), some (.inr (.inl (0, [(1, 24)])))] kC411 [(1, [(2, 0, 1)])] = true := by decide +kernel
theorem iq_predictor_2_10_4_2 : postB kC411 [] iC2 [(1, [(2, 0, 1)])] = true := by decide +kernel
theorem ip_predictor_2_10_4_4 : preB iC2 [(10, 15), (1, 64)] [some (.inl 0), some (.inr (.inl (0, [(1, 23)]))), some (.inr (.inl (4, []))), some (.inr (.inl (4, []))), some (.inr (.inl (0, [(1, 24)])))] kC412 [(1, [(2, 0, 1)])] = true := by decide +kernel
theorem iq_predictor_2_10_4_4 : postB kC412 [] iC2 [(1, [(2, 0, 1)])] = true := by decide +kernel
theorem ip_predictor_2_10_4_8 : preB iC2 [(10, 15), (1, 64)] [some (.inl 0), some (.inr (.inl (0, [(1, 23)]))), some (.inr (.inl (4, []))), some (.inr (.inl (8, []))), some (.inr (.inl (0, [(1, 24)])))] kC413 [(1, [(2, 0, 1)])] = true := by decide +kernel
theorem iq_predictor_2_10_4_8 : postB kC413 [] iC2 [(1, [(2, 0, 1)])] = true := by decide +kernel
theorem ip_differs_2 : preB iC2 [] [some (.inl 0)] kC363 [(1, [(2, 0, 1)])] = true := by decide +kernel
theorem iq_differs_2 : postB kC363 [] iC2 [(1, [(2, 0, 1)])] = true := by decide +kernel
theorem ip_table_2 : preB iC2 [((-2147483648), 2147483647)] [some (.inl 0), some (.inr (.inl (0, [(1, 23)])))] kC414 [(1, [(2, 0, 1)])] = true := by decide +kernel
theorem iq_table_2 : postB kC414 [] iC2 [(1, [(2, 0, 1)])] = true := by decide +kernel
theorem ip_pack_2 : preB iC2 [(0, 4), ((-2147483648), 2147483647)] [some (.inl 0), some (.inr (.inl (0, [(1, 23)]))), some (.inr (.inl (0, [(1, 24)])))] kX12 [(1, [(2, 0, 1)])] = true := by decide +kernel
theorem iq_pack_2 : postB kX12 [] iC3 [(1, [(2, 1, 1)])] = true := by decide +kernel
theorem it_pack_2_30 : thrB ((pdCuts pX12).getD 0 default).2.1 iC2 [(1, [(2, 0, 1)])] = true := by decide +kernel
theorem it_pack_2_61 : thrB ((pdCuts pX12).getD 1 default).2.1 iC2 [(1, [(2, 0, 1)])] = true := by decide +kernel
theorem ip_packn_2 : preB iC2 [((-2147483648), (-1)), ((-2147483648), 2147483647)] [some (.inl 0), some (.inr (.inl (0, [(1, 23)]))), some (.inr (.inl (0, [(1, 24)])))] kX13 [(1, [(2, 0, 1)])] = true := by decide +kernel
theorem iq_packn_2 : postB kX13 [] iC2 [(1, [(2, 0, 1)])] = true := by decide +kernel
theorem it_packn_2_7 : thrB ((pdCuts pX13).getD 0 default).2.1 iC2 [(1, [(2, 0, 1)])] = true := by decide +kernel
theorem ip_packp_2 : preB iC2 [(5, 2147483647), ((-2147483648), 2147483647)] [some (.inl 0), some (.inr (.inl (0, [(1, 23)]))), some (.inr (.inl (0, [(1, 24)])))] kX14 [(1, [(2, 0, 1)])] = true := by decide +kernel
theorem iq_packp_2 : postB kX14 [] iC2 [(1, [(2, 0, 1)])] = true := by decide +kernel
theorem it_packp_2_7 : thrB ((pdCuts pX14).getD 0 default).2.1 iC2 [(1, [(2, 0, 1)])] = true := by decide +kernel
theorem ip_chain_2 : preB iC2 [(0, 4)] [some (.inl 0), some (.inr (.inl (0, [(1, 23)])))] kX15 [(1, [(2, 0, 1)])] = true := by decide +kernel
theorem iq_chain_2 : postB kX15 [] iC3 [(1, [(2, 5, 1), (2, 11, 1)])] = true := by decide +kernel
theorem it_chain_2_66 : thrB ((pdCuts pX15).getD 0 default).2.1 iC2 [(1, [(2, 0, 1)])] = true := by decide +kernel
theorem ip_chainm_2 : preB iC2 [((-1), (-1))] [some (.inl 0), some (.inr (.inl (0, [(1, 23)])))] kX16 [(1, [(2, 0, 1)])] = true := by decide +kernel
theorem iq_chainm_2 : postB kX16 [] iC2 [(1, [(2, 0, 1)])] = true := by decide +kernel
theorem ip_chainn_2 : preB iC2 [((-2147483648), (-2))] [some (.inl 0), some (.inr (.inl (0, [(1, 23)])))] kX17 [(1, [(2, 0, 1)])] = true := by decide +kernel
theorem iq_chainn_2 : postB kX17 [] iC2 [(1, [(2, 0, 1)])] = true := by decide +kernel
theorem it_chainn_2_12 : thrB ((pdCuts pX17).getD 0 default).2.1 iC2 [(1, [(2, 0, 1)])] = true := by decide +kernel
theorem ip_chainp_2 : preB iC2 [(5, 2147483647)] [some (.inl 0), some (.inr (.inl (0, [(1, 23)])))] kX18 [(1, [(2, 0, 1)])] = true := by decide +kernel
theorem iq_chainp_2 : postB kX18 [] iC2 [(1, [(2, 0, 1)])] = true := by decide +kernel
theorem it_chainp_2_12 : thrB ((pdCuts pX18).getD 0 default).2.1 iC2 [(1, [(2, 0, 1)])] = true := by decide +kernel
theorem ip_add_2 : preB iC2 [((-128), 127)] [some (.inl 0), some (.inr (.inl (0, [(1, 23)])))] kX19 [(1, [(2, 0, 1)])] = true := by decide +kernel
theorem iq_add_2 : postB kX19 [] iC2 [(1, [(2, 0, 1)])] = true := by decide +kernel
theorem it_add_2_12 : thrB ((pdCuts pX19).getD 0 default).2.1 iC2 [(1, [(2, 0, 1)])] = true := by decide +kernel
theorem ip_out_2 : preB iC2 [((-2147483648), 2147483647)] [some (.inl 0), some (.inr (.inl (0, [(1, 23)])))] kX20 [(1, [(2, 0, 1)])] = true := by decide +kernel
theorem iq_out_2 : postB kX20 [] iC2 [(1, [(2, 0, 1)])] = true := by decide +kernel
theorem it_out_2_21 : thrB ((pdCuts pX20).getD 0 default).2.1 iC2 [(1, [(2, 0, 1)])] = true := by decide +kernel
theorem ip_cell_2 : preB iC2 [((-2147483648), 2147483647)] [some (.inl 0), some (.inr (.inl (0, [(1, 23)])))] kX21 [(1, [(2, 0, 1)])] = true := by decide +kernel
theorem iq_cell_2 : postB kX21 [] iC2 [(1, [(2, 0, 1)])] = true := by decide +kernel
theorem it_cell_2_25 : thrB ((pdCuts pX21).getD 0 default).2.1 iC2 [(1, [(2, 0, 1)])] = true := by decide +kernel
theorem ip_sum_2 : preB iC2 [((-2147483648), 2147483647)] [some (.inl 0), some (.inr (.inl (0, [(1, 23)])))] kX22 [(1, [(2, 0, 1)])] = true := by decide +kernel
theorem iq_sum_2 : postB kX22 [] iC2 [(1, [(2, 0, 1)])] = true := by decide +kernel
theorem it_sum_2_9 : thrB ((pdCuts pX22).getD 0 default).2.1 iC2 [(1, [(2, 0, 1)])] = true := by decide +kernel
theorem ip_unpack_2 : preB iC2 [((-2147483648), 2147483647)] [some (.inl 0), some (.inr (.inl (0, [(1, 23)])))] kX23 [(1, [(2, 0, 1)])] = true := by decide +kernel
theorem iq_unpack_2 : postB kX23 [] iC3 [(1, [(2, 3, 1)])] = true := by decide +kernel
theorem it_unpack_2_7 : thrB ((pdCuts pX23).getD 0 default).2.1 iC2 [(1, [(2, 0, 1)])] = true := by decide +kernel
theorem iq_init : postB kC431 [] iC3 [] = true := by decide +kernel
theorem jp_differs_0 : preB iM0 [] [some (.inl 0)] kM112 [] = true := by decide +kernel
theorem jq_differs_0 : postB kM112 [] iM0 [] = true := by decide +kernel
theorem jp_table_0 : preB iM0 [((-2147483648), 2147483647)] [some (.inl 0), some (.inr (.inl (0, [(1, 22)])))] kM106 [] = true := by decide +kernel
theorem jq_table_0 : postB kM106 [] iM0 [] = true := by decide +kernel
theorem jp_add_0 : preB iM0 [((-128), 127)] [some (.inl 0), some (.inr (.inl (0, [(1, 22)])))] kM100 [] = true := by decide +kernel
theorem jq_add_0 : postB kM100 [] iM0 [] = true := by decide +kernel
theorem jp_out_0 : preB iM0 [((-2147483648), 2147483647)] [some (.inl 0), some (.inr (.inl (0, [(1, 22)])))] kM103 [] = true := by decide +kernel
theorem jq_out_0 : postB kM103 [] iM0 [] = true := by decide +kernel
theorem jp_sum_0 : preB iM0 [((-2147483648), 2147483647)] [some (.inl 0), some (.inr (.inl (0, [(1, 22)])))] kM109 [] = true := by decide +kernel
theorem jq_sum_0 : postB kM109 [] iM0 [] = true := by decide +kernel
theorem jp_cell_0 : preB iM0 [((-2147483648), 2147483647)] [some (.inl 0), some (.inr (.inl (0, [(1, 22)])))] kM115 [] = true := by decide +kernel
theorem jq_cell_0 : postB kM115 [] iM0 [] = true := by decide +kernel
theorem jp_unpack_0 : preB iM0 [((-2147483648), 2147483647)] [some (.inl 0), some (.inr (.inl (0, [(1, 22)])))] kM97 [] = true := by decide +kernel
theorem jq_unpack_0 : postB kM97 [] iM0 [] = true := by decide +kernel
theorem jp_pack_0 : preB iM0 [((-2147483648), 2147483647), ((-2147483648), 2147483647)] [some (.inl 0), some (.inr (.inl (0, [(1, 22)]))), some (.inr (.inl (0, [(1, 23)])))] kM90 [] = true := by decide +kernel
theorem jq_pack_0 : postB kM90 [] iM0 [] = true := by decide +kernel
theorem jp_chain_0 : preB iM0 [((-2147483648), 2147483647)] [some (.inl 0), some (.inr (.inl (0, [(1, 22)])))] kM91 [] = true := by decide +kernel
theorem jq_chain_0 : postB kM91 [] iM0 [] = true := by decide +kernel
theorem jp_predictor_0_kn : preB iM0 [((-2147483648), (-1)), ((-2147483648), 2147483647), ((-2147483648), 2147483647), ((-2147483648), 2147483647)] [some (.inl 0), some (.inr (.inl (0, [(1, 22)]))), some (.inr (.inl (0, [(1, 23)]))), some (.inr (.inl (0, [(1, 24)]))), some (.inr (.inl (0, [(1, 25)])))] kM134 [] = true := by decide +kernel
theorem jq_predictor_0_kn : postB kM134 [] iM0 [] = true := by decide +kernel
theorem jp_predictor_0_k1 : preB iM0 [(1, 1), ((-2147483648), 2147483647), ((-2147483648), 2147483647), ((-2147483648), 2147483647)] [some (.inl 0), some (.inr (.inl (0, [(1, 22)]))), some (.inr (.inl (0, [(1, 23)]))), some (.inr (.inl (0, [(1, 24)]))), some (.inr (.inl (0, [(1, 25)])))] kM135 [] = true := by decide +kernel
theorem jq_predictor_0_k1 : postB kM135 [] iM0 [] = true := by decide +kernel
theorem jp_predictor_0_k3 : preB iM0 [(3, 9), ((-2147483648), 2147483647), ((-2147483648), 2147483647), ((-2147483648), 2147483647)] [some (.inl 0), some (.inr (.inl (0, [(1, 22)]))), some (.inr (.inl (0, [(1, 23)]))), some (.inr (.inl (0, [(1, 24)]))), some (.inr (.inl (0, [(1, 25)])))] kM136 [] = true := by decide +kernel
theorem jq_predictor_0_k3 : postB kM136 [] iM0 [] = true := by decide +kernel
theorem jp_predictor_0_k16 : preB iM0 [(16, 2147483647), ((-2147483648), 2147483647), ((-2147483648), 2147483647), ((-2147483648), 2147483647)] [some (.inl 0), some (.inr (.inl (0, [(1, 22)]))), some (.inr (.inl (0, [(1, 23)]))), some (.inr (.inl (0, [(1, 24)]))), some (.inr (.inl (0, [(1, 25)])))] kM137 [] = true := by decide +kernel
theorem jq_predictor_0_k16 : postB kM137 [] iM0 [] = true := by decide +kernel
theorem jp_predictor_0_cn : preB iM0 [((-2147483648), 2147483647), ((-2147483648), 0), ((-2147483648), 2147483647), ((-2147483648), 2147483647)] [some (.inl 0), some (.inr (.inl (0, [(1, 22)]))), some (.inr (.inl (0, [(1, 23)]))), some (.inr (.inl (0, [(1, 24)]))), some (.inr (.inl (0, [(1, 25)])))] kM138 [] = true := by decide +kernel
theorem jq_predictor_0_cn : postB kM138 [] iM0 [] = true := by decide +kernel
theorem jp_predictor_0_c5 : preB iM0 [((-2147483648), 2147483647), (5, 2147483647), ((-2147483648), 2147483647), ((-2147483648), 2147483647)] [some (.inl 0), some (.inr (.inl (0, [(1, 22)]))), some (.inr (.inl (0, [(1, 23)]))), some (.inr (.inl (0, [(1, 24)]))), some (.inr (.inl (0, [(1, 25)])))] kM139 [] = true := by decide +kernel
theorem jq_predictor_0_c5 : postB kM139 [] iM0 [] = true := by decide +kernel
theorem jp_predictor_0_wn : preB iM0 [((-2147483648), 2147483647), ((-2147483648), 2147483647), ((-2147483648), 2147483647), ((-2147483648), 0)] [some (.inl 0), some (.inr (.inl (0, [(1, 22)]))), some (.inr (.inl (0, [(1, 23)]))), some (.inr (.inl (0, [(1, 24)]))), some (.inr (.inl (0, [(1, 25)])))] kM140 [] = true := by decide +kernel
theorem jq_predictor_0_wn : postB kM140 [] iM0 [] = true := by decide +kernel
theorem jp_predictor_0_w65 : preB iM0 [((-2147483648), 2147483647), ((-2147483648), 2147483647), ((-2147483648), 2147483647), (65, 2147483647)] [some (.inl 0), some (.inr (.inl (0, [(1, 22)]))), some (.inr (.inl (0, [(1, 23)]))), some (.inr (.inl (0, [(1, 24)]))), some (.inr (.inl (0, [(1, 25)])))] kM141 [] = true := by decide +kernel
theorem jq_predictor_0_w65 : postB kM141 [] iM0 [] = true := by decide +kernel
theorem jp_predictor_0_bn : preB iM0 [((-2147483648), 2147483647), ((-2147483648), 2147483647), ((-2147483648), 0), ((-2147483648), 2147483647)] [some (.inl 0), some (.inr (.inl (0, [(1, 22)]))), some (.inr (.inl (0, [(1, 23)]))), some (.inr (.inl (0, [(1, 24)]))), some (.inr (.inl (0, [(1, 25)])))] kM142 [] = true := by decide +kernel
theorem jq_predictor_0_bn : postB kM142 [] iM0 [] = true := by decide +kernel
theorem jp_predictor_0_b3 : preB iM0 [((-2147483648), 2147483647), ((-2147483648), 2147483647), (3, 3), ((-2147483648), 2147483647)] [some (.inl 0), some (.inr (.inl (0, [(1, 22)]))), some (.inr (.inl (0, [(1, 23)]))), some (.inr (.inl (0, [(1, 24)]))), some (.inr (.inl (0, [(1, 25)])))] kM143 [] = true := by decide +kernel
theorem jq_predictor_0_b3 : postB kM143 [] iM0 [] = true := by decide +kernel
theorem jp_predictor_0_b5 : preB iM0 [((-2147483648), 2147483647), ((-2147483648), 2147483647), (5, 7), ((-2147483648), 2147483647)] [some (.inl 0), some (.inr (.inl (0, [(1, 22)]))), some (.inr (.inl (0, [(1, 23)]))), some (.inr (.inl (0, [(1, 24)]))), some (.inr (.inl (0, [(1, 25)])))] kM144 [] = true := by decide +kernel
theorem jq_predictor_0_b5 : postB kM144 [] iM0 [] = true := by decide +kernel
theorem jp_predictor_0_b9 : preB iM0 [((-2147483648), 2147483647), ((-2147483648), 2147483647), (9, 2147483647), ((-2147483648), 2147483647)] [some (.inl 0), some (.inr (.inl (0, [(1, 22)]))), some (.inr (.inl (0, [(1, 23)]))), some (.inr (.inl (0, [(1, 24)]))), some (.inr (.inl (0, [(1, 25)])))] kM145 [] = true := by decide +kernel
theorem jq_predictor_0_b9 : postB kM145 [] iM0 [] = true := by decide +kernel
theorem jp_predictor_0_t1 : preB iM0 [(2, 2), ((-2147483648), 2147483647), (1, 2), ((-2147483648), 2147483647)] [some (.inl 0), some (.inr (.inl (0, [(1, 22)]))), some (.inr (.inl (0, [(1, 23)]))), some (.inr (.inl (0, [(1, 24)]))), some (.inr (.inl (0, [(1, 25)])))] kM146 [] = true := by decide +kernel
theorem jq_predictor_0_t1 : postB kM146 [] iM0 [] = true := by decide +kernel
theorem jp_predictor_0_t4 : preB iM0 [(2, 2), ((-2147483648), 2147483647), (4, 4), ((-2147483648), 2147483647)] [some (.inl 0), some (.inr (.inl (0, [(1, 22)]))), some (.inr (.inl (0, [(1, 23)]))), some (.inr (.inl (0, [(1, 24)]))), some (.inr (.inl (0, [(1, 25)])))] kM147 [] = true := by decide +kernel
theorem jq_predictor_0_t4 : postB kM147 [] iM0 [] = true := by decide +kernel
theorem jp_predictor_0_0_1_1 : preB iM0 [(0, 0), (1, 64)] [some (.inl 0), some (.inr (.inl (0, [(1, 22)]))), some (.inr (.inl (1, []))), some (.inr (.inl (1, []))), some (.inr (.inl (0, [(1, 23)])))] kM176 [] = true := by decide +kernel
theorem jq_predictor_0_1_1 : postB kM176 [] iM0 [] = true := by decide +kernel
theorem jp_predictor_0_0_1_2 : preB iM0 [(0, 0), (1, 64)] [some (.inl 0), some (.inr (.inl (0, [(1, 22)]))), some (.inr (.inl (1, []))), some (.inr (.inl (2, []))), some (.inr (.inl (0, [(1, 23)])))] kM177 [] = true := by decide +kernel
theorem jq_predictor_0_1_2 : postB kM177 [] iM0 [] = true := by decide +kernel
theorem jp_predictor_0_0_1_4 : preB iM0 [(0, 0), (1, 64)] [some (.inl 0), some (.inr (.inl (0, [(1, 22)]))), some (.inr (.inl (1, []))), some (.inr (.inl (4, []))), some (.inr (.inl (0, [(1, 23)])))] kM178 [] = true := by decide +kernel
theorem jq_predictor_0_1_4 : postB kM178 [] iM0 [] = true := by decide +kernel
theorem jp_predictor_0_0_1_8 : preB iM0 [(0, 0), (1, 64)] [some (.inl 0), some (.inr (.inl (0, [(1, 22)]))), some (.inr (.inl (1, []))), some (.inr (.inl (8, []))), some (.inr (.inl (0, [(1, 23)])))] kM179 [] = true := by decide +kernel
theorem jq_predictor_0_1_8 : postB kM179 [] iM0 [] = true := by decide +kernel
theorem jp_predictor_0_0_2_1 : preB iM0 [(0, 0), (1, 64)] [some (.inl 0), some (.inr (.inl (0, [(1, 22)]))), some (.inr (.inl (2, []))), some (.inr (.inl (1, []))), some (.inr (.inl (0, [(1, 23)])))] kM180 [] = true := by decide +kernel
theorem jq_predictor_0_2_1 : postB kM180 [] iM0 [] = true := by decide +kernel
theorem jp_predictor_0_0_2_2 : preB iM0 [(0, 0), (1, 64)] [some (.inl 0), some (.inr (.inl (0, [(1, 22)]))), some (.inr (.inl (2, []))), some (.inr (.inl (2, []))), some (.inr (.inl (0, [(1, 23)])))] kM181 [] = true := by decide +kernel
theorem jq_predictor_0_2_2 : postB kM181 [] iM0 [] = true := by decide +kernel
theorem jp_predictor_0_0_2_4 : preB iM0 [(0, 0), (1, 64)] [some (.inl 0), some (.inr (.inl (0, [(1, 22)]))), some (.inr (.inl (2, []))), some (.inr (.inl (4, []))), some (.inr (.inl (0, [(1, 23)])))] kM182 [] = true := by decide +kernel
theorem jq_predictor_0_2_4 : postB kM182 [] iM0 [] = true := by decide +kernel
theorem jp_predictor_0_0_2_8 : preB iM0 [(0, 0), (1, 64)] [some (.inl 0), some (.inr (.inl (0, [(1, 22)]))), some (.inr (.inl (2, []))), some (.inr (.inl (8, []))), some (.inr (.inl (0, [(1, 23)])))] kM183 [] = true := by decide +kernel
theorem jq_predictor_0_2_8 : postB kM183 [] iM0 [] = true := by decide +kernel
theorem jp_predictor_0_0_3_1 : preB iM0 [(0, 0), (1, 64)] [some (.inl 0), some (.inr (.inl (0, [(1, 22)]))), some (.inr (.inl (3, []))), some (.inr (.inl (1, []))), some (.inr (.inl (0, [(1, 23)])))] kM184 [] = true := by decide +kernel
theorem jq_predictor_0_3_1 : postB kM184 [] iM0 [] = true := by decide +kernel
theorem jp_predictor_0_0_3_2 : preB iM0 [(0, 0), (1, 64)] [some (.inl 0), some (.inr (.inl (0, [(1, 22)]))), some (.inr (.inl (3, []))), some (.inr (.inl (2, []))), some (.inr (.inl (0, [(1, 23)])))] kM185 [] = true := by decide +kernel
theorem jq_predictor_0_3_2 : postB kM185 [] iM0 [] = true := by decide +kernel
theorem jp_predictor_0_0_3_4 : preB iM0 [(0, 0), (1, 64)] [some (.inl 0), some (.inr (.inl (0, [(1, 22)]))), some (.inr (.inl (3, []))), some (.inr (.inl (4, []))), some (.inr (.inl (0, [(1, 23)])))] kM186 [] = true := by decide +kernel
theorem jq_predictor_0_3_4 : postB kM186 [] iM0 [] = true := by decide +kernel
theorem jp_predictor_0_0_3_8 : preB iM0 [(0, 0), (1, 64)] [some (.inl 0), some (.inr (.inl (0, [(1, 22)]))), some (.inr (.inl (3, []))), some (.inr (.inl (8, []))), some (.inr (.inl (0, [(1, 23)])))] kM187 [] = true := by decide +kernel
theorem jq_predictor_0_3_8 : postB kM187 [] iM0 [] = true := by decide +kernel
theorem jp_predictor_0_0_4_1 : preB iM0 [(0, 0), (1, 64)] [some (.inl 0), some (.inr (.inl (0, [(1, 22)]))), some (.inr (.inl (4, []))), some (.inr (.inl (1, []))), some (.inr (.inl (0, [(1, 23)])))] kM188 [] = true := by decide +kernel
theorem jq_predictor_0_4_1 : postB kM188 [] iM0 [] = true := by decide +kernel
theorem jp_predictor_0_0_4_2 : preB iM0 [(0, 0), (1, 64)] [some (.inl 0), some (.inr (.inl (0, [(1, 22)]))), some (.inr (.inl (4, []))), some (.inr (.inl (2, []))), some (.inr (.inl (0, [(1, 23)])))] kM189 [] = true := by decide +kernel
theorem jq_predictor_0_4_2 : postB kM189 [] iM0 [] = true := by decide +kernel
theorem jp_predictor_0_0_4_4 : preB iM0 [(0, 0), (1, 64)] [some (.inl 0), some (.inr (.inl (0, [(1, 22)]))), some (.inr (.inl (4, []))), some (.inr (.inl (4, []))), some (.inr (.inl (0, [(1, 23)])))] kM190 [] = true := by decide +kernel
theorem jq_predictor_0_4_4 : postB kM190 [] iM0 [] = true := by decide +kernel
theorem jp_predictor_0_0_4_8 : preB iM0 [(0, 0), (1, 64)] [some (.inl 0), some (.inr (.inl (0, [(1, 22)]))), some (.inr (.inl (4, []))), some (.inr (.inl (8, []))), some (.inr (.inl (0, [(1, 23)])))] kM191 [] = true := by decide +kernel
theorem jq_predictor_0_4_8 : postB kM191 [] iM0 [] = true := by decide +kernel
theorem jp_predictor_0_2_1_8 : preB iM0 [(2, 2), (1, 64)] [some (.inl 0), some (.inr (.inl (0, [(1, 22)]))), some (.inr (.inl (1, []))), some (.inr (.inl (8, []))), some (.inr (.inl (0, [(1, 23)])))] kM192 [] = true := by decide +kernel
theorem jq_predictor_2_1_8 : postB kM192 [] iM2 [] = true := by decide +kernel
theorem jp_predictor_0_2_2_8 : preB iM0 [(2, 2), (1, 64)] [some (.inl 0), some (.inr (.inl (0, [(1, 22)]))), some (.inr (.inl (2, []))), some (.inr (.inl (8, []))), some (.inr (.inl (0, [(1, 23)])))] kM193 [] = true := by decide +kernel
theorem jq_predictor_2_2_8 : postB kM193 [] iM2 [] = true := by decide +kernel
theorem jp_predictor_0_2_3_8 : preB iM0 [(2, 2), (1, 64)] [some (.inl 0), some (.inr (.inl (0, [(1, 22)]))), some (.inr (.inl (3, []))), some (.inr (.inl (8, []))), some (.inr (.inl (0, [(1, 23)])))] kM194 [] = true := by decide +kernel
theorem jq_predictor_2_3_8 : postB kM194 [] iM2 [] = true := by decide +kernel
theorem jp_predictor_0_2_4_8 : preB iM0 [(2, 2), (1, 64)] [some (.inl 0), some (.inr (.inl (0, [(1, 22)]))), some (.inr (.inl (4, []))), some (.inr (.inl (8, []))), some (.inr (.inl (0, [(1, 23)])))] kM195 [] = true := by decide +kernel
theorem jq_predictor_2_4_8 : postB kM195 [] iM2 [] = true := by decide +kernel
theorem jp_predictor_0_10_1_1 : preB iM0 [(10, 15), (1, 64)] [some (.inl 0), some (.inr (.inl (0, [(1, 22)]))), some (.inr (.inl (1, []))), some (.inr (.inl (1, []))), some (.inr (.inl (0, [(1, 23)])))] kM196 [] = true := by decide +kernel
theorem jq_predictor_10_1_1 : postB kM196 [] iM10 [] = true := by decide +kernel
theorem jp_predictor_0_10_1_2 : preB iM0 [(10, 15), (1, 64)] [some (.inl 0), some (.inr (.inl (0, [(1, 22)]))), some (.inr (.inl (1, []))), some (.inr (.inl (2, []))), some (.inr (.inl (0, [(1, 23)])))] kM197 [] = true := by decide +kernel
theorem jq_predictor_10_1_2 : postB kM197 [] iM10 [] = true := by decide +kernel
theorem jp_predictor_0_10_1_4 : preB iM0 [(10, 15), (1, 64)] [some (.inl 0), some (.inr (.inl (0, [(1, 22)]))), some (.inr (.inl (1, []))), some (.inr (.inl (4, []))), some (.inr (.inl (0, [(1, 23)])))] kM198 [] = true := by decide +kernel
theorem jq_predictor_10_1_4 : postB kM198 [] iM10 [] = true := by decide +kernel
theorem jp_predictor_0_10_1_8 : preB iM0 [(10, 15), (1, 64)] [some (.inl 0), some (.inr (.inl (0, [(1, 22)]))), some (.inr (.inl (1, []))), some (.inr (.inl (8, []))), some (.inr (.inl (0, [(1, 23)])))] kM199 [] = true := by decide +kernel
theorem jq_predictor_10_1_8 : postB kM199 [] iM10 [] = true := by decide +kernel
theorem jp_predictor_0_10_2_1 : preB iM0 [(10, 15), (1, 64)] [some (.inl 0), some (.inr (.inl (0, [(1, 22)]))), some (.inr (.inl (2, []))), some (.inr (.inl (1, []))), some (.inr (.inl (0, [(1, 23)])))] kM200 [] = true := by decide +kernel
theorem jq_predictor_10_2_1 : postB kM200 [] iM10 [] = true := by decide +kernel
theorem jp_predictor_0_10_2_2 : preB iM0 [(10, 15), (1, 64)] [some (.inl 0), some (.inr (.inl (0, [(1, 22)]))), some (.inr (.inl (2, []))), some (.inr (.inl (2, []))), some (.inr (.inl (0, [(1, 23)])))] kM201 [] = true := by decide +kernel
theorem jq_predictor_10_2_2 : postB kM201 [] iM10 [] = true := by decide +kernel
theorem jp_predictor_0_10_2_4 : preB iM0 [(10, 15), (1, 64)] [some (.inl 0), some (.inr (.inl (0, [(1, 22)]))), some (.inr (.inl (2, []))), some (.inr (.inl (4, []))), some (.inr (.inl (0, [(1, 23)])))] kM202 [] = true := by decide +kernel
theorem jq_predictor_10_2_4 : postB kM202 [] iM10 [] = true := by decide +kernel
theorem jp_predictor_0_10_2_8 : preB iM0 [(10, 15), (1, 64)] [some (.inl 0), some (.inr (.inl (0, [(1, 22)]))), some (.inr (.inl (2, []))), some (.inr (.inl (8, []))), some (.inr (.inl (0, [(1, 23)])))] kM203 [] = true := by decide +kernel
theorem jq_predictor_10_2_8 : postB kM203 [] iM10 [] = true := by decide +kernel
theorem jp_predictor_0_10_3_1 : preB iM0 [(10, 15), (1, 64)] [some (.inl 0), some (.inr (.inl (0, [(1, 22)]))), some (.inr (.inl (3, []))), some (.inr (.inl (1, []))), some (.inr (.inl (0, [(1, 23)])))] kM204 [] = true := by decide +kernel
theorem jq_predictor_10_3_1 : postB kM204 [] iM10 [] = true := by decide +kernel
theorem jp_predictor_0_10_3_2 : preB iM0 [(10, 15), (1, 64)] [some (.inl 0), some (.inr (.inl (0, [(1, 22)]))), some (.inr (.inl (3, []))), some (.inr (.inl (2, []))), some (.inr (.inl (0, [(1, 23)])))] kM205 [] = true := by decide +kernel
theorem jq_predictor_10_3_2 : postB kM205 [] iM10 [] = true := by decide +kernel
theorem jp_predictor_0_10_3_4 : preB iM0 [(10, 15), (1, 64)] [some (.inl 0), some (.inr (.inl (0, [(1, 22)]))), some (.inr (.inl (3, []))), some (.inr (.inl (4, []))), some (.inr (.inl (0, [(1, 23)])))] kM206 [] = true := by decide +kernel
theorem jq_predictor_10_3_4 : postB kM206 [] iM10 [] = true := by decide +kernel
theorem jp_predictor_0_10_3_8 : preB iM0 [(10, 15), (1, 64)] [some (.inl 0), some (.inr (.inl (0, [(1, 22)]))), some (.inr (.inl (3, []))), some (.inr (.inl (8, []))), some (.inr (.inl (0, [(1, 23)])))] kM207 [] = true := by decide +kernel
theorem jq_predictor_10_3_8 : postB kM207 [] iM10 [] = true := by decide +kernel
theorem jp_predictor_0_10_4_1 : preB iM0 [(10, 15), (1, 64)] [some (.inl 0), some (.inr (.inl (0, [(1, 22)]))), some (.inr (.inl (4, []))), some (.inr (.inl (1, []))), some (.inr (.inl (0, [(1, 23)])))] kM208 [] = true := by decide +kernel
theorem jq_predictor_10_4_1 : postB kM208 [] iM10 [] = true := by decide +kernel
theorem jp_predictor_0_10_4_2 : preB iM0 [(10, 15), (1, 64)] [some (.inl 0), some (.inr (.inl (0, [(1, 22)]))), some (.inr (.inl (4, []))), some (.inr (.inl (2, []))), some (.inr (.inl (0, [(1, 23)])))] kM209 [] = true := by decide +kernel
theorem jq_predictor_10_4_2 : postB kM209 [] iM10 [] = true := by decide +kernel
theorem jp_predictor_0_10_4_4 : preB iM0 [(10, 15), (1, 64)] [some (.inl 0), some (.inr (.inl (0, [(1, 22)]))), some (.inr (.inl (4, []))), some (.inr (.inl (4, []))), some (.inr (.inl (0, [(1, 23)])))] kM210 [] = true := by decide +kernel
theorem jq_predictor_10_4_4 : postB kM210 [] iM10 [] = true := by decide +kernel
theorem jp_predictor_0_10_4_8 : preB iM0 [(10, 15), (1, 64)] [some (.inl 0), some (.inr (.inl (0, [(1, 22)]))), some (.inr (.inl (4, []))), some (.inr (.inl (8, []))), some (.inr (.inl (0, [(1, 23)])))] kM211 [] = true := by decide +kernel
theorem jq_predictor_10_4_8 : postB kM211 [] iM10 [] = true := by decide +kernel
theorem jp_differs_2 : preB iM2 [] [some (.inl 0)] kM113 [] = true := by decide +kernel
theorem jq_differs_2 : postB kM113 [] iM2 [] = true := by decide +kernel
theorem jp_table_2 : preB iM2 [((-2147483648), 2147483647)] [some (.inl 0), some (.inr (.inl (0, [(1, 22)])))] kM107 [] = true := by decide +kernel
theorem jq_table_2 : postB kM107 [] iM2 [] = true := by decide +kernel
theorem jp_add_2 : preB iM2 [((-128), 127)] [some (.inl 0), some (.inr (.inl (0, [(1, 22)])))] kM101 [] = true := by decide +kernel
theorem jq_add_2 : postB kM101 [] iM2 [] = true := by decide +kernel
theorem jp_out_2 : preB iM2 [((-2147483648), 2147483647)] [some (.inl 0), some (.inr (.inl (0, [(1, 22)])))] kM104 [] = true := by decide +kernel
theorem jq_out_2 : postB kM104 [] iM2 [] = true := by decide +kernel
theorem jp_sum_2 : preB iM2 [((-2147483648), 2147483647)] [some (.inl 0), some (.inr (.inl (0, [(1, 22)])))] kM110 [] = true := by decide +kernel
theorem jq_sum_2 : postB kM110 [] iM2 [] = true := by decide +kernel
theorem jp_cell_2 : preB iM2 [((-2147483648), 2147483647)] [some (.inl 0), some (.inr (.inl (0, [(1, 22)])))] kM116 [] = true := by decide +kernel
theorem jq_cell_2 : postB kM116 [] iM2 [] = true := by decide +kernel
theorem jp_unpack_2 : preB iM2 [((-2147483648), 2147483647)] [some (.inl 0), some (.inr (.inl (0, [(1, 22)])))] kM98 [] = true := by decide +kernel
theorem jq_unpack_2 : postB kM98 [] iM2 [] = true := by decide +kernel
theorem jp_pack_2 : preB iM2 [((-2147483648), 2147483647), ((-2147483648), 2147483647)] [some (.inl 0), some (.inr (.inl (0, [(1, 22)]))), some (.inr (.inl (0, [(1, 23)])))] kM92 [] = true := by decide +kernel
theorem jq_pack_2 : postB kM92 [] iM2 [] = true := by decide +kernel
theorem jp_chain_2 : preB iM2 [((-2147483648), 2147483647)] [some (.inl 0), some (.inr (.inl (0, [(1, 22)])))] kM93 [] = true := by decide +kernel
theorem jq_chain_2 : postB kM93 [] iM2 [] = true := by decide +kernel
theorem jp_predictor_2_kn : preB iM2 [((-2147483648), (-1)), ((-2147483648), 2147483647), ((-2147483648), 2147483647), ((-2147483648), 2147483647)] [some (.inl 0), some (.inr (.inl (0, [(1, 22)]))), some (.inr (.inl (0, [(1, 23)]))), some (.inr (.inl (0, [(1, 24)]))), some (.inr (.inl (0, [(1, 25)])))] kM148 [] = true := by decide +kernel
theorem jq_predictor_2_kn : postB kM148 [] iM2 [] = true := by decide +kernel
theorem jp_predictor_2_k1 : preB iM2 [(1, 1), ((-2147483648), 2147483647), ((-2147483648), 2147483647), ((-2147483648), 2147483647)] [some (.inl 0), some (.inr (.inl (0, [(1, 22)]))), some (.inr (.inl (0, [(1, 23)]))), some (.inr (.inl (0, [(1, 24)]))), some (.inr (.inl (0, [(1, 25)])))] kM149 [] = true := by decide +kernel
theorem jq_predictor_2_k1 : postB kM149 [] iM2 [] = true := by decide +kernel
theorem jp_predictor_2_k3 : preB iM2 [(3, 9), ((-2147483648), 2147483647), ((-2147483648), 2147483647), ((-2147483648), 2147483647)] [some (.inl 0), some (.inr (.inl (0, [(1, 22)]))), some (.inr (.inl (0, [(1, 23)]))), some (.inr (.inl (0, [(1, 24)]))), some (.inr (.inl (0, [(1, 25)])))] kM150 [] = true := by decide +kernel
theorem jq_predictor_2_k3 : postB kM150 [] iM2 [] = true := by decide +kernel
theorem jp_predictor_2_k16 : preB iM2 [(16, 2147483647), ((-2147483648), 2147483647), ((-2147483648), 2147483647), ((-2147483648), 2147483647)] [some (.inl 0), some (.inr (.inl (0, [(1, 22)]))), some (.inr (.inl (0, [(1, 23)]))), some (.inr (.inl (0, [(1, 24)]))), some (.inr (.inl (0, [(1, 25)])))] kM151 [] = true := by decide +kernel
theorem jq_predictor_2_k16 : postB kM151 [] iM2 [] = true := by decide +kernel
theorem jp_predictor_2_cn : preB iM2 [((-2147483648), 2147483647), ((-2147483648), 0), ((-2147483648), 2147483647), ((-2147483648), 2147483647)] [some (.inl 0), some (.inr (.inl (0, [(1, 22)]))), some (.inr (.inl (0, [(1, 23)]))), some (.inr (.inl (0, [(1, 24)]))), some (.inr (.inl (0, [(1, 25)])))] kM152 [] = true := by decide +kernel
theorem jq_predictor_2_cn : postB kM152 [] iM2 [] = true := by decide +kernel
theorem jp_predictor_2_c5 : preB iM2 [((-2147483648), 2147483647), (5, 2147483647), ((-2147483648), 2147483647), ((-2147483648), 2147483647)] [some (.inl 0), some (.inr (.inl (0, [(1, 22)]))), some (.inr (.inl (0, [(1, 23)]))), some (.inr (.inl (0, [(1, 24)]))), some (.inr (.inl (0, [(1, 25)])))] kM153 [] = true := by decide +kernel
theorem jq_predictor_2_c5 : postB kM153 [] iM2 [] = true := by decide +kernel
theorem jp_predictor_2_wn : preB iM2 [((-2147483648), 2147483647), ((-2147483648), 2147483647), ((-2147483648), 2147483647), ((-2147483648), 0)] [some (.inl 0), some (.inr (.inl (0, [(1, 22)]))), some (.inr (.inl (0, [(1, 23)]))), some (.inr (.inl (0, [(1, 24)]))), some (.inr (.inl (0, [(1, 25)])))] kM154 [] = true := by decide +kernel
theorem jq_predictor_2_wn : postB kM154 [] iM2 [] = true := by decide +kernel
theorem jp_predictor_2_w65 : preB iM2 [((-2147483648), 2147483647), ((-2147483648), 2147483647), ((-2147483648), 2147483647), (65, 2147483647)] [some (.inl 0), some (.inr (.inl (0, [(1, 22)]))), some (.inr (.inl (0, [(1, 23)]))), some (.inr (.inl (0, [(1, 24)]))), some (.inr (.inl (0, [(1, 25)])))] kM155 [] = true := by decide +kernel
theorem jq_predictor_2_w65 : postB kM155 [] iM2 [] = true := by decide +kernel
theorem jp_predictor_2_bn : preB iM2 [((-2147483648), 2147483647), ((-2147483648), 2147483647), ((-2147483648), 0), ((-2147483648), 2147483647)] [some (.inl 0), some (.inr (.inl (0, [(1, 22)]))), some (.inr (.inl (0, [(1, 23)]))), some (.inr (.inl (0, [(1, 24)]))), some (.inr (.inl (0, [(1, 25)])))] kM156 [] = true := by decide +kernel
theorem jq_predictor_2_bn : postB kM156 [] iM2 [] = true := by decide +kernel
theorem jp_predictor_2_b3 : preB iM2 [((-2147483648), 2147483647), ((-2147483648), 2147483647), (3, 3), ((-2147483648), 2147483647)] [some (.inl 0), some (.inr (.inl (0, [(1, 22)]))), some (.inr (.inl (0, [(1, 23)]))), some (.inr (.inl (0, [(1, 24)]))), some (.inr (.inl (0, [(1, 25)])))] kM157 [] = true := by decide +kernel
theorem jq_predictor_2_b3 : postB kM157 [] iM2 [] = true := by decide +kernel
theorem jp_predictor_2_b5 : preB iM2 [((-2147483648), 2147483647), ((-2147483648), 2147483647), (5, 7), ((-2147483648), 2147483647)] [some (.inl 0), some (.inr (.inl (0, [(1, 22)]))), some (.inr (.inl (0, [(1, 23)]))), some (.inr (.inl (0, [(1, 24)]))), some (.inr (.inl (0, [(1, 25)])))] kM158 [] = true := by decide +kernel
theorem jq_predictor_2_b5 : postB kM158 [] iM2 [] = true := by decide +kernel
theorem jp_predictor_2_b9 : preB iM2 [((-2147483648), 2147483647), ((-2147483648), 2147483647), (9, 2147483647), ((-2147483648), 2147483647)] [some (.inl 0), some (.inr (.inl (0, [(1, 22)]))), some (.inr (.inl (0, [(1, 23)]))), some (.inr (.inl (0, [(1, 24)]))), some (.inr (.inl (0, [(1, 25)])))] kM159 [] = true := by decide +kernel
theorem jq_predictor_2_b9 : postB kM159 [] iM2 [] = true := by decide +kernel
theorem jp_predictor_2_t1 : preB iM2 [(2, 2), ((-2147483648), 2147483647), (1, 2), ((-2147483648), 2147483647)] [some (.inl 0), some (.inr (.inl (0, [(1, 22)]))), some (.inr (.inl (0, [(1, 23)]))), some (.inr (.inl (0, [(1, 24)]))), some (.inr (.inl (0, [(1, 25)])))] kM160 [] = true := by decide +kernel
theorem jq_predictor_2_t1 : postB kM160 [] iM2 [] = true := by decide +kernel
theorem jp_predictor_2_t4 : preB iM2 [(2, 2), ((-2147483648), 2147483647), (4, 4), ((-2147483648), 2147483647)] [some (.inl 0), some (.inr (.inl (0, [(1, 22)]))), some (.inr (.inl (0, [(1, 23)]))), some (.inr (.inl (0, [(1, 24)]))), some (.inr (.inl (0, [(1, 25)])))] kM161 [] = true := by decide +kernel
theorem jq_predictor_2_t4 : postB kM161 [] iM2 [] = true := by decide +kernel
theorem jp_predictor_2_0_1_1 : preB iM2 [(0, 0), (1, 64)] [some (.inl 0), some (.inr (.inl (0, [(1, 22)]))), some (.inr (.inl (1, []))), some (.inr (.inl (1, []))), some (.inr (.inl (0, [(1, 23)])))] kM176 [] = true := by decide +kernel
theorem jp_predictor_2_0_1_2 : preB iM2 [(0, 0), (1, 64)] [some (.inl 0), some (.inr (.inl (0, [(1, 22)]))), some (.inr (.inl (1, []))), some (.inr (.inl (2, []))), some (.inr (.inl (0, [(1, 23)])))] kM177 [] = true := by decide +kernel
theorem jp_predictor_2_0_1_4 : preB iM2 [(0, 0), (1, 64)] [some (.inl 0), some (.inr (.inl (0, [(1, 22)]))), some (.inr (.inl (1, []))), some (.inr (.inl (4, []))), some (.inr (.inl (0, [(1, 23)])))] kM178 [] = true := by decide +kernel
theorem jp_predictor_2_0_1_8 : preB iM2 [(0, 0), (1, 64)] [some (.inl 0), some (.inr (.inl (0, [(1, 22)]))), some (.inr (.inl (1, []))), some (.inr (.inl (8, []))), some (.inr (.inl (0, [(1, 23)])))] kM179 [] = true := by decide +kernel
theorem jp_predictor_2_0_2_1 : preB iM2 [(0, 0), (1, 64)] [some (.inl 0), some (.inr (.inl (0, [(1, 22)]))), some (.inr (.inl (2, []))), some (.inr (.inl (1, []))), some (.inr (.inl (0, [(1, 23)])))] kM180 [] = true := by decide +kernel
theorem jp_predictor_2_0_2_2 : preB iM2 [(0, 0), (1, 64)] [some (.inl 0), some (.inr (.inl (0, [(1, 22)]))), some (.inr (.inl (2, []))), some (.inr (.inl (2, []))), some (.inr (.inl (0, [(1, 23)])))] kM181 [] = true := by decide +kernel
theorem jp_predictor_2_0_2_4 : preB iM2 [(0, 0), (1, 64)] [some (.inl 0), some (.inr (.inl (0, [(1, 22)]))), some (.inr (.inl (2, []))), some (.inr (.inl (4, []))), some (.inr (.inl (0, [(1, 23)])))] kM182 [] = true := by decide +kernel
theorem jp_predictor_2_0_2_8 : preB iM2 [(0, 0), (1, 64)] [some (.inl 0), some (.inr (.inl (0, [(1, 22)]))), some (.inr (.inl (2, []))), some (.inr (.inl (8, []))), some (.inr (.inl (0, [(1, 23)])))] kM183 [] = true := by decide +kernel
theorem jp_predictor_2_0_3_1 : preB iM2 [(0, 0), (1, 64)] [some (.inl 0), some (.inr (.inl (0, [(1, 22)]))), some (.inr (.inl (3, []))), some (.inr (.inl (1, []))), some (.inr (.inl (0, [(1, 23)])))] kM184 [] = true := by decide +kernel
theorem jp_predictor_2_0_3_2 : preB iM2 [(0, 0), (1, 64)] [some (.inl 0), some (.inr (.inl (0, [(1, 22)]))), some (.inr (.inl (3, []))), some (.inr (.inl (2, []))), some (.inr (.inl (0, [(1, 23)])))] kM185 [] = true := by decide +kernel
theorem jp_predictor_2_0_3_4 : preB iM2 [(0, 0), (1, 64)] [some (.inl 0), some (.inr (.inl (0, [(1, 22)]))), some (.inr (.inl (3, []))), some (.inr (.inl (4, []))), some (.inr (.inl (0, [(1, 23)])))] kM186 [] = true := by decide +kernel
theorem jp_predictor_2_0_3_8 : preB iM2 [(0, 0), (1, 64)] [some (.inl 0), some (.inr (.inl (0, [(1, 22)]))), some (.inr (.inl (3, []))), some (.inr (.inl (8, []))), some (.inr (.inl (0, [(1, 23)])))] kM187 [] = true := by decide +kernel
theorem jp_predictor_2_0_4_1 : preB iM2 [(0, 0), (1, 64)] [some (.inl 0), some (.inr (.inl (0, [(1, 22)]))), some (.inr (.inl (4, []))), some (.inr (.inl (1, []))), some (.inr (.inl (0, [(1, 23)])))] kM188 [] = true := by decide +kernel
theorem jp_predictor_2_0_4_2 : preB iM2 [(0, 0), (1, 64)] [some (.inl 0), some (.inr (.inl (0, [(1, 22)]))), some (.inr (.inl (4, []))), some (.inr (.inl (2, []))), some (.inr (.inl (0, [(1, 23)])))] kM189 [] = true := by decide +kernel
theorem jp_predictor_2_0_4_4 : preB iM2 [(0, 0), (1, 64)] [some (.inl 0), some (.inr (.inl (0, [(1, 22)]))), some (.inr (.inl (4, []))), some (.inr (.inl (4, []))), some (.inr (.inl (0, [(1, 23)])))] kM190 [] = true := by decide +kernel
theorem jp_predictor_2_0_4_8 : preB iM2 [(0, 0), (1, 64)] [some (.inl 0), some (.inr (.inl (0, [(1, 22)]))), some (.inr (.inl (4, []))), some (.inr (.inl (8, []))), some (.inr (.inl (0, [(1, 23)])))] kM191 [] = true := by decide +kernel
theorem jp_predictor_2_2_1_8 : preB iM2 [(2, 2), (1, 64)] [some (.inl 0), some (.inr (.inl (0, [(1, 22)]))), some (.inr (.inl (1, []))), some (.inr (.inl (8, []))), some (.inr (.inl (0, [(1, 23)])))] kM192 [] = true := by decide +kernel
theorem jp_predictor_2_2_2_8 : preB iM2 [(2, 2), (1, 64)] [some (.inl 0), some (.inr (.inl (0, [(1, 22)]))), some (.inr (.inl (2, []))), some (.inr (.inl (8, []))), some (.inr (.inl (0, [(1, 23)])))] kM193 [] = true := by decide +kernel
theorem jp_predictor_2_2_3_8 : preB iM2 [(2, 2), (1, 64)] [some (.inl 0), some (.inr (.inl (0, [(1, 22)]))), some (.inr (.inl (3, []))), some (.inr (.inl (8, []))), some (.inr (.inl (0, [(1, 23)])))] kM194 [] = true := by decide +kernel
theorem jp_predictor_2_2_4_8 : preB iM2 [(2, 2), (1, 64)] [some (.inl 0), some (.inr (.inl (0, [(1, 22)]))), some (.inr (.inl (4, []))), some (.inr (.inl (8, []))), some (.inr (.inl (0, [(1, 23)])))] kM195 [] = true := by decide +kernel
theorem jp_predictor_2_10_1_1 : preB iM2 [(10, 15), (1, 64)] [some (.inl 0), some (.inr (.inl (0, [(1, 22)]))), some (.inr (.inl (1, []))), some (.inr (.inl (1, []))), some (.inr (.inl (0, [(1, 23)])))] kM196 [] = true := by decide +kernel
theorem jp_predictor_2_10_1_2 : preB iM2 [(10, 15), (1, 64)] [some (.inl 0), some (.inr (.inl (0, [(1, 22)]))), some (.inr (.inl (1, []))), some (.inr (.inl (2, []))), some (.inr (.inl (0, [(1, 23)])))] kM197 [] = true := by decide +kernel
theorem jp_predictor_2_10_1_4 : preB iM2 [(10, 15), (1, 64)] [some (.inl 0), some (.inr (.inl (0, [(1, 22)]))), some (.inr (.inl (1, []))), some (.inr (.inl (4, []))), some (.inr (.inl (0, [(1, 23)])))] kM198 [] = true := by decide +kernel
theorem jp_predictor_2_10_1_8 : preB iM2 [(10, 15), (1, 64)] [some (.inl 0), some (.inr (.inl (0, [(1, 22)]))), some (.inr (.inl (1, []))), some (.inr (.inl (8, []))), some (.inr (.inl (0, [(1, 23)])))] kM199 [] = true := by decide +kernel
theorem jp_predictor_2_10_2_1 : preB iM2 [(10, 15), (1, 64)] [some (.inl 0), some (.inr (.inl (0, [(1, 22)]))), some (.inr (.inl (2, []))), some (.inr (.inl (1, []))), some (.inr (.inl (0, [(1, 23)])))] kM200 [] = true := by decide +kernel
theorem jp_predictor_2_10_2_2 : preB iM2 [(10, 15), (1, 64)] [some (.inl 0), some (.inr (.inl (0, [(1, 22)]))), some (.inr (.inl (2, []))), some (.inr (.inl (2, []))), some (.inr (.inl (0, [(1, 23)])))] kM201 [] = true := by decide +kernel
theorem jp_predictor_2_10_2_4 : preB iM2 [(10, 15), (1, 64)] [some (.inl 0), some (.inr (.inl (0, [(1, 22)]))), some (.inr (.inl (2, []))), some (.inr (.inl (4, []))), some (.inr (.inl (0, [(1, 23)])))] kM202 [] = true := by decide +kernel
theorem jp_predictor_2_10_2_8 : preB iM2 [(10, 15), (1, 64)] [some (.inl 0), some (.inr (.inl (0, [(1, 22)]))), some (.inr (.inl (2, []))), some (.inr (.inl (8, []))), some (.inr (.inl (0, [(1, 23)])))] kM203 [] = true := by decide +kernel
theorem jp_predictor_2_10_3_1 : preB iM2 [(10, 15), (1, 64)] [some (.inl 0), some (.inr (.inl (0, [(1, 22)]))), some (.inr (.inl (3, []))), some (.inr (.inl (1, []))), some (.inr (.inl (0, [(1, 23)])))] kM204 [] = true := by decide +kernel
theorem jp_predictor_2_10_3_2 : preB iM2 [(10, 15), (1, 64)] [some (.inl 0), some (.inr (.inl (0, [(1, 22)]))), some (.inr (.inl (3, []))), some (.inr (.inl (2, []))), some (.inr (.inl (0, [(1, 23)])))] kM205 [] = true := by decide +kernel
theorem jp_predictor_2_10_3_4 : preB iM2 [(10, 15), (1, 64)] [some (.inl 0), some (.inr (.inl (0, [(1, 22)]))), some (.inr (.inl (3, []))), some (.inr (.inl (4, []))), some (.inr (.inl (0, [(1, 23)])))] kM206 [] = true := by decide +kernel
theorem jp_predictor_2_10_3_8 : preB iM2 [(10, 15), (1, 64)] [some (.inl 0), some (.inr (.inl (0, [(1, 22)]))), some (.inr (.inl (3, []))), some (.inr (.inl (8, []))), some (.inr (.inl (0, [(1, 23)])))] kM207 [] = true := by decide +kernel
theorem jp_predictor_2_10_4_1 : preB iM2 [(10, 15), (1, 64)] [some (.inl 0), some (.inr (.inl (0, [(1, 22)]))), some (.inr (.inl (4, []))), some (.inr (.inl (1, []))), some (.inr (.inl (0, [(1, 23)])))] kM208 [] = true := by decide +kernel
theorem jp_predictor_2_10_4_2 : preB iM2 [(10, 15), (1, 64)] [some (.inl 0), some (.inr (.inl (0, [(1, 22)]))), some (.inr (.inl (4, []))), some (.inr (.inl (2, []))), some (.inr (.inl (0, [(1, 23)])))] kM209 [] = true := by decide +kernel
theorem jp_predictor_2_10_4_4 : preB iM2 [(10, 15), (1, 64)] [some (.inl 0), some (.inr (.inl (0, [(1, 22)]))), some (.inr (.inl (4, []))), some (.inr (.inl (4, []))), some (.inr (.inl (0, [(1, 23)])))] kM210 [] = true := by decide +kernel
theorem jp_predictor_2_10_4_8 : preB iM2 [(10, 15), (1, 64)] [some (.inl 0), some (.inr (.inl (0, [(1, 22)]))), some (.inr (.inl (4, []))), some (.inr (.inl (8, []))), some (.inr (.inl (0, [(1, 23)])))] kM211 [] = true := by decide +kernel
theorem jp_differs_10 : preB iM10 [] [some (.inl 0)] kM114 [] = true := by decide +kernel
theorem jq_differs_10 : postB kM114 [] iM10 [] = true := by decide +kernel
theorem jp_table_10 : preB iM10 [((-2147483648), 2147483647)] [some (.inl 0), some (.inr (.inl (0, [(1, 22)])))] kM108 [] = true := by decide +kernel
theorem jq_table_10 : postB kM108 [] iM10 [] = true := by decide +kernel
theorem jp_add_10 : preB iM10 [((-128), 127)] [some (.inl 0), some (.inr (.inl (0, [(1, 22)])))] kM102 [] = true := by decide +kernel
theorem jq_add_10 : postB kM102 [] iM10 [] = true := by decide +kernel
theorem jp_out_10 : preB iM10 [((-2147483648), 2147483647)] [some (.inl 0), some (.inr (.inl (0, [(1, 22)])))] kM105 [] = true := by decide +kernel
theorem jq_out_10 : postB kM105 [] iM10 [] = true := by decide +kernel
theorem jp_sum_10 : preB iM10 [((-2147483648), 2147483647)] [some (.inl 0), some (.inr (.inl (0, [(1, 22)])))] kM111 [] = true := by decide +kernel
theorem jq_sum_10 : postB kM111 [] iM10 [] = true := by decide +kernel
theorem jp_cell_10 : preB iM10 [((-2147483648), 2147483647)] [some (.inl 0), some (.inr (.inl (0, [(1, 22)])))] kM117 [] = true := by decide +kernel
theorem jq_cell_10 : postB kM117 [] iM10 [] = true := by decide +kernel
theorem jp_unpack_10 : preB iM10 [((-2147483648), 2147483647)] [some (.inl 0), some (.inr (.inl (0, [(1, 22)])))] kM99 [] = true := by decide +kernel
theorem jq_unpack_10 : postB kM99 [] iM10 [] = true := by decide +kernel
theorem jp_pack_10 : preB iM10 [((-2147483648), 2147483647), ((-2147483648), 2147483647)] [some (.inl 0), some (.inr (.inl (0, [(1, 22)]))), some (.inr (.inl (0, [(1, 23)])))] kM94 [] = true := by decide +kernel
theorem jq_pack_10 : postB kM94 [] iM10 [] = true := by decide +kernel
theorem jp_chain_10 : preB iM10 [((-2147483648), 2147483647)] [some (.inl 0), some (.inr (.inl (0, [(1, 22)])))] kM95 [] = true := by decide +kernel
theorem jq_chain_10 : postB kM95 [] iM10 [] = true := by decide +kernel
theorem jp_predictor_10_kn : preB iM10 [((-2147483648), (-1)), ((-2147483648), 2147483647), ((-2147483648), 2147483647), ((-2147483648), 2147483647)] [some (.inl 0), some (.inr (.inl (0, [(1, 22)]))), some (.inr (.inl (0, [(1, 23)]))), some (.inr (.inl (0, [(1, 24)]))), some (.inr (.inl (0, [(1, 25)])))] kM162 [] = true := by decide +kernel
theorem jq_predictor_10_kn : postB kM162 [] iM10 [] = true := by decide +kernel
theorem jp_predictor_10_k1 : preB iM10 [(1, 1), ((-2147483648), 2147483647), ((-2147483648), 2147483647), ((-2147483648), 2147483647)] [some (.inl 0), some (.inr (.inl (0, [(1, 22)]))), some (.inr (.inl (0, [(1, 23)]))), some (.inr (.inl (0, [(1, 24)]))), some (.inr (.inl (0, [(1, 25)])))] kM163 [] = true := by decide +kernel
theorem jq_predictor_10_k1 : postB kM163 [] iM10 [] = true := by decide +kernel
theorem jp_predictor_10_k3 : preB iM10 [(3, 9), ((-2147483648), 2147483647), ((-2147483648), 2147483647), ((-2147483648), 2147483647)] [some (.inl 0), some (.inr (.inl (0, [(1, 22)]))), some (.inr (.inl (0, [(1, 23)]))), some (.inr (.inl (0, [(1, 24)]))), some (.inr (.inl (0, [(1, 25)])))] kM164 [] = true := by decide +kernel
theorem jq_predictor_10_k3 : postB kM164 [] iM10 [] = true := by decide +kernel
theorem jp_predictor_10_k16 : preB iM10 [(16, 2147483647), ((-2147483648), 2147483647), ((-2147483648), 2147483647), ((-2147483648), 2147483647)] [some (.inl 0), some (.inr (.inl (0, [(1, 22)]))), some (.inr (.inl (0, [(1, 23)]))), some (.inr (.inl (0, [(1, 24)]))), some (.inr (.inl (0, [(1, 25)])))] kM165 [] = true := by decide +kernel
theorem jq_predictor_10_k16 : postB kM165 [] iM10 [] = true := by decide +kernel
theorem jp_predictor_10_cn : preB iM10 [((-2147483648), 2147483647), ((-2147483648), 0), ((-2147483648), 2147483647), ((-2147483648), 2147483647)] [some (.inl 0), some (.inr (.inl (0, [(1, 22)]))), some (.inr (.inl (0, [(1, 23)]))), some (.inr (.inl (0, [(1, 24)]))), some (.inr (.inl (0, [(1, 25)])))] kM166 [] = true := by decide +kernel
theorem jq_predictor_10_cn : postB kM166 [] iM10 [] = true := by decide +kernel
theorem jp_predictor_10_c5 : preB iM10 [((-2147483648), 2147483647), (5, 2147483647), ((-2147483648), 2147483647), ((-2147483648), 2147483647)] [some (.inl 0), some (.inr (.inl (0, [(1, 22)]))), some (.inr (.inl (0, [(1, 23)]))), some (.inr (.inl (0, [(1, 24)]))), some (.inr (.inl (0, [(1, 25)])))] kM167 [] = true := by decide +kernel
theorem jq_predictor_10_c5 : postB kM167 [] iM10 [] = true := by decide +kernel
theorem jp_predictor_10_wn : preB iM10 [((-2147483648), 2147483647), ((-2147483648), 2147483647), ((-2147483648), 2147483647), ((-2147483648), 0)] [some (.inl 0), some (.inr (.inl (0, [(1, 22)]))), some (.inr (.inl (0, [(1, 23)]))), some (.inr (.inl (0, [(1, 24)]))), some (.inr (.inl (0, [(1, 25)])))] kM168 [] = true := by decide +kernel
theorem jq_predictor_10_wn : postB kM168 [] iM10 [] = true := by decide +kernel
theorem jp_predictor_10_w65 : preB iM10 [((-2147483648), 2147483647), ((-2147483648), 2147483647), ((-2147483648), 2147483647), (65, 2147483647)] [some (.inl 0), some (.inr (.inl (0, [(1, 22)]))), some (.inr (.inl (0, [(1, 23)]))), some (.inr (.inl (0, [(1, 24)]))), some (.inr (.inl (0, [(1, 25)])))] kM169 [] = true := by decide +kernel
theorem jq_predictor_10_w65 : postB kM169 [] iM10 [] = true := by decide +kernel
theorem jp_predictor_10_bn : preB iM10 [((-2147483648), 2147483647), ((-2147483648), 2147483647), ((-2147483648), 0), ((-2147483648), 2147483647)] [some (.inl 0), some (.inr (.inl (0, [(1, 22)]))), some (.inr (.inl (0, [(1, 23)]))), some (.inr (.inl (0, [(1, 24)]))), some (.inr (.inl (0, [(1, 25)])))] kM170 [] = true := by decide +kernel
theorem jq_predictor_10_bn : postB kM170 [] iM10 [] = true := by decide +kernel
theorem jp_predictor_10_b3 : preB iM10 [((-2147483648), 2147483647), ((-2147483648), 2147483647), (3, 3), ((-2147483648), 2147483647)] [some (.inl 0), some (.inr (.inl (0, [(1, 22)]))), some (.inr (.inl (0, [(1, 23)]))), some (.inr (.inl (0, [(1, 24)]))), some (.inr (.inl (0, [(1, 25)])))] kM171 [] = true := by decide +kernel
theorem jq_predictor_10_b3 : postB kM171 [] iM10 [] = true := by decide +kernel
theorem jp_predictor_10_b5 : preB iM10 [((-2147483648), 2147483647), ((-2147483648), 2147483647), (5, 7), ((-2147483648), 2147483647)] [some (.inl 0), some (.inr (.inl (0, [(1, 22)]))), some (.inr (.inl (0, [(1, 23)]))), some (.inr (.inl (0, [(1, 24)]))), some (.inr (.inl (0, [(1, 25)])))] kM172 [] = true := by decide +kernel
theorem jq_predictor_10_b5 : postB kM172 [] iM10 [] = true := by decide +kernel
theorem jp_predictor_10_b9 : preB iM10 [((-2147483648), 2147483647), ((-2147483648), 2147483647), (9, 2147483647), ((-2147483648), 2147483647)] [some (.inl 0), some (.inr (.inl (0, [(1, 22)]))), some (.inr (.inl (0, [(1, 23)]))), some (.inr (.inl (0, [(1, 24)]))), some (.inr (.inl (0, [(1, 25)])))] kM173 [] = true := by decide +kernel
theorem jq_predictor_10_b9 : postB kM173 [] iM10 [] = true := by decide +kernel
theorem jp_predictor_10_t1 : preB iM10 [(2, 2), ((-2147483648), 2147483647), (1, 2), ((-2147483648), 2147483647)] [some (.inl 0), some (.inr (.inl (0, [(1, 22)]))), some (.inr (.inl (0, [(1, 23)]))), some (.inr (.inl (0, [(1, 24)]))), some (.inr (.inl (0, [(1, 25)])))] kM174 [] = true := by decide +kernel
theorem jq_predictor_10_t1 : postB kM174 [] iM10 [] = true := by decide +kernel
theorem jp_predictor_10_t4 : preB iM10 [(2, 2), ((-2147483648), 2147483647), (4, 4), ((-2147483648), 2147483647)] [some (.inl 0), some (.inr (.inl (0, [(1, 22)]))), some (.inr (.inl (0, [(1, 23)]))), some (.inr (.inl (0, [(1, 24)]))), some (.inr (.inl (0, [(1, 25)])))] kM175 [] = true := by decide +kernel
theorem jq_predictor_10_t4 : postB kM175 [] iM10 [] = true := by decide +kernel
theorem jp_predictor_10_0_1_1 : preB iM10 [(0, 0), (1, 64)] [some (.inl 0), some (.inr (.inl (0, [(1, 22)]))), some (.inr (.inl (1, []))), some (.inr (.inl (1, []))), some (.inr (.inl (0, [(1, 23)])))] kM176 [] = true := by decide +kernel
theorem jp_predictor_10_0_1_2 : preB iM10 [(0, 0), (1, 64)] [some (.inl 0), some (.inr (.inl (0, [(1, 22)]))), some (.inr (.inl (1, []))), some (.inr (.inl (2, []))), some (.inr (.inl (0, [(1, 23)])))] kM177 [] = true := by decide +kernel
theorem jp_predictor_10_0_1_4 : preB iM10 [(0, 0), (1, 64)] [some (.inl 0), some (.inr (.inl (0, [(1, 22)]))), some (.inr (.inl (1, []))), some (.inr (.inl (4, []))), some (.inr (.inl (0, [(1, 23)])))] kM178 [] = true := by decide +kernel
theorem jp_predictor_10_0_1_8 : preB iM10 [(0, 0), (1, 64)] [some (.inl 0), some (.inr (.inl (0, [(1, 22)]))), some (.inr (.inl (1, []))), some (.inr (.inl (8, []))), some (.inr (.inl (0, [(1, 23)])))] kM179 [] = true := by decide +kernel
theorem jp_predictor_10_0_2_1 : preB iM10 [(0, 0), (1, 64)] [some (.inl 0), some (.inr (.inl (0, [(1, 22)]))), some (.inr (.inl (2, []))), some (.inr (.inl (1, []))), some (.inr (.inl (0, [(1, 23)])))] kM180 [] = true := by decide +kernel
theorem jp_predictor_10_0_2_2 : preB iM10 [(0, 0), (1, 64)] [some (.inl 0), some (.inr (.inl (0, [(1, 22)]))), some (.inr (.inl (2, []))), some (.inr (.inl (2, []))), some (.inr (.inl (0, [(1, 23)])))] kM181 [] = true := by decide +kernel
theorem jp_predictor_10_0_2_4 : preB iM10 [(0, 0), (1, 64)] [some (.inl 0), some (.inr (.inl (0, [(1, 22)]))), some (.inr (.inl (2, []))), some (.inr (.inl (4, []))), some (.inr (.inl (0, [(1, 23)])))] kM182 [] = true := by decide +kernel
theorem jp_predictor_10_0_2_8 : preB iM10 [(0, 0), (1, 64)] [some (.inl 0), some (.inr (.inl (0, [(1, 22)]))), some (.inr (.inl (2, []))), some (.inr (.inl (8, []))), some (.inr (.inl (0, [(1, 23)])))] kM183 [] = true := by decide +kernel
theorem jp_predictor_10_0_3_1 : preB iM10 [(0, 0), (1, 64)] [some (.inl 0), some (.inr (.inl (0, [(1, 22)]))), some (.inr (.inl (3, []))), some (.inr (.inl (1, []))), some (.inr (.inl (0, [(1, 23)])))] kM184 [] = true := by decide +kernel
theorem jp_predictor_10_0_3_2 : preB iM10 [(0, 0), (1, 64)] [some (.inl 0), some (.inr (.inl (0, [(1, 22)]))), some (.inr (.inl (3, []))), some (.inr (.inl (2, []))), some (.inr (.inl (0, [(1, 23)])))] kM185 [] = true := by decide +kernel
theorem jp_predictor_10_0_3_4 : preB iM10 [(0, 0), (1, 64)] [some (.inl 0), some (.inr (.inl (0, [(1, 22)]))), some (.inr (.inl (3, []))), some (.inr (.inl (4, []))), some (.inr (.inl (0, [(1, 23)])))] kM186 [] = true := by decide +kernel
theorem jp_predictor_10_0_3_8 : preB iM10 [(0, 0), (1, 64)] [some (.inl 0), some (.inr (.inl (0, [(1, 22)]))), some (.inr (.inl (3, []))), some (.inr (.inl (8, []))), some (.inr (.inl (0, [(1, 23)])))] kM187 [] = true := by decide +kernel
theorem jp_predictor_10_0_4_1 : preB iM10 [(0, 0), (1, 64)] [some (.inl 0), some (.inr (.inl (0, [(1, 22)]))), some (.inr (.inl (4, []))), some (.inr (.inl (1, []))), some (.inr (.inl (0, [(1, 23)])))] kM188 [] = true := by decide +kernel
theorem jp_predictor_10_0_4_2 : preB iM10 [(0, 0), (1, 64)] [some (.inl 0), some (.inr (.inl (0, [(1, 22)]))), some (.inr (.inl (4, []))), some (.inr (.inl (2, []))), some (.inr (.inl (0, [(1, 23)])))] kM189 [] = true := by decide +kernel
theorem jp_predictor_10_0_4_4 : preB iM10 [(0, 0), (1, 64)] [some (.inl 0), some (.inr (.inl (0, [(1, 22)]))), some (.inr (.inl (4, []))), some (.inr (.inl (4, []))), some (.inr (.inl (0, [(1, 23)])))] kM190 [] = true := by decide +kernel
theorem jp_predictor_10_0_4_8 : preB iM10 [(0, 0), (1, 64)] [some (.inl 0), some (.inr (.inl (0, [(1, 22)]))), some (.inr (.inl (4, []))), some (.inr (.inl (8, []))), some (.inr (.inl (0, [(1, 23)])))] kM191 [] = true := by decide +kernel
theorem jp_predictor_10_2_1_8 : preB iM10 [(2, 2), (1, 64)] [some (.inl 0), some (.inr (.inl (0, [(1, 22)]))), some (.inr (.inl (1, []))), some (.inr (.inl (8, []))), some (.inr (.inl (0, [(1, 23)])))] kM192 [] = true := by decide +kernel
theorem jp_predictor_10_2_2_8 : preB iM10 [(2, 2), (1, 64)] [some (.inl 0), some (.inr (.inl (0, [(1, 22)]))), some (.inr (.inl (2, []))), some (.inr (.inl (8, []))), some (.inr (.inl (0, [(1, 23)])))] kM193 [] = true := by decide +kernel
theorem jp_predictor_10_2_3_8 : preB iM10 [(2, 2), (1, 64)] [some (.inl 0), some (.inr (.inl (0, [(1, 22)]))), some (.inr (.inl (3, []))), some (.inr (.inl (8, []))), some (.inr (.inl (0, [(1, 23)])))] kM194 [] = true := by decide +kernel
theorem jp_predictor_10_2_4_8 : preB iM10 [(2, 2), (1, 64)] [some (.inl 0), some (.inr (.inl (0, [(1, 22)]))), some (.inr (.inl (4, []))), some (.inr (.inl (8, []))), some (.inr (.inl (0, [(1, 23)])))] kM195 [] = true := by decide +kernel
theorem jp_predictor_10_10_1_1 : preB iM10 [(10, 15), (1, 64)] [some (.inl 0), some (.inr (.inl (0, [(1, 22)]))), some (.inr (.inl (1, []))), some (.inr (.inl (1, []))), some (.inr (.inl (0, [(1, 23)])))] kM196 [] = true := by decide +kernel
theorem jp_predictor_10_10_1_2 : preB iM10 [(10, 15), (1, 64)] [some (.inl 0), some (.inr (.inl (0, [(1, 22)]))), some (.inr (.inl (1, []))), some (.inr (.inl (2, []))), some (.inr (.inl (0, [(1, 23)])))] kM197 [] = true := by decide +kernel
theorem jp_predictor_10_10_1_4 : preB iM10 [(10, 15), (1, 64)] [some (.inl 0), some (.inr (.inl (0, [(1, 22)]))), some (.inr (.inl (1, []))), some (.inr (.inl (4, []))), some (.inr (.inl (0, [(1, 23)])))] kM198 [] = true := by decide +kernel
theorem jp_predictor_10_10_1_8 : preB iM10 [(10, 15), (1, 64)] [some (.inl 0), some (.inr (.inl (0, [(1, 22)]))), some (.inr (.inl (1, []))), some (.inr (.inl (8, []))), some (.inr (.inl (0, [(1, 23)])))] kM199 [] = true := by decide +kernel
theorem jp_predictor_10_10_2_1 : preB iM10 [(10, 15), (1, 64)] [some (.inl 0), some (.inr (.inl (0, [(1, 22)]))), some (.inr (.inl (2, []))), some (.inr (.inl (1, []))), some (.inr (.inl (0, [(1, 23)])))] kM200 [] = true := by decide +kernel
theorem jp_predictor_10_10_2_2 : preB iM10 [(10, 15), (1, 64)] [some (.inl 0), some (.inr (.inl (0, [(1, 22)]))), some (.inr (.inl (2, []))), some (.inr (.inl (2, []))), some (.inr (.inl (0, [(1, 23)])))] kM201 [] = true := by decide +kernel
theorem jp_predictor_10_10_2_4 : preB iM10 [(10, 15), (1, 64)] [some (.inl 0), some (.inr (.inl (0, [(1, 22)]))), some (.inr (.inl (2, []))), some (.inr (.inl (4, []))), some (.inr (.inl (0, [(1, 23)])))] kM202 [] = true := by decide +kernel
theorem jp_predictor_10_10_2_8 : preB iM10 [(10, 15), (1, 64)] [some (.inl 0), some (.inr (.inl (0, [(1, 22)]))), some (.inr (.inl (2, []))), some (.inr (.inl (8, []))), some (.inr (.inl (0, [(1, 23)])))] kM203 [] = true := by decide +kernel
theorem jp_predictor_10_10_3_1 : preB iM10 [(10, 15), (1, 64)] [some (.inl 0), some (.inr (.inl (0, [(1, 22)]))), some (.inr (.inl (3, []))), some (.inr (.inl (1, []))), some (.inr (.inl (0, [(1, 23)])))] kM204 [] = true := by decide +kernel
theorem jp_predictor_10_10_3_2 : preB iM10 [(10, 15), (1, 64)] [some (.inl 0), some (.inr (.inl (0, [(1, 22)]))), some (.inr (.inl (3, []))), some (.inr (.inl (2, []))), some (.inr (.inl (0, [(1, 23)])))] kM205 [] = true := by decide +kernel
theorem jp_predictor_10_10_3_4 : preB iM10 [(10, 15), (1, 64)] [some (.inl 0), some (.inr (.inl (0, [(1, 22)]))), some (.inr (.inl (3, []))), some (.inr (.inl (4, []))), some (.inr (.inl (0, [(1, 23)])))] kM206 [] = true := by decide +kernel
theorem jp_predictor_10_10_3_8 : preB iM10 [(10, 15), (1, 64)] [some (.inl 0), some (.inr (.inl (0, [(1, 22)]))), some (.inr (.inl (3, []))), some (.inr (.inl (8, []))), some (.inr (.inl (0, [(1, 23)])))] kM207 [] = true := by decide +kernel
theorem jp_predictor_10_10_4_1 : preB iM10 [(10, 15), (1, 64)] [some (.inl 0), some (.inr (.inl (0, [(1, 22)]))), some (.inr (.inl (4, []))), some (.inr (.inl (1, []))), some (.inr (.inl (0, [(1, 23)])))] kM208 [] = true := by decide +kernel
theorem jp_predictor_10_10_4_2 : preB iM10 [(10, 15), (1, 64)] [some (.inl 0), some (.inr (.inl (0, [(1, 22)]))), some (.inr (.inl (4, []))), some (.inr (.inl (2, []))), some (.inr (.inl (0, [(1, 23)])))] kM209 [] = true := by decide +kernel
theorem jp_predictor_10_10_4_4 : preB iM10 [(10, 15), (1, 64)] [some (.inl 0), some (.inr (.inl (0, [(1, 22)]))), some (.inr (.inl (4, []))), some (.inr (.inl (4, []))), some (.inr (.inl (0, [(1, 23)])))] kM210 [] = true := by decide +kernel
theorem jp_predictor_10_10_4_8 : preB iM10 [(10, 15), (1, 64)] [some (.inl 0), some (.inr (.inl (0, [(1, 22)]))), some (.inr (.inl (4, []))), some (.inr (.inl (8, []))), some (.inr (.inl (0, [(1, 23)])))] kM211 [] = true := by decide +kernel
theorem jq_init : postB kM212 [] iM0 [] = true := by decide +kernel
