/-! hb_: the world of this claim: kinds of cells, methods, texts -/
def hb_KT : List hbK := [(0, 11, 12, [(2, 1, 0), (2, 19, 0), (2, 34, 0), (0, (-2147483648), 2147483647), (2, 80, 0), (2, 90, 0), (2, 91, 0), (2, 103, 0), (2, 106, 0), (2, 110, 0), (2, 113, 0), (2, 121, 0)]), (0, 4, 10, [(2, 2, 0), (0, 0, 900), (2, 3, 0), (0, (-2147483648), 2147483647), (0, (-2147483648), 2147483647), (0, (-2147483648), 2147483647), (0, (-2147483648), 2147483647), (0, (-2147483648), 2147483647), (2, 18, 0), (0, (-2147483648), 2147483647)]), (2, 0, 900, [(0, (-128), 127)]), (0, 9, 8, [(2, 4, 0), (2, 6, 0), (2, 8, 0), (2, 10, 0), (2, 12, 0), (2, 14, 0), (2, 16, 0), (0, (-2147483648), 2147483647)]), (0, 7, 3, [(0, 4, 4), (2, 5, 0), (0, 0, 1)]), (1, 0, 4, [(0, (-2147483648), 2147483647)]), (0, 7, 3, [(0, 2, 2), (2, 7, 0), (0, 0, 5)]), (1, 0, 10, [(0, (-2147483648), 2147483647)]), (0, 7, 3, [(0, 3, 3), (2, 9, 0), (0, 0, 8)]), (1, 0, 24, [(0, (-2147483648), 2147483647)]), (0, 7, 3, [(0, 3, 3), (2, 11, 0), (0, 0, 10)]), (1, 0, 30, [(0, (-2147483648), 2147483647)]), (0, 7, 3, [(0, 3, 3), (2, 13, 0), (0, 0, 6)]), (1, 0, 18, [(0, (-2147483648), 2147483647)]), (0, 7, 3, [(0, 3, 3), (2, 15, 0), (0, 0, 30)]), (1, 0, 90, [(0, (-2147483648), 2147483647)]), (0, 7, 3, [(0, 3, 3), (2, 17, 0), (0, 0, 46)]), (1, 0, 138, [(0, (-2147483648), 2147483647)]), (1, 0, 4, [(0, (-2147483648), 2147483647)]), (0, 9, 8, [(2, 20, 0), (2, 22, 0), (2, 24, 0), (2, 26, 0), (2, 28, 0), (2, 30, 0), (2, 32, 0), (0, (-2147483648), 2147483647)]), (0, 7, 3, [(0, 4, 4), (2, 21, 0), (0, 0, 1)]), (1, 0, 4, [(0, (-2147483648), 2147483647)]), (0, 7, 3, [(0, 2, 2), (2, 23, 0), (0, 0, 5)]), (1, 0, 10, [(0, (-2147483648), 2147483647)]), (0, 7, 3, [(0, 3, 3), (2, 25, 0), (0, 0, 8)]), (1, 0, 24, [(0, (-2147483648), 2147483647)]), (0, 7, 3, [(0, 3, 3), (2, 27, 0), (0, 0, 10)]), (1, 0, 30, [(0, (-2147483648), 2147483647)]), (0, 7, 3, [(0, 3, 3), (2, 29, 0), (0, 0, 6)]), (1, 0, 18, [(0, (-2147483648), 2147483647)]), (0, 7, 3, [(0, 3, 3), (2, 31, 0), (0, 0, 30)]), (1, 0, 90, [(0, (-2147483648), 2147483647)]), (0, 7, 3, [(0, 3, 3), (2, 33, 0), (0, 0, 46)]), (1, 0, 138, [(0, (-2147483648), 2147483647)]), (5, 0, 3, [(2, 35, 0), (2, 50, 0), (2, 65, 0)]), (0, 9, 8, [(2, 36, 0), (2, 38, 0), (2, 40, 0), (2, 42, 0), (2, 44, 0), (2, 46, 0), (2, 48, 0), (0, (-2147483648), 2147483647)]), (0, 7, 3, [(0, 4, 4), (2, 37, 0), (0, 0, 1)]), (1, 0, 4, [(0, (-2147483648), 2147483647)]), (0, 7, 3, [(0, 2, 2), (2, 39, 0), (0, 0, 5)]), (1, 0, 10, [(0, (-2147483648), 2147483647)]), (0, 7, 3, [(0, 3, 3), (2, 41, 0), (0, 0, 8)]), (1, 0, 24, [(0, (-2147483648), 2147483647)]), (0, 7, 3, [(0, 3, 3), (2, 43, 0), (0, 0, 10)]), (1, 0, 30, [(0, (-2147483648), 2147483647)]), (0, 7, 3, [(0, 3, 3), (2, 45, 0), (0, 0, 6)]), (1, 0, 18, [(0, (-2147483648), 2147483647)]), (0, 7, 3, [(0, 3, 3), (2, 47, 0), (0, 0, 30)]), (1, 0, 90, [(0, (-2147483648), 2147483647)]), (0, 7, 3, [(0, 3, 3), (2, 49, 0), (0, 0, 46)]), (1, 0, 138, [(0, (-2147483648), 2147483647)]), (0, 9, 8, [(2, 51, 0), (2, 53, 0), (2, 55, 0), (2, 57, 0), (2, 59, 0), (2, 61, 0), (2, 63, 0), (0, (-2147483648), 2147483647)]), (0, 7, 3, [(0, 4, 4), (2, 52, 0), (0, 0, 1)]), (1, 0, 4, [(0, (-2147483648), 2147483647)]), (0, 7, 3, [(0, 2, 2), (2, 54, 0), (0, 0, 5)]), (1, 0, 10, [(0, (-2147483648), 2147483647)]), (0, 7, 3, [(0, 3, 3), (2, 56, 0), (0, 0, 8)]), (1, 0, 24, [(0, (-2147483648), 2147483647)]), (0, 7, 3, [(0, 3, 3), (2, 58, 0), (0, 0, 10)]), (1, 0, 30, [(0, (-2147483648), 2147483647)]), (0, 7, 3, [(0, 3, 3), (2, 60, 0), (0, 0, 6)]), (1, 0, 18, [(0, (-2147483648), 2147483647)]), (0, 7, 3, [(0, 3, 3), (2, 62, 0), (0, 0, 30)]), (1, 0, 90, [(0, (-2147483648), 2147483647)]), (0, 7, 3, [(0, 3, 3), (2, 64, 0), (0, 0, 46)]), (1, 0, 138, [(0, (-2147483648), 2147483647)]), (0, 9, 8, [(2, 66, 0), (2, 68, 0), (2, 70, 0), (2, 72, 0), (2, 74, 0), (2, 76, 0), (2, 78, 0), (0, (-2147483648), 2147483647)]), (0, 7, 3, [(0, 4, 4), (2, 67, 0), (0, 0, 1)]), (1, 0, 4, [(0, (-2147483648), 2147483647)]), (0, 7, 3, [(0, 2, 2), (2, 69, 0), (0, 0, 5)]), (1, 0, 10, [(0, (-2147483648), 2147483647)]), (0, 7, 3, [(0, 3, 3), (2, 71, 0), (0, 0, 8)]), (1, 0, 24, [(0, (-2147483648), 2147483647)]), (0, 7, 3, [(0, 3, 3), (2, 73, 0), (0, 0, 10)]), (1, 0, 30, [(0, (-2147483648), 2147483647)]), (0, 7, 3, [(0, 3, 3), (2, 75, 0), (0, 0, 6)]), (1, 0, 18, [(0, (-2147483648), 2147483647)]), (0, 7, 3, [(0, 3, 3), (2, 77, 0), (0, 0, 30)]), (1, 0, 90, [(0, (-2147483648), 2147483647)]), (0, 7, 3, [(0, 3, 3), (2, 79, 0), (0, 0, 46)]), (1, 0, 138, [(0, (-2147483648), 2147483647)]), (0, 3, 16, [(2, 19, 0), (2, 81, 0), (2, 82, 0), (2, 83, 0), (2, 84, 0), (2, 85, 0), (2, 86, 0), (2, 87, 0), (0, (-2147483648), 2147483647), (2, 88, 0), (2, 89, 0), (0, (-2147483648), 2147483647), (0, (-2147483648), 2147483647), (0, 0, 1), (0, (-2147483648), 2147483647), (0, (-2147483648), 2147483647)]), (1, 0, 8, [(0, (-2147483648), 2147483647)]), (1, 0, 8, [(0, (-2147483648), 2147483647)]), (1, 0, 8, [(0, (-2147483648), 2147483647)]), (1, 0, 8, [(0, (-2147483648), 2147483647)]), (1, 0, 8, [(0, (-2147483648), 2147483647)]), (1, 0, 6, [(0, (-2147483648), 2147483647)]), (1, 0, 30, [(0, (-2147483648), 2147483647)]), (1, 0, 5, [(0, (-2147483648), 2147483647)]), (1, 0, 5, [(0, (-2147483648), 2147483647)]), (0, 1, 2, [(2, 19, 0), (2, 80, 0)]), (0, 10, 5, [(2, 19, 0), (2, 92, 0), (2, 102, 0), (1, (-9223372036854775808), 9223372036854775807), (1, (-9223372036854775808), 9223372036854775807)]), (0, 3, 16, [(2, 19, 0), (2, 93, 0), (2, 94, 0), (2, 95, 0), (2, 96, 0), (2, 97, 0), (2, 98, 0), (2, 99, 0), (0, (-2147483648), 2147483647), (2, 100, 0), (2, 101, 0), (0, (-2147483648), 2147483647), (0, (-2147483648), 2147483647), (0, 0, 1), (0, (-2147483648), 2147483647), (0, (-2147483648), 2147483647)]), (1, 0, 8, [(0, (-2147483648), 2147483647)]), (1, 0, 8, [(0, (-2147483648), 2147483647)]), (1, 0, 8, [(0, (-2147483648), 2147483647)]), (1, 0, 8, [(0, (-2147483648), 2147483647)]), (1, 0, 8, [(0, (-2147483648), 2147483647)]), (1, 0, 6, [(0, (-2147483648), 2147483647)]), (1, 0, 30, [(0, (-2147483648), 2147483647)]), (1, 0, 5, [(0, (-2147483648), 2147483647)]), (1, 0, 5, [(0, (-2147483648), 2147483647)]), (0, 1, 2, [(2, 19, 0), (2, 92, 0)]), (0, 5, 4, [(2, 19, 0), (2, 104, 0), (2, 105, 0), (0, 0, 255)]), (1, 0, 256, [(0, (-2147483648), 2147483647)]), (1, 0, 256, [(0, (-2147483648), 2147483647)]), (0, 2, 8, [(2, 19, 0), (2, 103, 0), (2, 107, 0), (2, 108, 0), (2, 109, 0), (0, (-2147483648), 2147483647), (0, (-2147483648), 2147483647), (0, 0, 1)]), (1, 0, 256, [(0, (-2147483648), 2147483647)]), (1, 0, 5, [(0, (-2147483648), 2147483647)]), (1, 0, 8, [(0, (-2147483648), 2147483647)]), (0, 0, 5, [(2, 19, 0), (2, 103, 0), (2, 111, 0), (2, 112, 0), (0, (-2147483648), 2147483647)]), (1, 0, 256, [(0, (-2147483648), 2147483647)]), (1, 0, 256, [(0, (-2147483648), 2147483647)]), (0, 6, 3, [(2, 114, 0), (2, 119, 0), (2, 120, 0)]), (5, 0, 4, [(2, 115, 0), (2, 116, 0), (2, 117, 0), (2, 118, 0)]), (4, 0, 60, [(1, (-9223372036854775808), 9223372036854775807)]), (4, 0, 60, [(1, (-9223372036854775808), 9223372036854775807)]), (4, 0, 60, [(1, (-9223372036854775808), 9223372036854775807)]), (4, 0, 60, [(1, (-9223372036854775808), 9223372036854775807)]), (1, 0, 4, [(0, (-1), 3)]), (1, 0, 4, [(0, 0, 60)]), (0, 8, 6, [(2, 19, 0), (2, 103, 0), (2, 113, 0), (2, 122, 0), (2, 123, 0), (0, (-2147483648), 2147483647)]), (1, 0, 256, [(0, (-2147483648), 2147483647)]), (1, 0, 9, [(0, (-2147483648), 2147483647)]), (0, 12, 46, [(0, (-2147483648), 2147483647), (2, 125, 0), (2, 126, 0), (2, 127, 0), (2, 128, 0), (0, 0, 900), (2, 129, 0), (0, 0, 900), (0, 0, 900), (0, 0, 900), (0, 0, 4), (0, (-2147483648), 2147483647), (0, 0, 3), (0, (-1), 900), (2, 130, 0), (2, 131, 0), (2, 132, 0), (2, 133, 0), (2, 134, 0), (2, 135, 0), (2, 136, 0), (2, 137, 0), (2, 138, 0), (0, (-2147483648), 2147483647), (0, 0, 1), (0, (-2147483648), 2147483647), (0, (-1), 4), (0, (-1), 19), (0, (-2147483648), 2147483647), (0, (-2147483648), 2147483647), (0, (-2147483648), 2147483647), (2, 139, 0), (2, 140, 0), (2, 141, 0), (2, 142, 0), (2, 143, 0), (0, 0, 256), (0, 0, 256), (0, (-1), 255), (1, 0, 1000000000000), (1, 0, 1000000000000), (1, (-1000000000000), 1000000000000), (2, 144, 0), (2, 145, 0), (2, 146, 0), (2, 147, 0)]), (1, 0, 122, [(0, 0, 20), (0, 0, 3), (0, 0, 9), (0, 0, 10), (0, 0, 5), (0, 0, 8), (0, 0, 10), (0, 0, 6), (0, 0, 30), (0, (-2147483648), 2147483647), (0, 0, 60), (0, 0, 9), (0, 0, 60), (0, 0, 9), (0, 0, 60), (0, 0, 9), (0, 0, 60), (0, 0, 9), (0, 0, 60), (0, 0, 9), (0, 0, 9), (0, 0, 9), (0, 0, 80), (0, 0, 9), (0, 0, 9), (0, 0, 80), (0, 0, 9), (0, 0, 9), (0, 0, 80), (0, 0, 9), (0, 0, 9), (0, 0, 80), (0, 0, 9), (0, 0, 9), (0, 0, 80), (0, 0, 9), (0, 0, 9), (0, 0, 80), (0, 0, 9), (0, 0, 9), (0, 0, 80), (0, 0, 9), (0, 0, 9), (0, 0, 80), (0, 0, 7), (0, 0, 4), (0, 0, 19), (0, 0, 7), (0, 0, 4), (0, 0, 19), (0, 0, 7), (0, 0, 4), (0, 0, 19), (0, 0, 7), (0, 0, 4), (0, 0, 19), (0, 0, 7), (0, 0, 4), (0, 0, 19), (0, 0, 7), (0, 0, 4), (0, 0, 19), (0, 0, 7), (0, 0, 4), (0, 0, 19), (0, 0, 7), (0, 0, 4), (0, 0, 19), (0, 0, 7), (0, 0, 4), (0, 0, 19), (0, 0, 7), (0, 0, 4), (0, 0, 19), (0, 0, 19), (0, 0, 4), (0, 0, 9), (0, 0, 19), (0, 0, 4), (0, 0, 9), (0, 0, 19), (0, 0, 4), (0, 0, 9), (0, 0, 19), (0, 0, 4), (0, 0, 9), (0, 0, 19), (0, 0, 4), (0, 0, 9), (0, 0, 19), (0, 0, 4), (0, 0, 9), (3, 0, 0), (3, 0, 0), (3, 0, 0), (3, 0, 0), (3, 0, 0), (3, 0, 0), (3, 0, 0), (3, 0, 0), (3, 0, 0), (3, 0, 0), (3, 0, 0), (3, 0, 0), (3, 0, 0), (3, 0, 0), (3, 0, 0), (3, 0, 0), (3, 0, 0), (3, 0, 0), (3, 0, 0), (3, 0, 0), (3, 0, 0), (3, 0, 0), (3, 0, 0), (3, 0, 0), (3, 0, 0), (3, 0, 0), (3, 0, 0), (3, 0, 0), (3, 0, 0), (3, 0, 0)]), (1, 0, 366, [(0, 0, 20), (0, 0, 3), (0, 0, 9), (0, 0, 10), (0, 0, 5), (0, 0, 8), (0, 0, 10), (0, 0, 6), (0, 0, 30), (0, (-2147483648), 2147483647), (0, 0, 60), (0, 0, 9), (0, 0, 60), (0, 0, 9), (0, 0, 60), (0, 0, 9), (0, 0, 60), (0, 0, 9), (0, 0, 60), (0, 0, 9), (0, 0, 9), (0, 0, 9), (0, 0, 80), (0, 0, 9), (0, 0, 9), (0, 0, 80), (0, 0, 9), (0, 0, 9), (0, 0, 80), (0, 0, 9), (0, 0, 9), (0, 0, 80), (0, 0, 9), (0, 0, 9), (0, 0, 80), (0, 0, 9), (0, 0, 9), (0, 0, 80), (0, 0, 9), (0, 0, 9), (0, 0, 80), (0, 0, 9), (0, 0, 9), (0, 0, 80), (0, 0, 7), (0, 0, 4), (0, 0, 19), (0, 0, 7), (0, 0, 4), (0, 0, 19), (0, 0, 7), (0, 0, 4), (0, 0, 19), (0, 0, 7), (0, 0, 4), (0, 0, 19), (0, 0, 7), (0, 0, 4), (0, 0, 19), (0, 0, 7), (0, 0, 4), (0, 0, 19), (0, 0, 7), (0, 0, 4), (0, 0, 19), (0, 0, 7), (0, 0, 4), (0, 0, 19), (0, 0, 7), (0, 0, 4), (0, 0, 19), (0, 0, 7), (0, 0, 4), (0, 0, 19), (0, 0, 19), (0, 0, 4), (0, 0, 9), (0, 0, 19), (0, 0, 4), (0, 0, 9), (0, 0, 19), (0, 0, 4), (0, 0, 9), (0, 0, 19), (0, 0, 4), (0, 0, 9), (0, 0, 19), (0, 0, 4), (0, 0, 9), (0, 0, 19), (0, 0, 4), (0, 0, 9), (3, 0, 0), (3, 0, 0), (3, 0, 0), (3, 0, 0), (3, 0, 0), (3, 0, 0), (3, 0, 0), (3, 0, 0), (3, 0, 0), (3, 0, 0), (3, 0, 0), (3, 0, 0), (3, 0, 0), (3, 0, 0), (3, 0, 0), (3, 0, 0), (3, 0, 0), (3, 0, 0), (3, 0, 0), (3, 0, 0), (3, 0, 0), (3, 0, 0), (3, 0, 0), (3, 0, 0), (3, 0, 0), (3, 0, 0), (3, 0, 0), (3, 0, 0), (3, 0, 0), (3, 0, 0)]), (3, 0, 3, [(0, 0, 1)]), (2, 0, 900, [(0, (-128), 127)]), (1, 0, 5, [(0, (-2147483648), 2147483647)]), (1, 0, 122, [(0, 0, 20), (0, 0, 3), (0, 0, 9), (0, 0, 10), (0, 0, 5), (0, 0, 8), (0, 0, 10), (0, 0, 6), (0, 0, 30), (0, (-2147483648), 2147483647), (0, 0, 60), (0, 0, 9), (0, 0, 60), (0, 0, 9), (0, 0, 60), (0, 0, 9), (0, 0, 60), (0, 0, 9), (0, 0, 60), (0, 0, 9), (0, 0, 9), (0, 0, 9), (0, 0, 80), (0, 0, 9), (0, 0, 9), (0, 0, 80), (0, 0, 9), (0, 0, 9), (0, 0, 80), (0, 0, 9), (0, 0, 9), (0, 0, 80), (0, 0, 9), (0, 0, 9), (0, 0, 80), (0, 0, 9), (0, 0, 9), (0, 0, 80), (0, 0, 9), (0, 0, 9), (0, 0, 80), (0, 0, 9), (0, 0, 9), (0, 0, 80), (0, 0, 7), (0, 0, 4), (0, 0, 19), (0, 0, 7), (0, 0, 4), (0, 0, 19), (0, 0, 7), (0, 0, 4), (0, 0, 19), (0, 0, 7), (0, 0, 4), (0, 0, 19), (0, 0, 7), (0, 0, 4), (0, 0, 19), (0, 0, 7), (0, 0, 4), (0, 0, 19), (0, 0, 7), (0, 0, 4), (0, 0, 19), (0, 0, 7), (0, 0, 4), (0, 0, 19), (0, 0, 7), (0, 0, 4), (0, 0, 19), (0, 0, 7), (0, 0, 4), (0, 0, 19), (0, 0, 19), (0, 0, 4), (0, 0, 9), (0, 0, 19), (0, 0, 4), (0, 0, 9), (0, 0, 19), (0, 0, 4), (0, 0, 9), (0, 0, 19), (0, 0, 4), (0, 0, 9), (0, 0, 19), (0, 0, 4), (0, 0, 9), (0, 0, 19), (0, 0, 4), (0, 0, 9), (3, 0, 0), (3, 0, 0), (3, 0, 0), (3, 0, 0), (3, 0, 0), (3, 0, 0), (3, 0, 0), (3, 0, 0), (3, 0, 0), (3, 0, 0), (3, 0, 0), (3, 0, 0), (3, 0, 0), (3, 0, 0), (3, 0, 0), (3, 0, 0), (3, 0, 0), (3, 0, 0), (3, 0, 0), (3, 0, 0), (3, 0, 0), (3, 0, 0), (3, 0, 0), (3, 0, 0), (3, 0, 0), (3, 0, 0), (3, 0, 0), (3, 0, 0), (3, 0, 0), (3, 0, 0)]), (1, 0, 5, [(0, 0, 60)]), (1, 0, 8, [(0, (-12), 4)]), (1, 0, 160, [(0, (-12), 4)]), (1, 0, 8, [(0, (-1), 19)]), (1, 0, 8, [(0, (-1), 4)]), (1, 0, 8, [(0, (-1), 9)]), (1, 0, 6, [(0, (-1), 7)]), (3, 0, 5, [(0, 0, 1)]), (3, 0, 1536, [(0, 0, 1)]), (1, 0, 5, [(0, 0, 255)]), (1, 0, 256, [(0, (-2147483648), 2147483647)]), (1, 0, 256, [(0, (-2147483648), 2147483647)]), (1, 0, 256, [(0, 0, 255)]), (1, 0, 4, [(0, (-1), 60)]), (1, 0, 4, [(0, 0, 3)]), (4, 0, 240, [(1, (-9223372036854775808), 9223372036854775807)]), (4, 0, 60, [(1, (-9223372036854775808), 9223372036854775807)])]
def hb_MT : List hbY := [(⟨"java/lang/String", "length", "()I"⟩, prog_17_method_54_code, 1, (some .int)), (⟨"java/lang/String", "charAt", "(I)C"⟩, prog_17_method_56_code, 2, (some .char)), (⟨"HopeBankModel", "divisor", "(JJ)J"⟩, prog_14_method_126_code, 10, (some .long)), (⟨"HopeBank$Reader", "append", "(I)V"⟩, prog_6_method_2_code, 3, none), (⟨"HopeBank", "feed", "(IIIII)I"⟩, prog_1_method_2_code, 6, (some .int)), (⟨"HopeBank", "end", "(I)I"⟩, prog_1_method_3_code, 2, (some .int)), (⟨"HopeBank$Table", "clear", "()V"⟩, prog_9_method_8_code, 1, none), (⟨"HopeBank$Town", "clear", "()V"⟩, prog_11_method_7_code, 1, none), (⟨"HopeBank$Reader", "byteAt", "(I)I"⟩, prog_6_method_16_code, 2, (some .int)), (⟨"HopeBank$Reader", "isBlank", "(I)Z"⟩, prog_6_method_17_code, 1, (some .boolean)), (⟨"HopeBank$Reader", "kindOf", "(I)I"⟩, prog_6_method_18_code, 1, (some .int)), (⟨"HopeBank$Reader", "advance", "()V"⟩, prog_6_method_15_code, 2, none), (⟨"HopeBank$Reader", "isWord", "(Ljava/lang/String;)Z"⟩, prog_6_method_19_code, 3, (some .boolean)), (⟨"HopeBank$Reader", "wrong", "(I)Z"⟩, prog_6_method_14_code, 2, (some .boolean)), (⟨"HopeBank$Reader", "amount", "()I"⟩, prog_6_method_20_code, 3, (some .int)), (⟨"HopeBank", "set", "([III)V"⟩, prog_1_method_80_code, 3, none), (⟨"HopeBank$Reader", "number", "(II)Z"⟩, prog_6_method_13_code, 4, (some .boolean)), (⟨"HopeBank$Reader", "numberBehind", "(Ljava/lang/String;II)Z"⟩, prog_6_method_12_code, 4, (some .boolean)), (⟨"HopeBank$Reader", "townNumbers", "()Z"⟩, prog_6_method_5_code, 1, (some .boolean)), (⟨"HopeBank", "at", "([II)I"⟩, prog_1_method_79_code, 2, (some .int)), (⟨"HopeBank$Table", "hasSpace", "()Z"⟩, prog_9_method_3_code, 1, (some .boolean)), (⟨"HopeBank$Table", "put", "(III)V"⟩, prog_9_method_5_code, 5, none), (⟨"HopeBank$Table", "add", "(III)Z"⟩, prog_9_method_6_code, 4, (some .boolean)), (⟨"HopeBank$Reader", "close", "(LHopeBank$Table;)Z"⟩, prog_6_method_11_code, 2, (some .boolean)), (⟨"HopeBank$Reader", "opens", "(LHopeBank$Table;)Z"⟩, prog_6_method_10_code, 2, (some .boolean)), (⟨"HopeBank$Reader", "pigNumbers", "()Z"⟩, prog_6_method_6_code, 1, (some .boolean)), (⟨"HopeBank$Reader", "hopeNumbers", "()Z"⟩, prog_6_method_7_code, 1, (some .boolean)), (⟨"HopeBank$Reader", "dropNumbers", "()Z"⟩, prog_6_method_8_code, 1, (some .boolean)), (⟨"HopeBank$Reader", "thiefNumbers", "()Z"⟩, prog_6_method_9_code, 1, (some .boolean)), (⟨"HopeBank$Reader", "readLine", "()Z"⟩, prog_6_method_4_code, 2, (some .boolean)), (⟨"HopeBank$Reader", "parse", "()Z"⟩, prog_6_method_3_code, 2, (some .boolean)), (⟨"HopeBank$Table", "copy", "(LHopeBank$Table;)V"⟩, prog_9_method_9_code, 3, none), (⟨"HopeBank$Town", "copy", "(LHopeBank$Town;)V"⟩, prog_11_method_8_code, 2, none), (⟨"HopeBank$Table", "get", "(II)I"⟩, prog_9_method_4_code, 4, (some .int)), (⟨"HopeBank$Town", "headNumber", "(I)I"⟩, prog_11_method_3_code, 2, (some .int)), (⟨"HopeBank$Town", "planDrops", "(I)V"⟩, prog_11_method_10_code, 3, none), (⟨"HopeBank$Town", "planThieves", "(I)V"⟩, prog_11_method_11_code, 3, none), (⟨"HopeBank$Town", "planBreaks", "(I)V"⟩, prog_11_method_12_code, 3, none), (⟨"HopeBank$Town", "plan", "()V"⟩, prog_11_method_9_code, 3, none), (⟨"HopeBank$Play", "choose", "(IZ)V"⟩, prog_5_method_2_code, 3, none), (⟨"java/util/Arrays", "fill", "([II)V"⟩, prog_21_method_103_code, 4, none), (⟨"HopeBank$Play", "begin", "()V"⟩, prog_5_method_5_code, 2, none), (⟨"HopeBank$Table", "has", "(I)Z"⟩, prog_9_method_2_code, 2, (some .boolean)), (⟨"HopeBank$Play", "breakPig", "(II)V"⟩, prog_5_method_11_code, 6, none), (⟨"HopeBank$Play", "happen", "(III)V"⟩, prog_5_method_6_code, 4, none), (⟨"HopeBank", "hasBit", "(II)Z"⟩, prog_1_method_81_code, 2, (some .boolean)), (⟨"HopeBank$Play", "steal", "(II)V"⟩, prog_5_method_9_code, 5, none), (⟨"HopeBank$Play", "wouldFit", "(II)Z"⟩, prog_5_method_8_code, 4, (some .boolean)), (⟨"HopeBank$Play", "goesIn", "(LHopeBank$Table;II)Z"⟩, prog_5_method_7_code, 9, (some .boolean)), (⟨"HopeBank$Play", "leastWithin", "(II)I"⟩, prog_5_method_10_code, 8, (some .int)), (⟨"java/lang/Integer", "bitCount", "(I)I"⟩, prog_15_method_49_code, 1, (some .int)), (⟨"HopeBank", "loudness", "(IIII)I"⟩, prog_1_method_83_code, 4, (some .int)), (⟨"HopeBank$Play", "playTo", "(II)V"⟩, prog_5_method_4_code, 6, none), (⟨"HopeBank$Packing", "forget", "()V"⟩, prog_4_method_2_code, 1, none), (⟨"HopeBank", "renew", "()V"⟩, prog_1_method_78_code, 1, none), (⟨"HopeBank", "town", "()I"⟩, prog_1_method_4_code, 1, (some .int)), (⟨"HopeBank", "fault", "(I)I"⟩, prog_1_method_5_code, 2, (some .int)), (⟨"HopeBank", "pig", "(II)I"⟩, prog_1_method_6_code, 3, (some .int)), (⟨"HopeBank", "hope", "(II)I"⟩, prog_1_method_7_code, 3, (some .int)), (⟨"HopeBank", "drop", "(II)I"⟩, prog_1_method_8_code, 3, (some .int)), (⟨"HopeBank", "thief", "(II)I"⟩, prog_1_method_9_code, 3, (some .int)), (⟨"HopeBank$Town", "stands", "()Z"⟩, prog_11_method_2_code, 1, (some .boolean)), (⟨"HopeBank", "firstBits", "(I)I"⟩, prog_1_method_82_code, 1, (some .int)), (⟨"HopeBank", "misses", "()I"⟩, prog_1_method_10_code, 1, (some .int)), (⟨"HopeBank$Look", "hopesHeard", "(II)I"⟩, prog_3_method_5_code, 6, (some .int)), (⟨"HopeBank", "silent", "()I"⟩, prog_1_method_11_code, 1, (some .int)), (⟨"HopeBank$Town", "hasNight", "(I)Z"⟩, prog_11_method_4_code, 2, (some .boolean)), (⟨"HopeBank$Look", "placeOf", "(II)I"⟩, prog_3_method_2_code, 5, (some .int)), (⟨"HopeBank$Look", "hopesAt", "(II)I"⟩, prog_3_method_3_code, 5, (some .int)), (⟨"HopeBank$Look", "setIn", "(II)I"⟩, prog_3_method_4_code, 3, (some .int)), (⟨"HopeBank$Look", "pigsEmpty", "(I)I"⟩, prog_3_method_14_code, 4, (some .int)), (⟨"HopeBank", "empties", "(I)I"⟩, prog_1_method_12_code, 2, (some .int)), (⟨"HopeBank$Look", "sumIn", "(III)I"⟩, prog_3_method_6_code, 6, (some .int)), (⟨"HopeBank$Look", "load", "(II)I"⟩, prog_3_method_7_code, 3, (some .int)), (⟨"HopeBank$Look", "heaviest", "(I)I"⟩, prog_3_method_15_code, 6, (some .int)), (⟨"HopeBank", "heavy", "(I)I"⟩, prog_1_method_13_code, 2, (some .int)), (⟨"HopeBank", "lacks", "(II)Z"⟩, prog_1_method_73_code, 3, (some .boolean)), (⟨"HopeBank$Look", "longestIn", "(II)I"⟩, prog_3_method_17_code, 7, (some .int)), (⟨"HopeBank", "oldest", "(II)I"⟩, prog_1_method_14_code, 3, (some .int)), (⟨"HopeBank$Look", "leastIn", "(II)I"⟩, prog_3_method_18_code, 7, (some .int)), (⟨"HopeBank", "small", "(II)I"⟩, prog_1_method_15_code, 3, (some .int)), (⟨"HopeBank", "lacksHope", "(II)Z"⟩, prog_1_method_74_code, 3, (some .boolean)), (⟨"HopeBank$Look", "hopeValue", "(II)I"⟩, prog_3_method_10_code, 3, (some .int)), (⟨"HopeBank", "rich", "(II)I"⟩, prog_1_method_16_code, 3, (some .int)), (⟨"HopeBank$Look", "mostInOne", "()I"⟩, prog_3_method_19_code, 5, (some .int)), (⟨"HopeBank", "crowd", "()I"⟩, prog_1_method_17_code, 1, (some .int)), (⟨"HopeBank$Look", "loudestFall", "(I)I"⟩, prog_3_method_20_code, 4, (some .int)), (⟨"HopeBank", "loud", "(I)I"⟩, prog_1_method_18_code, 2, (some .int)), (⟨"HopeBank$Look", "pigValue", "(II)I"⟩, prog_3_method_11_code, 5, (some .int)), (⟨"HopeBank$Look", "bestNight", "(I)I"⟩, prog_3_method_13_code, 7, (some .int)), (⟨"HopeBank$Town", "lastNight", "()I"⟩, prog_11_method_5_code, 1, (some .int)), (⟨"HopeBank", "gains", "(I)I"⟩, prog_1_method_19_code, 2, (some .int)), (⟨"HopeBank$Look", "spare", "(II)I"⟩, prog_3_method_8_code, 3, (some .int)), (⟨"HopeBank$Look", "leastSpare", "(I)I"⟩, prog_3_method_21_code, 5, (some .int)), (⟨"HopeBank", "tight", "(I)I"⟩, prog_1_method_20_code, 2, (some .int)), (⟨"HopeBank$Look", "pigsRobbed", "()I"⟩, prog_3_method_23_code, 4, (some .int)), (⟨"HopeBank", "victims", "()I"⟩, prog_1_method_21_code, 1, (some .int)), (⟨"HopeBank", "within", "(II)I"⟩, prog_1_method_22_code, 3, (some .int)), (⟨"HopeBank", "where", "(II)I"⟩, prog_1_method_23_code, 3, (some .int)), (⟨"HopeBank", "falls", "(I)I"⟩, prog_1_method_24_code, 2, (some .int)), (⟨"HopeBank", "heard", "(I)I"⟩, prog_1_method_25_code, 2, (some .int)), (⟨"HopeBank", "known", "()I"⟩, prog_1_method_26_code, 1, (some .int)), (⟨"HopeBank", "weight", "(II)I"⟩, prog_1_method_27_code, 3, (some .int)), (⟨"HopeBank", "left", "(II)I"⟩, prog_1_method_28_code, 3, (some .int)), (⟨"HopeBank$Look", "noise", "(II)I"⟩, prog_3_method_9_code, 3, (some .int)), (⟨"HopeBank", "rattle", "(II)I"⟩, prog_1_method_29_code, 3, (some .int)), (⟨"HopeBank", "value", "(II)I"⟩, prog_1_method_30_code, 3, (some .int)), (⟨"HopeBank$Look", "townValue", "(I)I"⟩, prog_3_method_12_code, 4, (some .int)), (⟨"HopeBank", "all", "(I)I"⟩, prog_1_method_31_code, 2, (some .int)), (⟨"HopeBank", "stolen", "(I)I"⟩, prog_1_method_32_code, 2, (some .int)), (⟨"HopeBank", "takes", "(I)I"⟩, prog_1_method_33_code, 2, (some .int)), (⟨"HopeBank$Town", "worthOf", "(I)I"⟩, prog_11_method_6_code, 4, (some .int)), (⟨"HopeBank", "loss", "()I"⟩, prog_1_method_34_code, 1, (some .int)), (⟨"HopeBank", "got", "(I)I"⟩, prog_1_method_35_code, 2, (some .int)), (⟨"HopeBank", "out", "()I"⟩, prog_1_method_36_code, 1, (some .int)), (⟨"HopeBank$Look", "noisiest", "(I)I"⟩, prog_3_method_16_code, 6, (some .int)), (⟨"HopeBank", "loudest", "(I)I"⟩, prog_1_method_37_code, 2, (some .int)), (⟨"HopeBank$Look", "firstFull", "(I)I"⟩, prog_3_method_22_code, 4, (some .int)), (⟨"HopeBank", "full", "(I)I"⟩, prog_1_method_38_code, 2, (some .int)), (⟨"HopeBank", "best", "(I)I"⟩, prog_1_method_39_code, 3, (some .int)), (⟨"HopeBank$Trials", "wouldGoIn", "(II)I"⟩, prog_12_method_3_code, 5, (some .int)), (⟨"HopeBank", "may", "(II)I"⟩, prog_1_method_40_code, 3, (some .int)), (⟨"HopeBank$Trials", "toldInto", "(I)I"⟩, prog_12_method_5_code, 4, (some .int)), (⟨"HopeBank$Play", "giveRoom", "(II)V"⟩, prog_5_method_3_code, 3, none), (⟨"HopeBank$Trials", "leastRoom", "(I)I"⟩, prog_12_method_4_code, 4, (some .int)), (⟨"HopeBank", "needs", "(I)I"⟩, prog_1_method_41_code, 2, (some .int)), (⟨"HopeBank$Trials", "playWith", "(IZ)V"⟩, prog_12_method_2_code, 3, none), (⟨"HopeBank$Trials", "thiefToWard", "()I"⟩, prog_12_method_6_code, 5, (some .int)), (⟨"HopeBank", "ward", "()I"⟩, prog_1_method_42_code, 1, (some .int)), (⟨"java/lang/Integer", "numberOfTrailingZeros", "(I)I"⟩, prog_15_method_48_code, 2, (some .int)), (⟨"HopeBank$Sets", "fill", "()V"⟩, prog_7_method_2_code, 4, none), (⟨"HopeBank$Sets", "noGreaterThan", "(I)I"⟩, prog_7_method_5_code, 4, (some .int)), (⟨"HopeBank$Sets", "weightOf", "(I)I"⟩, prog_7_method_3_code, 2, (some .int)), (⟨"HopeBank$Packing", "spread", "(II)V"⟩, prog_4_method_5_code, 7, none), (⟨"HopeBank$Packing", "reach", "(I)V"⟩, prog_4_method_4_code, 3, none), (⟨"HopeBank$Sets", "worthOf", "(I)I"⟩, prog_7_method_4_code, 2, (some .int)), (⟨"HopeBank$Packing", "canBring", "(II)Z"⟩, prog_4_method_7_code, 4, (some .boolean)), (⟨"HopeBank$Packing", "fix", "(II)I"⟩, prog_4_method_6_code, 9, (some .int)), (⟨"HopeBank$Packing", "settle", "()V"⟩, prog_4_method_3_code, 3, none), (⟨"HopeBank", "packs", "()I"⟩, prog_1_method_43_code, 1, (some .int)), (⟨"HopeBank", "packed", "(I)I"⟩, prog_1_method_44_code, 2, (some .int)), (⟨"HopeBank", "most", "()I"⟩, prog_1_method_45_code, 1, (some .int)), (⟨"HopeBank$Hush", "fallsUnheard", "(II)Z"⟩, prog_2_method_4_code, 7, (some .boolean)), (⟨"HopeBank$Hush", "goOn", "(I)V"⟩, prog_2_method_3_code, 7, none), (⟨"HopeBank$Hush", "fill", "(I)V"⟩, prog_2_method_2_code, 3, none), (⟨"HopeBank", "unheard", "(I)I"⟩, prog_1_method_46_code, 2, (some .int)), (⟨"HopeBank$Hush", "nextBehind", "(I)I"⟩, prog_2_method_6_code, 4, (some .int)), (⟨"HopeBank$Hush", "hopeAt", "(I)I"⟩, prog_2_method_5_code, 5, (some .int)), (⟨"HopeBank", "order", "(II)I"⟩, prog_1_method_47_code, 3, (some .int)), (⟨"HopeBank", "rows", "(I)I"⟩, prog_1_method_48_code, 2, (some .int)), (⟨"HopeBank$Slots", "exists", "(I)Z"⟩, prog_8_method_2_code, 2, (some .boolean)), (⟨"HopeBank$Slots", "hasRow", "(I)Z"⟩, prog_8_method_3_code, 2, (some .boolean)), (⟨"HopeBank$Slots", "lengthOf", "(I)I"⟩, prog_8_method_5_code, 2, (some .int)), (⟨"HopeBank$Slots", "read", "(II)J"⟩, prog_8_method_10_code, 3, (some .long)), (⟨"HopeBank$Tilting", "tellsTilts", "(I)Z"⟩, prog_10_method_3_code, 7, (some .boolean)), (⟨"HopeBank$Tilting", "sift", "(II)V"⟩, prog_10_method_4_code, 7, none), (⟨"HopeBank$Tilting", "collect", "(II)I"⟩, prog_10_method_2_code, 6, (some .int)), (⟨"HopeBank", "tilts", "(II)I"⟩, prog_1_method_49_code, 4, (some .int)), (⟨"HopeBank$Tilting", "inEach", "()I"⟩, prog_10_method_5_code, 3, (some .int)), (⟨"HopeBank", "surely", "(II)I"⟩, prog_1_method_50_code, 4, (some .int)), (⟨"HopeBank$Tilting", "inNone", "()I"⟩, prog_10_method_6_code, 3, (some .int)), (⟨"HopeBank", "never", "(II)I"⟩, prog_1_method_51_code, 4, (some .int)), (⟨"HopeBank$Tilting", "leftAtWorst", "(I)I"⟩, prog_10_method_8_code, 7, (some .int)), (⟨"HopeBank$Tilting", "wisestTilt", "()I"⟩, prog_10_method_7_code, 5, (some .int)), (⟨"HopeBank", "ask", "(II)I"⟩, prog_1_method_52_code, 4, (some .int)), (⟨"HopeBank", "leaves", "(II)I"⟩, prog_1_method_53_code, 4, (some .int)), (⟨"HopeBank$Sets", "howManyWeigh", "(II)I"⟩, prog_7_method_6_code, 5, (some .int)), (⟨"HopeBank", "lighter", "(III)I"⟩, prog_1_method_54_code, 4, (some .int)), (⟨"HopeBank$Sets", "fewestThatWeigh", "(II)I"⟩, prog_7_method_7_code, 6, (some .int)), (⟨"HopeBank", "taken", "(III)I"⟩, prog_1_method_55_code, 4, (some .int)), (⟨"HopeBank", "lacksGame", "(II)Z"⟩, prog_1_method_75_code, 3, (some .boolean)), (⟨"HopeBank$Trials", "nightChosen", "(II)I"⟩, prog_12_method_7_code, 3, (some .int)), (⟨"HopeBank$Trials", "payOff", "(IIII)I"⟩, prog_12_method_8_code, 7, (some .int)), (⟨"HopeBank$Trials", "pairsAtRest", "(II)I"⟩, prog_12_method_9_code, 8, (some .int)), (⟨"HopeBank", "rests", "(II)I"⟩, prog_1_method_56_code, 3, (some .int)), (⟨"HopeBank", "gets", "(IIII)I"⟩, prog_1_method_57_code, 5, (some .int)), (⟨"HopeBank$Trials", "thievesTo", "(I)I"⟩, prog_12_method_14_code, 4, (some .int)), (⟨"HopeBank$Trials", "power", "(II)J"⟩, prog_12_method_15_code, 5, (some .long)), (⟨"HopeBank$Trials", "measure", "(III)I"⟩, prog_12_method_13_code, 4, (some .int)), (⟨"HopeBank$Trials", "weigh", "(III)V"⟩, prog_12_method_12_code, 11, none), (⟨"HopeBank$Trials", "weighHope", "(II)V"⟩, prog_12_method_10_code, 3, none), (⟨"HopeBank$Trials", "commonDivisor", "(JJ)J"⟩, prog_12_method_17_code, 11, (some .long)), (⟨"HopeBank$Trials", "fraction", "(I)I"⟩, prog_12_method_16_code, 4, (some .int)), (⟨"HopeBank", "chance", "(III)I"⟩, prog_1_method_58_code, 4, (some .int)), (⟨"HopeBank$Trials", "weighPig", "(II)V"⟩, prog_12_method_11_code, 3, none), (⟨"HopeBank", "mean", "(III)I"⟩, prog_1_method_59_code, 4, (some .int)), (⟨"HopeBank", "act", "(III)I"⟩, prog_1_method_77_code, 5, (some .int)), (⟨"HopeBank", "drops", "(III)I"⟩, prog_1_method_60_code, 4, (some .int)), (⟨"HopeBank", "breaks", "(II)I"⟩, prog_1_method_61_code, 3, (some .int)), (⟨"HopeBank$Table", "removeLast", "()V"⟩, prog_9_method_7_code, 1, none), (⟨"HopeBank", "undo", "()I"⟩, prog_1_method_62_code, 1, (some .int)), (⟨"HopeBank", "anew", "()I"⟩, prog_1_method_63_code, 2, (some .int)), (⟨"HopeBank$Trials", "comers", "(I)I"⟩, prog_12_method_18_code, 7, (some .int)), (⟨"HopeBank$Trials", "valueDrawn", "(I)I"⟩, prog_12_method_19_code, 2, (some .int)), (⟨"HopeBank", "drawn", "(II)I"⟩, prog_1_method_64_code, 3, (some .int)), (⟨"HopeBank$Trials", "yearsStolen", "(III)I"⟩, prog_12_method_20_code, 6, (some .int)), (⟨"HopeBank", "luck", "(III)I"⟩, prog_1_method_65_code, 4, (some .int)), (⟨"HopeBank", "rate", "(II)I"⟩, prog_1_method_66_code, 4, (some .int)), (⟨"HopeBank$Slots", "howManyHaveRows", "()I"⟩, prog_8_method_6_code, 3, (some .int)), (⟨"HopeBank", "count", "(I)I"⟩, prog_1_method_67_code, 2, (some .int)), (⟨"HopeBank", "imageOf", "(I)LHopeBank$Town;"⟩, prog_1_method_76_code, 2, (some (.object "HopeBank$Town"))), (⟨"HopeBank", "image", "(I)I"⟩, prog_1_method_68_code, 3, (some .int)), (⟨"HopeBank", "back", "(I)I"⟩, prog_1_method_69_code, 3, (some .int)), (⟨"java/util/Arrays", "fill", "([JJ)V"⟩, prog_21_method_101_code, 5, none), (⟨"HopeBank$Slots", "lay", "(III)V"⟩, prog_8_method_7_code, 4, none), (⟨"HopeBank", "row", "(III)I"⟩, prog_1_method_70_code, 4, (some .int)), (⟨"HopeBank$Slots", "widthOf", "(I)I"⟩, prog_8_method_4_code, 2, (some .int)), (⟨"HopeBank$Slots", "cut", "(JI)J"⟩, prog_8_method_9_code, 3, (some .long)), (⟨"HopeBank$Slots", "put", "(IIJ)Z"⟩, prog_8_method_8_code, 5, (some .boolean)), (⟨"HopeBank", "write", "(IIJ)I"⟩, prog_1_method_71_code, 5, (some .int)), (⟨"HopeBank$Slots", "holds", "(III)Z"⟩, prog_8_method_11_code, 4, (some .boolean)), (⟨"HopeBank$Slots", "move", "(IIIII)V"⟩, prog_8_method_12_code, 6, none), (⟨"HopeBank", "paste", "(IIIII)I"⟩, prog_1_method_72_code, 6, (some .int)), (⟨"HopeBankModel", "in", "(JJJ)Z"⟩, prog_14_method_3_code, 6, (some .boolean)), (⟨"HopeBankModel", "image", "(I)I"⟩, prog_14_method_6_code, 3, (some .int)), (⟨"HopeBankModel", "back", "(I)I"⟩, prog_14_method_7_code, 3, (some .int)), (⟨"HopeBankModel", "feed", "(IIIII)I"⟩, prog_14_method_17_code, 7, (some .int)), (⟨"HopeBankModel", "end", "(I)I"⟩, prog_14_method_18_code, 2, (some .int)), (⟨"HopeBankModel", "asItIs", "()V"⟩, prog_14_method_41_code, 2, none), (⟨"HopeBankModel", "nights", "()I"⟩, prog_14_method_12_code, 1, (some .int)), (⟨"HopeBankModel", "withinNow", "(I)I"⟩, prog_14_method_42_code, 4, (some .int)), (⟨"HopeBankModel", "sizeOf", "(I)I"⟩, prog_14_method_13_code, 2, (some .int)), (⟨"HopeBankModel", "slotOf", "(I)I"⟩, prog_14_method_16_code, 2, (some .int)), (⟨"HopeBankModel", "bit", "(II)I"⟩, prog_14_method_5_code, 2, (some .int)), (⟨"HopeBankModel", "sizeIn", "(I)I"⟩, prog_14_method_43_code, 4, (some .int)), (⟨"HopeBankModel", "doesFit", "(IIII)Z"⟩, prog_14_method_44_code, 5, (some .boolean)), (⟨"HopeBankModel", "loudOf", "(I)I"⟩, prog_14_method_14_code, 2, (some .int)), (⟨"HopeBankModel", "bits", "(I)I"⟩, prog_14_method_4_code, 3, (some .int)), (⟨"HopeBankModel", "heardBy", "(III)I"⟩, prog_14_method_45_code, 5, (some .int)), (⟨"HopeBankModel", "goDrop", "(III)Z"⟩, prog_14_method_46_code, 5, (some .boolean)), (⟨"HopeBankModel", "goDrops", "(I)V"⟩, prog_14_method_47_code, 5, none), (⟨"HopeBankModel", "goThieves", "(I)V"⟩, prog_14_method_48_code, 8, none), (⟨"HopeBankModel", "goBreaks", "(I)V"⟩, prog_14_method_49_code, 7, none), (⟨"HopeBankModel", "goAll", "()V"⟩, prog_14_method_50_code, 3, none), (⟨"HopeBankModel", "isTown", "()Z"⟩, prog_14_method_8_code, 1, (some .boolean)), (⟨"HopeBankModel", "asksTown", "()Z"⟩, prog_14_method_51_code, 1, (some .boolean)), (⟨"HopeBankModel", "takes", "(I)I"⟩, prog_14_method_86_code, 2, (some .int)), (⟨"HopeBankModel", "isPig", "(I)Z"⟩, prog_14_method_10_code, 2, (some .boolean)), (⟨"HopeBankModel", "doAllGo", "(I)Z"⟩, prog_14_method_94_code, 3, (some .boolean)), (⟨"HopeBankModel", "needs", "(I)I"⟩, prog_14_method_95_code, 3, (some .int)), (⟨"HopeBankModel", "fault", "(I)I"⟩, prog_14_method_28_code, 2, (some .int)), (⟨"HopeBankModel", "see", "(I)I"⟩, prog_14_method_19_code, 2, (some .int)), (⟨"HopeBankModel", "advance", "()V"⟩, prog_14_method_20_code, 2, none), (⟨"HopeBankModel", "good", "()Z"⟩, prog_14_method_21_code, 1, (some .boolean)), (⟨"HopeBankModel", "is", "(Ljava/lang/String;)Z"⟩, prog_14_method_23_code, 4, (some .boolean)), (⟨"HopeBankModel", "takes", "(Ljava/lang/String;)Z"⟩, prog_14_method_24_code, 3, (some .boolean)), (⟨"HopeBankModel", "errs", "(I)V"⟩, prog_14_method_22_code, 2, none), (⟨"HopeBankModel", "needs", "(Ljava/lang/String;)V"⟩, prog_14_method_25_code, 2, none), (⟨"HopeBankModel", "number", "(II)I"⟩, prog_14_method_26_code, 4, (some .int)), (⟨"HopeBankModel", "told", "(Ljava/lang/String;II)I"⟩, prog_14_method_27_code, 4, (some .int)), (⟨"HopeBankModel", "readFirst", "()V"⟩, prog_14_method_29_code, 1, none), (⟨"HopeBankModel", "readLine", "()V"⟩, prog_14_method_35_code, 1, none), (⟨"HopeBankModel", "isFull", "()Z"⟩, prog_14_method_33_code, 1, (some .boolean)), (⟨"HopeBankModel", "readThief", "()V"⟩, prog_14_method_32_code, 2, none), (⟨"HopeBankModel", "readDrop", "()V"⟩, prog_14_method_31_code, 2, none), (⟨"HopeBankModel", "readHope", "()V"⟩, prog_14_method_30_code, 2, none), (⟨"HopeBankModel", "readNext", "()V"⟩, prog_14_method_34_code, 3, none), (⟨"HopeBankModel", "town", "()I"⟩, prog_14_method_36_code, 2, (some .int)), (⟨"HopeBankModel", "pig", "(II)I"⟩, prog_14_method_37_code, 3, (some .int)), (⟨"HopeBankModel", "isHope", "(I)Z"⟩, prog_14_method_11_code, 2, (some .boolean)), (⟨"HopeBankModel", "hope", "(II)I"⟩, prog_14_method_38_code, 3, (some .int)), (⟨"HopeBankModel", "drop", "(II)I"⟩, prog_14_method_39_code, 3, (some .int)), (⟨"HopeBankModel", "thief", "(II)I"⟩, prog_14_method_40_code, 3, (some .int)), (⟨"HopeBankModel", "misses", "()I"⟩, prog_14_method_62_code, 1, (some .int)), (⟨"HopeBankModel", "silent", "()I"⟩, prog_14_method_63_code, 3, (some .int)), (⟨"HopeBankModel", "isNight", "(I)Z"⟩, prog_14_method_9_code, 2, (some .boolean)), (⟨"HopeBankModel", "asksNight", "(I)Z"⟩, prog_14_method_52_code, 2, (some .boolean)), (⟨"HopeBankModel", "setAt", "(II)I"⟩, prog_14_method_55_code, 5, (some .int)), (⟨"HopeBankModel", "empties", "(I)I"⟩, prog_14_method_64_code, 4, (some .int)), (⟨"HopeBankModel", "heavy", "(I)I"⟩, prog_14_method_65_code, 6, (some .int)), (⟨"HopeBankModel", "oldest", "(II)I"⟩, prog_14_method_66_code, 6, (some .int)), (⟨"HopeBankModel", "small", "(II)I"⟩, prog_14_method_67_code, 6, (some .int)), (⟨"HopeBankModel", "worthOf", "(I)I"⟩, prog_14_method_15_code, 2, (some .int)), (⟨"HopeBankModel", "richOf", "(II)I"⟩, prog_14_method_56_code, 3, (some .int)), (⟨"HopeBankModel", "rich", "(II)I"⟩, prog_14_method_68_code, 3, (some .int)), (⟨"HopeBankModel", "crowd", "()I"⟩, prog_14_method_69_code, 4, (some .int)), (⟨"HopeBankModel", "asksPig", "(I)Z"⟩, prog_14_method_53_code, 2, (some .boolean)), (⟨"HopeBankModel", "loud", "(I)I"⟩, prog_14_method_70_code, 4, (some .int)), (⟨"HopeBankModel", "valueOf", "(II)I"⟩, prog_14_method_57_code, 5, (some .int)), (⟨"HopeBankModel", "bestNight", "(I)I"⟩, prog_14_method_71_code, 4, (some .int)), (⟨"HopeBankModel", "gains", "(I)I"⟩, prog_14_method_72_code, 2, (some .int)), (⟨"HopeBankModel", "leftOf", "(II)I"⟩, prog_14_method_59_code, 3, (some .int)), (⟨"HopeBankModel", "tight", "(I)I"⟩, prog_14_method_73_code, 4, (some .int)), (⟨"HopeBankModel", "victims", "()I"⟩, prog_14_method_74_code, 1, (some .int)), (⟨"HopeBankModel", "within", "(II)I"⟩, prog_14_method_75_code, 3, (some .int)), (⟨"HopeBankModel", "where", "(II)I"⟩, prog_14_method_76_code, 3, (some .int)), (⟨"HopeBankModel", "asksHope", "(I)Z"⟩, prog_14_method_54_code, 2, (some .boolean)), (⟨"HopeBankModel", "falls", "(I)I"⟩, prog_14_method_77_code, 2, (some .int)), (⟨"HopeBankModel", "heard", "(I)I"⟩, prog_14_method_78_code, 2, (some .int)), (⟨"HopeBankModel", "known", "()I"⟩, prog_14_method_79_code, 3, (some .int)), (⟨"HopeBankModel", "weight", "(II)I"⟩, prog_14_method_80_code, 3, (some .int)), (⟨"HopeBankModel", "left", "(II)I"⟩, prog_14_method_81_code, 3, (some .int)), (⟨"HopeBankModel", "rattleOf", "(II)I"⟩, prog_14_method_60_code, 5, (some .int)), (⟨"HopeBankModel", "rattle", "(II)I"⟩, prog_14_method_82_code, 3, (some .int)), (⟨"HopeBankModel", "value", "(II)I"⟩, prog_14_method_83_code, 3, (some .int)), (⟨"HopeBankModel", "allValue", "(I)I"⟩, prog_14_method_58_code, 4, (some .int)), (⟨"HopeBankModel", "all", "(I)I"⟩, prog_14_method_84_code, 2, (some .int)), (⟨"HopeBankModel", "stolen", "(I)I"⟩, prog_14_method_85_code, 2, (some .int)), (⟨"HopeBankModel", "worthIn", "(I)I"⟩, prog_14_method_61_code, 4, (some .int)), (⟨"HopeBankModel", "loss", "()I"⟩, prog_14_method_87_code, 1, (some .int)), (⟨"HopeBankModel", "got", "(I)I"⟩, prog_14_method_88_code, 2, (some .int)), (⟨"HopeBankModel", "out", "()I"⟩, prog_14_method_89_code, 1, (some .int)), (⟨"HopeBankModel", "loudest", "(I)I"⟩, prog_14_method_90_code, 6, (some .int)), (⟨"HopeBankModel", "full", "(I)I"⟩, prog_14_method_91_code, 3, (some .int)), (⟨"HopeBankModel", "best", "(I)I"⟩, prog_14_method_92_code, 3, (some .int)), (⟨"HopeBankModel", "may", "(II)I"⟩, prog_14_method_93_code, 3, (some .int)), (⟨"HopeBankModel", "ward", "()I"⟩, prog_14_method_96_code, 5, (some .int)), (⟨"HopeBankModel", "freePigs", "()V"⟩, prog_14_method_101_code, 2, none), (⟨"HopeBankModel", "allHopes", "()I"⟩, prog_14_method_100_code, 1, (some .int)), (⟨"HopeBankModel", "holdsSet", "(II)Z"⟩, prog_14_method_97_code, 4, (some .boolean)), (⟨"HopeBankModel", "layPacks", "(I)V"⟩, prog_14_method_98_code, 6, none), (⟨"HopeBankModel", "packWorth", "(I)I"⟩, prog_14_method_99_code, 4, (some .int)), (⟨"HopeBankModel", "packs", "()I"⟩, prog_14_method_102_code, 1, (some .int)), (⟨"HopeBankModel", "most", "()I"⟩, prog_14_method_103_code, 3, (some .int)), (⟨"HopeBankModel", "isUnheard", "(III)Z"⟩, prog_14_method_105_code, 5, (some .boolean)), (⟨"HopeBankModel", "layUnheard", "(I)Z"⟩, prog_14_method_106_code, 5, (some .boolean)), (⟨"HopeBankModel", "unheard", "(I)I"⟩, prog_14_method_107_code, 2, (some .int)), (⟨"HopeBankModel", "rows", "(I)I"⟩, prog_14_method_108_code, 2, (some .int)), (⟨"HopeBankModel", "isSlot", "(I)Z"⟩, prog_14_method_142_code, 1, (some .boolean)), (⟨"HopeBankModel", "numberAt", "(II)J"⟩, prog_14_method_111_code, 3, (some .long)), (⟨"HopeBankModel", "comesOut", "(II)I"⟩, prog_14_method_110_code, 5, (some .int)), (⟨"HopeBankModel", "layTilts", "(II)I"⟩, prog_14_method_112_code, 6, (some .int)), (⟨"HopeBankModel", "tilts", "(II)I"⟩, prog_14_method_113_code, 4, (some .int)), (⟨"HopeBankModel", "surely", "(II)I"⟩, prog_14_method_114_code, 6, (some .int)), (⟨"HopeBankModel", "never", "(II)I"⟩, prog_14_method_115_code, 6, (some .int)), (⟨"HopeBankModel", "askOf", "()I"⟩, prog_14_method_116_code, 7, (some .int)), (⟨"HopeBankModel", "ask", "(II)I"⟩, prog_14_method_117_code, 4, (some .int)), (⟨"HopeBankModel", "leaves", "(II)I"⟩, prog_14_method_118_code, 4, (some .int)), (⟨"HopeBankModel", "lighterOf", "(III)I"⟩, prog_14_method_119_code, 7, (some .int)), (⟨"HopeBankModel", "lighter", "(III)I"⟩, prog_14_method_120_code, 4, (some .int)), (⟨"HopeBankModel", "taken", "(III)I"⟩, prog_14_method_121_code, 4, (some .int)), (⟨"HopeBankModel", "areTwo", "(II)Z"⟩, prog_14_method_123_code, 3, (some .boolean)), (⟨"HopeBankModel", "getsBy", "(IIIII)I"⟩, prog_14_method_122_code, 10, (some .int)), (⟨"HopeBankModel", "rests", "(II)I"⟩, prog_14_method_124_code, 8, (some .int)), (⟨"HopeBankModel", "gets", "(IIII)I"⟩, prog_14_method_125_code, 5, (some .int)), (⟨"HopeBankModel", "layChances", "(III)V"⟩, prog_14_method_128_code, 7, none), (⟨"HopeBankModel", "part", "(JJI)I"⟩, prog_14_method_127_code, 5, (some .int)), (⟨"HopeBankModel", "chance", "(III)I"⟩, prog_14_method_129_code, 4, (some .int)), (⟨"HopeBankModel", "mean", "(III)I"⟩, prog_14_method_130_code, 4, (some .int)), (⟨"HopeBankModel", "keepAct", "(I)I"⟩, prog_14_method_131_code, 2, (some .int)), (⟨"HopeBankModel", "drops", "(III)I"⟩, prog_14_method_132_code, 4, (some .int)), (⟨"HopeBankModel", "breaks", "(II)I"⟩, prog_14_method_133_code, 3, (some .int)), (⟨"HopeBankModel", "undo", "()I"⟩, prog_14_method_134_code, 1, (some .int)), (⟨"HopeBankModel", "anew", "()I"⟩, prog_14_method_135_code, 2, (some .int)), (⟨"HopeBankModel", "isSeed", "(I)Z"⟩, prog_14_method_137_code, 1, (some .boolean)), (⟨"HopeBankModel", "goDrawn", "(J)I"⟩, prog_14_method_136_code, 7, (some .int)), (⟨"HopeBankModel", "drawn", "(II)I"⟩, prog_14_method_138_code, 4, (some .int)), (⟨"HopeBankModel", "luck", "(III)I"⟩, prog_14_method_139_code, 6, (some .int)), (⟨"HopeBankModel", "rate", "(II)I"⟩, prog_14_method_140_code, 4, (some .int)), (⟨"HopeBankModel", "count", "(I)I"⟩, prog_14_method_141_code, 4, (some .int)), (⟨"HopeBankModel", "row", "(III)I"⟩, prog_14_method_144_code, 5, (some .int)), (⟨"HopeBankModel", "cut", "(JI)J"⟩, prog_14_method_143_code, 4, (some .long)), (⟨"HopeBankModel", "write", "(IIJ)I"⟩, prog_14_method_145_code, 5, (some .int)), (⟨"HopeBankModel", "paste", "(IIIII)I"⟩, prog_14_method_146_code, 7, (some .int)), (⟨"HopeBankModel", "packed", "(I)I"⟩, prog_14_method_104_code, 8, (some .int)), (⟨"HopeBankModel", "order", "(II)I"⟩, prog_14_method_109_code, 6, (some .int))]
def hb_TX : List String := ["town", "nights", "law", "quiet", "odds", "pig", "room", "slot", "hope", "size", "loud", "worth", "drop", "in", "at", "thief", "from", "fingers"]
def hb_TB : List (List Int32) := [[116, 111, 119, 110], [110, 105, 103, 104, 116, 115], [108, 97, 119], [113, 117, 105, 101, 116], [111, 100, 100, 115], [112, 105, 103], [114, 111, 111, 109], [115, 108, 111, 116], [104, 111, 112, 101], [115, 105, 122, 101], [108, 111, 117, 100], [119, 111, 114, 116, 104], [100, 114, 111, 112], [105, 110], [97, 116], [116, 104, 105, 101, 102], [102, 114, 111, 109], [102, 105, 110, 103, 101, 114, 115]]
def hb_TL : List Nat := [4, 6, 3, 5, 4, 3, 4, 4, 4, 4, 4, 5, 4, 2, 2, 5, 4, 7]
def hb_SL : List (String × Nat × Nat) := [("HopeBank$Reader", 58, 0), ("HopeBank$Reader", 114, 1), ("HopeBank$Reader", 120, 2), ("HopeBank$Reader", 122, 3), ("HopeBank$Reader", 124, 4), ("HopeBank$Reader", 79, 5), ("HopeBank$Reader", 126, 6), ("HopeBank$Reader", 128, 7), ("HopeBank$Reader", 90, 8), ("HopeBank$Reader", 130, 9), ("HopeBank$Reader", 132, 10), ("HopeBank$Reader", 134, 11), ("HopeBank$Reader", 98, 12), ("HopeBank$Reader", 144, 13), ("HopeBank$Reader", 146, 14), ("HopeBank$Reader", 106, 15), ("HopeBank$Reader", 148, 16), ("HopeBank$Reader", 150, 17), ("HopeBankModel", 170, 0), ("HopeBankModel", 172, 1), ("HopeBankModel", 178, 2), ("HopeBankModel", 180, 3), ("HopeBankModel", 182, 4), ("HopeBankModel", 194, 5), ("HopeBankModel", 196, 8), ("HopeBankModel", 198, 12), ("HopeBankModel", 200, 15), ("HopeBankModel", 205, 6), ("HopeBankModel", 207, 7), ("HopeBankModel", 184, 9), ("HopeBankModel", 185, 10), ("HopeBankModel", 187, 11), ("HopeBankModel", 189, 13), ("HopeBankModel", 190, 14), ("HopeBankModel", 191, 16), ("HopeBankModel", 192, 17)]
def hb_NW : List Cond := [.methodLinkNest "HopeBank$Hush" 76 ⟨"HopeBank", "hasBit", "(II)Z"⟩ "HopeBank", .methodLinkNest "HopeBank$Hush" 87 ⟨"HopeBank", "loudness", "(IIII)I"⟩ "HopeBank", .methodLinkNest "HopeBank$Hush" 57 ⟨"HopeBank", "at", "([II)I"⟩ "HopeBank", .methodLinkNest "HopeBank$Hush" 61 ⟨"HopeBank", "set", "([III)V"⟩ "HopeBank", .methodLinkNest "HopeBank$Look" 25 ⟨"HopeBank", "at", "([II)I"⟩ "HopeBank", .methodLinkNest "HopeBank$Packing" 57 ⟨"HopeBank", "at", "([II)I"⟩ "HopeBank", .methodLinkNest "HopeBank$Packing" 90 ⟨"HopeBank", "set", "([III)V"⟩ "HopeBank", .methodLinkNest "HopeBank$Packing" 110 ⟨"HopeBank", "firstBits", "(I)I"⟩ "HopeBank", .methodLinkNest "HopeBank$Play" 126 ⟨"HopeBank", "at", "([II)I"⟩ "HopeBank", .methodLinkNest "HopeBank$Play" 147 ⟨"HopeBank", "hasBit", "(II)Z"⟩ "HopeBank", .methodLinkNest "HopeBank$Play" 108 ⟨"HopeBank", "set", "([III)V"⟩ "HopeBank", .methodLinkNest "HopeBank$Play" 139 ⟨"HopeBank", "loudness", "(IIII)I"⟩ "HopeBank", .methodLinkNest "HopeBank$Reader" 170 ⟨"HopeBank", "set", "([III)V"⟩ "HopeBank", .methodLinkNest "HopeBank$Reader" 155 ⟨"HopeBank", "at", "([II)I"⟩ "HopeBank", .methodLinkNest "HopeBank$Sets" 34 ⟨"HopeBank", "firstBits", "(I)I"⟩ "HopeBank", .methodLinkNest "HopeBank$Sets" 46 ⟨"HopeBank", "at", "([II)I"⟩ "HopeBank", .methodLinkNest "HopeBank$Sets" 54 ⟨"HopeBank", "set", "([III)V"⟩ "HopeBank", .methodLinkNest "HopeBank$Slots" 29 ⟨"HopeBank", "at", "([II)I"⟩ "HopeBank", .methodLinkNest "HopeBank$Slots" 43 ⟨"HopeBank", "set", "([III)V"⟩ "HopeBank", .methodLinkNest "HopeBank$Tilting" 91 ⟨"HopeBank", "at", "([II)I"⟩ "HopeBank", .methodLinkNest "HopeBank$Tilting" 76 ⟨"HopeBank", "set", "([III)V"⟩ "HopeBank", .methodLinkNest "HopeBank$Town" 53 ⟨"HopeBank", "hasBit", "(II)Z"⟩ "HopeBank", .methodLinkNest "HopeBank$Trials" 154 ⟨"HopeBank", "at", "([II)I"⟩ "HopeBank"]
def hb_PS (A : Nat → Prop) (S : Nat → Nat) (s : State) : Prop := (∃ adV : Nat → Nat, vk_S 18 hb_TL hb_TB S adV A s s.heap) ∧ (∀ z ∈ hb_SL, vk_R z.1 z.2.1 (hb_TX.getD z.2.2 "") (S z.2.2) s) ∧ va_Z "java/lang/String" "COMPACT_STRINGS" "Z" (.int 1) A s s.heap ∧ va_Zq "jdk/internal/util/Preconditions" "SIOOBE_FORMATTER" "Ljava/util/function/BiFunction;" A s s.heap
abbrev hb_G : hbG := ((hb_KT, vwCl), (lw_tbl.filter hb_gdw, hb_NW), hb_PS, hb_MT)
theorem hb_GokG : hb_Gok hb_G := by
  refine ⟨fun w h => ?_, fun A S s U hW hq h => ?_, fun A S s U hvm hh h => ?_, fun A B S s hAB h => ?_⟩
  · have key : ∃ a i x hh, w = .methodLinkNest a i x hh := by
      have h : w ∈ hb_NW := h
      unfold hb_NW at h
      simp only [List.mem_cons, List.not_mem_nil, or_false] at h
      rcases h with h | h | h | h | h | h | h | h | h | h | h | h | h | h | h | h | h | h | h | h | h | h | h <;> exact ⟨_, _, _, _, h⟩
    obtain ⟨a, i, x, hh, rfl⟩ := key
    exact ⟨rfl, fun s U hW hZ => hZ.warmM hW⟩
  · obtain ⟨⟨adV, h1⟩, h2, h3, h4⟩ := h
    exact ⟨⟨adV, (h1.moved hW.alike).kept hq⟩, fun z hz => (h2 z hz).warm hW, (h3.moved hW.alike).kept hq, (h4.moved hW.alike).kept hq⟩
  · obtain ⟨⟨adV, h1⟩, h2, h3, h4⟩ := h
    refine ⟨⟨adV, ?_⟩, fun z hz => (h2 z hz).same hvm.symm, ?_, ?_⟩
    · rw [← hh]; exact h1.moved (by rw [hvm]; exact Vm.Alike.refl _)
    · rw [← hh]; exact h3.moved (by rw [hvm]; exact Vm.Alike.refl _)
    · rw [← hh]; exact h4.moved (by rw [hvm]; exact Vm.Alike.refl _)
  · obtain ⟨⟨adV, h1⟩, h2, h3, h4⟩ := h
    exact ⟨⟨adV, h1.narrow hAB⟩, h2, h3.narrow hAB, h4.narrow hAB⟩
theorem hb_goodG : ∀ w ∈ hb_G.2.1.1, (w.onTables && w.keeps) = true ∨ ∃ ty, w = .arrayClass ty := fun w hw => hb_gdw_ok (List.mem_filter.mp hw).2
theorem hb_cdn : ∀ y ∈ ([] : List hbY), Cond.code y.1 y.2.1 y.2.2.1 y.2.2.2 ∈ lw_tbl.filter hb_gdw := fun _ h => absurd h List.not_mem_nil
theorem hb_cdc {y : hbY} {L : List hbY} (h : Cond.code y.1 y.2.1 y.2.2.1 y.2.2.2 ∈ lw_tbl.filter hb_gdw) (hL : ∀ y ∈ L, Cond.code y.1 y.2.1 y.2.2.1 y.2.2.2 ∈ lw_tbl.filter hb_gdw) : ∀ z ∈ y :: L, Cond.code z.1 z.2.1 z.2.2.1 z.2.2.2 ∈ lw_tbl.filter hb_gdw := fun z hz => (List.mem_cons.mp hz).elim (fun e => by rw [e]; exact h) (hL z)
set_option maxRecDepth 100000 in
theorem hb_codeG : ∀ y ∈ hb_G.2.2.2, Cond.code y.1 y.2.1 y.2.2.1 y.2.2.2 ∈ hb_G.2.1.1 :=
  hb_cdc hb_cd0 <|
  hb_cdc hb_cd1 <|
  hb_cdc hb_cd2 <|
  hb_cdc hb_cd3 <|
  hb_cdc hb_cd4 <|
  hb_cdc hb_cd5 <|
  hb_cdc hb_cd6 <|
  hb_cdc hb_cd7 <|
  hb_cdc hb_cd8 <|
  hb_cdc hb_cd9 <|
  hb_cdc hb_cd10 <|
  hb_cdc hb_cd11 <|
  hb_cdc hb_cd12 <|
  hb_cdc hb_cd13 <|
  hb_cdc hb_cd14 <|
  hb_cdc hb_cd15 <|
  hb_cdc hb_cd16 <|
  hb_cdc hb_cd17 <|
  hb_cdc hb_cd18 <|
  hb_cdc hb_cd19 <|
  hb_cdc hb_cd20 <|
  hb_cdc hb_cd21 <|
  hb_cdc hb_cd22 <|
  hb_cdc hb_cd23 <|
  hb_cdc hb_cd24 <|
  hb_cdc hb_cd25 <|
  hb_cdc hb_cd26 <|
  hb_cdc hb_cd27 <|
  hb_cdc hb_cd28 <|
  hb_cdc hb_cd29 <|
  hb_cdc hb_cd30 <|
  hb_cdc hb_cd31 <|
  hb_cdc hb_cd32 <|
  hb_cdc hb_cd33 <|
  hb_cdc hb_cd34 <|
  hb_cdc hb_cd35 <|
  hb_cdc hb_cd36 <|
  hb_cdc hb_cd37 <|
  hb_cdc hb_cd38 <|
  hb_cdc hb_cd39 <|
  hb_cdc hb_cd40 <|
  hb_cdc hb_cd41 <|
  hb_cdc hb_cd42 <|
  hb_cdc hb_cd43 <|
  hb_cdc hb_cd44 <|
  hb_cdc hb_cd45 <|
  hb_cdc hb_cd46 <|
  hb_cdc hb_cd47 <|
  hb_cdc hb_cd48 <|
  hb_cdc hb_cd49 <|
  hb_cdc hb_cd50 <|
  hb_cdc hb_cd51 <|
  hb_cdc hb_cd52 <|
  hb_cdc hb_cd53 <|
  hb_cdc hb_cd54 <|
  hb_cdc hb_cd55 <|
  hb_cdc hb_cd56 <|
  hb_cdc hb_cd57 <|
  hb_cdc hb_cd58 <|
  hb_cdc hb_cd59 <|
  hb_cdc hb_cd60 <|
  hb_cdc hb_cd61 <|
  hb_cdc hb_cd62 <|
  hb_cdc hb_cd63 <|
  hb_cdc hb_cd64 <|
  hb_cdc hb_cd65 <|
  hb_cdc hb_cd66 <|
  hb_cdc hb_cd67 <|
  hb_cdc hb_cd68 <|
  hb_cdc hb_cd69 <|
  hb_cdc hb_cd70 <|
  hb_cdc hb_cd71 <|
  hb_cdc hb_cd72 <|
  hb_cdc hb_cd73 <|
  hb_cdc hb_cd74 <|
  hb_cdc hb_cd75 <|
  hb_cdc hb_cd76 <|
  hb_cdc hb_cd77 <|
  hb_cdc hb_cd78 <|
  hb_cdc hb_cd79 <|
  hb_cdc hb_cd80 <|
  hb_cdc hb_cd81 <|
  hb_cdc hb_cd82 <|
  hb_cdc hb_cd83 <|
  hb_cdc hb_cd84 <|
  hb_cdc hb_cd85 <|
  hb_cdc hb_cd86 <|
  hb_cdc hb_cd87 <|
  hb_cdc hb_cd88 <|
  hb_cdc hb_cd89 <|
  hb_cdc hb_cd90 <|
  hb_cdc hb_cd91 <|
  hb_cdc hb_cd92 <|
  hb_cdc hb_cd93 <|
  hb_cdc hb_cd94 <|
  hb_cdc hb_cd95 <|
  hb_cdc hb_cd96 <|
  hb_cdc hb_cd97 <|
  hb_cdc hb_cd98 <|
  hb_cdc hb_cd99 <|
  hb_cdc hb_cd100 <|
  hb_cdc hb_cd101 <|
  hb_cdc hb_cd102 <|
  hb_cdc hb_cd103 <|
  hb_cdc hb_cd104 <|
  hb_cdc hb_cd105 <|
  hb_cdc hb_cd106 <|
  hb_cdc hb_cd107 <|
  hb_cdc hb_cd108 <|
  hb_cdc hb_cd109 <|
  hb_cdc hb_cd110 <|
  hb_cdc hb_cd111 <|
  hb_cdc hb_cd112 <|
  hb_cdc hb_cd113 <|
  hb_cdc hb_cd114 <|
  hb_cdc hb_cd115 <|
  hb_cdc hb_cd116 <|
  hb_cdc hb_cd117 <|
  hb_cdc hb_cd118 <|
  hb_cdc hb_cd119 <|
  hb_cdc hb_cd120 <|
  hb_cdc hb_cd121 <|
  hb_cdc hb_cd122 <|
  hb_cdc hb_cd123 <|
  hb_cdc hb_cd124 <|
  hb_cdc hb_cd125 <|
  hb_cdc hb_cd126 <|
  hb_cdc hb_cd127 <|
  hb_cdc hb_cd128 <|
  hb_cdc hb_cd129 <|
  hb_cdc hb_cd130 <|
  hb_cdc hb_cd131 <|
  hb_cdc hb_cd132 <|
  hb_cdc hb_cd133 <|
  hb_cdc hb_cd134 <|
  hb_cdc hb_cd135 <|
  hb_cdc hb_cd136 <|
  hb_cdc hb_cd137 <|
  hb_cdc hb_cd138 <|
  hb_cdc hb_cd139 <|
  hb_cdc hb_cd140 <|
  hb_cdc hb_cd141 <|
  hb_cdc hb_cd142 <|
  hb_cdc hb_cd143 <|
  hb_cdc hb_cd144 <|
  hb_cdc hb_cd145 <|
  hb_cdc hb_cd146 <|
  hb_cdc hb_cd147 <|
  hb_cdc hb_cd148 <|
  hb_cdc hb_cd149 <|
  hb_cdc hb_cd150 <|
  hb_cdc hb_cd151 <|
  hb_cdc hb_cd152 <|
  hb_cdc hb_cd153 <|
  hb_cdc hb_cd154 <|
  hb_cdc hb_cd155 <|
  hb_cdc hb_cd156 <|
  hb_cdc hb_cd157 <|
  hb_cdc hb_cd158 <|
  hb_cdc hb_cd159 <|
  hb_cdc hb_cd160 <|
  hb_cdc hb_cd161 <|
  hb_cdc hb_cd162 <|
  hb_cdc hb_cd163 <|
  hb_cdc hb_cd164 <|
  hb_cdc hb_cd165 <|
  hb_cdc hb_cd166 <|
  hb_cdc hb_cd167 <|
  hb_cdc hb_cd168 <|
  hb_cdc hb_cd169 <|
  hb_cdc hb_cd170 <|
  hb_cdc hb_cd171 <|
  hb_cdc hb_cd172 <|
  hb_cdc hb_cd173 <|
  hb_cdc hb_cd174 <|
  hb_cdc hb_cd175 <|
  hb_cdc hb_cd176 <|
  hb_cdc hb_cd177 <|
  hb_cdc hb_cd178 <|
  hb_cdc hb_cd179 <|
  hb_cdc hb_cd180 <|
  hb_cdc hb_cd181 <|
  hb_cdc hb_cd182 <|
  hb_cdc hb_cd183 <|
  hb_cdc hb_cd184 <|
  hb_cdc hb_cd185 <|
  hb_cdc hb_cd186 <|
  hb_cdc hb_cd187 <|
  hb_cdc hb_cd188 <|
  hb_cdc hb_cd189 <|
  hb_cdc hb_cd190 <|
  hb_cdc hb_cd191 <|
  hb_cdc hb_cd192 <|
  hb_cdc hb_cd193 <|
  hb_cdc hb_cd194 <|
  hb_cdc hb_cd195 <|
  hb_cdc hb_cd196 <|
  hb_cdc hb_cd197 <|
  hb_cdc hb_cd198 <|
  hb_cdc hb_cd199 <|
  hb_cdc hb_cd200 <|
  hb_cdc hb_cd201 <|
  hb_cdc hb_cd202 <|
  hb_cdc hb_cd203 <|
  hb_cdc hb_cd204 <|
  hb_cdc hb_cd205 <|
  hb_cdc hb_cd206 <|
  hb_cdc hb_cd207 <|
  hb_cdc hb_cd208 <|
  hb_cdc hb_cd209 <|
  hb_cdc hb_cd210 <|
  hb_cdc hb_cd211 <|
  hb_cdc hb_cd212 <|
  hb_cdc hb_cd213 <|
  hb_cdc hb_cd214 <|
  hb_cdc hb_cd215 <|
  hb_cdc hb_cd216 <|
  hb_cdc hb_cd217 <|
  hb_cdc hb_cd218 <|
  hb_cdc hb_cd219 <|
  hb_cdc hb_cd220 <|
  hb_cdc hb_cd221 <|
  hb_cdc hb_cd222 <|
  hb_cdc hb_cd223 <|
  hb_cdc hb_cd224 <|
  hb_cdc hb_cd225 <|
  hb_cdc hb_cd226 <|
  hb_cdc hb_cd227 <|
  hb_cdc hb_cd228 <|
  hb_cdc hb_cd229 <|
  hb_cdc hb_cd230 <|
  hb_cdc hb_cd231 <|
  hb_cdc hb_cd232 <|
  hb_cdc hb_cd233 <|
  hb_cdc hb_cd234 <|
  hb_cdc hb_cd235 <|
  hb_cdc hb_cd236 <|
  hb_cdc hb_cd237 <|
  hb_cdc hb_cd238 <|
  hb_cdc hb_cd239 <|
  hb_cdc hb_cd240 <|
  hb_cdc hb_cd241 <|
  hb_cdc hb_cd242 <|
  hb_cdc hb_cd243 <|
  hb_cdc hb_cd244 <|
  hb_cdc hb_cd245 <|
  hb_cdc hb_cd246 <|
  hb_cdc hb_cd247 <|
  hb_cdc hb_cd248 <|
  hb_cdc hb_cd249 <|
  hb_cdc hb_cd250 <|
  hb_cdc hb_cd251 <|
  hb_cdc hb_cd252 <|
  hb_cdc hb_cd253 <|
  hb_cdc hb_cd254 <|
  hb_cdc hb_cd255 <|
  hb_cdc hb_cd256 <|
  hb_cdc hb_cd257 <|
  hb_cdc hb_cd258 <|
  hb_cdc hb_cd259 <|
  hb_cdc hb_cd260 <|
  hb_cdc hb_cd261 <|
  hb_cdc hb_cd262 <|
  hb_cdc hb_cd263 <|
  hb_cdc hb_cd264 <|
  hb_cdc hb_cd265 <|
  hb_cdc hb_cd266 <|
  hb_cdc hb_cd267 <|
  hb_cdc hb_cd268 <|
  hb_cdc hb_cd269 <|
  hb_cdc hb_cd270 <|
  hb_cdc hb_cd271 <|
  hb_cdc hb_cd272 <|
  hb_cdc hb_cd273 <|
  hb_cdc hb_cd274 <|
  hb_cdc hb_cd275 <|
  hb_cdc hb_cd276 <|
  hb_cdc hb_cd277 <|
  hb_cdc hb_cd278 <|
  hb_cdc hb_cd279 <|
  hb_cdc hb_cd280 <|
  hb_cdc hb_cd281 <|
  hb_cdc hb_cd282 <|
  hb_cdc hb_cd283 <|
  hb_cdc hb_cd284 <|
  hb_cdc hb_cd285 <|
  hb_cdc hb_cd286 <|
  hb_cdc hb_cd287 <|
  hb_cdc hb_cd288 <|
  hb_cdc hb_cd289 <|
  hb_cdc hb_cd290 <|
  hb_cdc hb_cd291 <|
  hb_cdc hb_cd292 <|
  hb_cdc hb_cd293 <|
  hb_cdc hb_cd294 <|
  hb_cdc hb_cd295 <|
  hb_cdc hb_cd296 <|
  hb_cdc hb_cd297 <|
  hb_cdc hb_cd298 <|
  hb_cdc hb_cd299 <|
  hb_cdc hb_cd300 <|
  hb_cdc hb_cd301 <|
  hb_cdc hb_cd302 <|
  hb_cdc hb_cd303 <|
  hb_cdc hb_cd304 <|
  hb_cdc hb_cd305 <|
  hb_cdc hb_cd306 <|
  hb_cdc hb_cd307 <|
  hb_cdc hb_cd308 <|
  hb_cdc hb_cd309 <|
  hb_cdc hb_cd310 <|
  hb_cdc hb_cd311 <|
  hb_cdc hb_cd312 <|
  hb_cdc hb_cd313 <|
  hb_cdc hb_cd314 <|
  hb_cdc hb_cd315 <|
  hb_cdc hb_cd316 <|
  hb_cdc hb_cd317 <|
  hb_cdc hb_cd318 <|
  hb_cdc hb_cd319 <|
  hb_cdc hb_cd320 <|
  hb_cdc hb_cd321 <|
  hb_cdc hb_cd322 <|
  hb_cdc hb_cd323 <|
  hb_cdc hb_cd324 <|
  hb_cdc hb_cd325 <|
  hb_cdc hb_cd326 <|
  hb_cdc hb_cd327 <|
  hb_cdc hb_cd328 <|
  hb_cdc hb_cd329 <|
  hb_cdc hb_cd330 <|
  hb_cdc hb_cd331 <|
  hb_cdc hb_cd332 <|
  hb_cdc hb_cd333 <|
  hb_cdc hb_cd334 <|
  hb_cdc hb_cd335 <|
  hb_cdc hb_cd336 <|
  hb_cdc hb_cd337 <|
  hb_cdc hb_cd338 <|
  hb_cdc hb_cd339 <|
  hb_cdc hb_cd340 <|
  hb_cdc hb_cd341 <|
  hb_cdc hb_cd342 <|
  hb_cdc hb_cd343 <|
  hb_cdc hb_cd344 <|
  hb_cdc hb_cd345 <|
  hb_cdc hb_cd346 <|
  hb_cdc hb_cd347 <|
  hb_cdc hb_cd348 <|
  hb_cdc hb_cd349 <|
  hb_cdc hb_cd350 <|
  hb_cdc hb_cd351 <|
  hb_cdc hb_cd352 <|
  hb_cdc hb_cd353 <|
  hb_cdc hb_cd354 <|
  hb_cdc hb_cd355 <|
  hb_cdn
theorem hb_tbX0 : ∀ w ∈ u_ws RX0 TX0 5, w ∈ lw_tbl.filter hb_gdw := by
  have h : hb_lz (fun (w : Cond) (ix : List Nat) => hb_wi lw_tbl (hb_nthD ix 0) w) (u_ws RX0 TX0 5) [[466], [468], [470], [472], [474]] = true := by decide +kernel
  intro w hw
  obtain ⟨i, hi⟩ := hb_lz_ok h w hw
  exact hb_wi_ok hi
theorem hb_tbX1 : ∀ w ∈ u_ws RX1 TX1 2, w ∈ lw_tbl.filter hb_gdw := by
  have h : hb_lz (fun (w : Cond) (ix : List Nat) => hb_wi lw_tbl (hb_nthD ix 0) w) (u_ws RX1 TX1 2) [[366], [368]] = true := by decide +kernel
  intro w hw
  obtain ⟨i, hi⟩ := hb_lz_ok h w hw
  exact hb_wi_ok hi
theorem hb_tbX2 : ∀ w ∈ u_ws RX2 TX2 8, w ∈ lw_tbl.filter hb_gdw := by
  have h : hb_lz (fun (w : Cond) (ix : List Nat) => hb_wi lw_tbl (hb_nthD ix 0) w) (u_ws RX2 TX2 8) [[436], [438], [440], [442], [444], [446], [448], [450]] = true := by decide +kernel
  intro w hw
  obtain ⟨i, hi⟩ := hb_lz_ok h w hw
  exact hb_wi_ok hi
theorem hb_tbX3 : ∀ w ∈ u_ws RX3 TX3 16, w ∈ lw_tbl.filter hb_gdw := by
  have h : hb_lz (fun (w : Cond) (ix : List Nat) => hb_wi lw_tbl (hb_nthD ix 0) w) (u_ws RX3 TX3 16) [[325], [327], [329], [331], [333], [335], [337], [339], [341], [343], [345], [347], [349], [351], [353], [355]] = true := by decide +kernel
  intro w hw
  obtain ⟨i, hi⟩ := hb_lz_ok h w hw
  exact hb_wi_ok hi
theorem hb_tbX4 : ∀ w ∈ u_ws RX4 TX4 10, w ∈ lw_tbl.filter hb_gdw := by
  have h : hb_lz (fun (w : Cond) (ix : List Nat) => hb_wi lw_tbl (hb_nthD ix 0) w) (u_ws RX4 TX4 10) [[251], [253], [255], [257], [259], [261], [263], [265], [267], [269]] = true := by decide +kernel
  intro w hw
  obtain ⟨i, hi⟩ := hb_lz_ok h w hw
  exact hb_wi_ok hi
theorem hb_tbX5 : ∀ w ∈ u_ws RX5 TX5 4, w ∈ lw_tbl.filter hb_gdw := by
  have h : hb_lz (fun (w : Cond) (ix : List Nat) => hb_wi lw_tbl (hb_nthD ix 0) w) (u_ws RX5 TX5 4) [[410], [412], [414], [416]] = true := by decide +kernel
  intro w hw
  obtain ⟨i, hi⟩ := hb_lz_ok h w hw
  exact hb_wi_ok hi
theorem hb_tbX6 : ∀ w ∈ u_ws RX6 TX6 3, w ∈ lw_tbl.filter hb_gdw := by
  have h : hb_lz (fun (w : Cond) (ix : List Nat) => hb_wi lw_tbl (hb_nthD ix 0) w) (u_ws RX6 TX6 3) [[489], [491], [493]] = true := by decide +kernel
  intro w hw
  obtain ⟨i, hi⟩ := hb_lz_ok h w hw
  exact hb_wi_ok hi
theorem hb_tbX7 : ∀ w ∈ u_ws RX7 TX7 3, w ∈ lw_tbl.filter hb_gdw := by
  have h : hb_lz (fun (w : Cond) (ix : List Nat) => hb_wi lw_tbl (hb_nthD ix 0) w) (u_ws RX7 TX7 3) [[173], [175], [177]] = true := by decide +kernel
  intro w hw
  obtain ⟨i, hi⟩ := hb_lz_ok h w hw
  exact hb_wi_ok hi
theorem hb_tbX8 : ∀ w ∈ u_ws RX8 TX8 6, w ∈ lw_tbl.filter hb_gdw := by
  have h : hb_lz (fun (w : Cond) (ix : List Nat) => hb_wi lw_tbl (hb_nthD ix 0) w) (u_ws RX8 TX8 6) [[510], [512], [514], [516], [518], [520]] = true := by decide +kernel
  intro w hw
  obtain ⟨i, hi⟩ := hb_lz_ok h w hw
  exact hb_wi_ok hi
theorem hb_tbX9 : ∀ w ∈ u_ws RX9 TX9 8, w ∈ lw_tbl.filter hb_gdw := by
  have h : hb_lz (fun (w : Cond) (ix : List Nat) => hb_wi lw_tbl (hb_nthD ix 0) w) (u_ws RX9 TX9 8) [[220], [222], [224], [226], [228], [230], [232], [234]] = true := by decide +kernel
  intro w hw
  obtain ⟨i, hi⟩ := hb_lz_ok h w hw
  exact hb_wi_ok hi
theorem hb_tbX10 : ∀ w ∈ u_ws RX10 TX10 5, w ∈ lw_tbl.filter hb_gdw := by
  have h : hb_lz (fun (w : Cond) (ix : List Nat) => hb_wi lw_tbl (hb_nthD ix 0) w) (u_ws RX10 TX10 5) [[386], [388], [390], [392], [394]] = true := by decide +kernel
  intro w hw
  obtain ⟨i, hi⟩ := hb_lz_ok h w hw
  exact hb_wi_ok hi
theorem hb_tbX11 : ∀ w ∈ u_ws RX11 TX11 12, w ∈ lw_tbl.filter hb_gdw := by
  have h : hb_lz (fun (w : Cond) (ix : List Nat) => hb_wi lw_tbl (hb_nthD ix 0) w) (u_ws RX11 TX11 12) [[535], [537], [539], [541], [543], [545], [547], [549], [551], [553], [555], [557]] = true := by decide +kernel
  intro w hw
  obtain ⟨i, hi⟩ := hb_lz_ok h w hw
  exact hb_wi_ok hi
theorem hb_tbX12 : ∀ w ∈ u_ws RX12 TX12 46, w ∈ lw_tbl.filter hb_gdw := by
  have h : hb_lz (fun (w : Cond) (ix : List Nat) => hb_wi lw_tbl (hb_nthD ix 0) w) (u_ws RX12 TX12 46) [[1601], [1603], [1605], [1607], [1609], [1611], [1613], [1615], [1617], [1619], [1621], [1623], [1625], [1627], [1629], [1631], [1633], [1635], [1637], [1639], [1641], [1643], [1645], [1647], [1649], [1651], [1653], [1655], [1657], [1659], [1661], [1663], [1665], [1667], [1669], [1671], [1673], [1675], [1677], [1679], [1681], [1683], [1685], [1687], [1689], [1691]] = true := by decide +kernel
  intro w hw
  obtain ⟨i, hi⟩ := hb_lz_ok h w hw
  exact hb_wi_ok hi
theorem hb_tabsG : hb_tabs hb_G.1.2 hb_G.2.1.1 := by
  intro ci C T N h
  have hlt : ci < 13 := (List.getElem?_eq_some_iff.mp h).1
  match ci, hlt, h with
  | 0, _, h => cases h; exact ⟨hb_tbX0, ⟨tyX0, tyX0_ok⟩, nmX0⟩
  | 1, _, h => cases h; exact ⟨hb_tbX1, ⟨tyX1, tyX1_ok⟩, nmX1⟩
  | 2, _, h => cases h; exact ⟨hb_tbX2, ⟨tyX2, tyX2_ok⟩, nmX2⟩
  | 3, _, h => cases h; exact ⟨hb_tbX3, ⟨tyX3, tyX3_ok⟩, nmX3⟩
  | 4, _, h => cases h; exact ⟨hb_tbX4, ⟨tyX4, tyX4_ok⟩, nmX4⟩
  | 5, _, h => cases h; exact ⟨hb_tbX5, ⟨tyX5, tyX5_ok⟩, nmX5⟩
  | 6, _, h => cases h; exact ⟨hb_tbX6, ⟨tyX6, tyX6_ok⟩, nmX6⟩
  | 7, _, h => cases h; exact ⟨hb_tbX7, ⟨tyX7, tyX7_ok⟩, nmX7⟩
  | 8, _, h => cases h; exact ⟨hb_tbX8, ⟨tyX8, tyX8_ok⟩, nmX8⟩
  | 9, _, h => cases h; exact ⟨hb_tbX9, ⟨tyX9, tyX9_ok⟩, nmX9⟩
  | 10, _, h => cases h; exact ⟨hb_tbX10, ⟨tyX10, tyX10_ok⟩, nmX10⟩
  | 11, _, h => cases h; exact ⟨hb_tbX11, ⟨tyX11, tyX11_ok⟩, nmX11⟩
  | 12, _, h => cases h; exact ⟨hb_tbX12, ⟨tyX12, tyX12_ok⟩, nmX12⟩
  | k + 13, hlt, _ => omega
