/-! bricks: the rows, the ways, by the kernel -/
def xR (w : Nat) : List Nat := if w = 1 then [] else if w = 2 then [0] else if w = 3 then [0] else if w = 4 then [4] else if w = 5 then [4, 8] else if w = 6 then [8, 20] else if w = 7 then [20, 36, 40] else if w = 8 then [36, 40, 72, 84] else if w = 9 then [72, 84, 148, 164, 168] else if w = 10 then [148, 164, 168, 292, 296, 328, 340] else if w = 11 then [292, 296, 328, 340, 584, 596, 660, 676, 680] else if w = 12 then [584, 596, 660, 676, 680, 1172, 1188, 1192, 1316, 1320, 1352, 1364] else if w = 13 then [1172, 1188, 1192, 1316, 1320, 1352, 1364, 2340, 2344, 2376, 2388, 2632, 2644, 2708, 2724, 2728] else if w = 14 then [2340, 2344, 2376, 2388, 2632, 2644, 2708, 2724, 2728, 4680, 4692, 4756, 4772, 4776, 5268, 5284, 5288, 5412, 5416, 5448, 5460] else if w = 15 then [4680, 4692, 4756, 4772, 4776, 5268, 5284, 5288, 5412, 5416, 5448, 5460, 9364, 9380, 9384, 9508, 9512, 9544, 9556, 10532, 10536, 10568, 10580, 10824, 10836, 10900, 10916, 10920] else if w = 16 then [9364, 9380, 9384, 9508, 9512, 9544, 9556, 10532, 10536, 10568, 10580, 10824, 10836, 10900, 10916, 10920, 18724, 18728, 18760, 18772, 19016, 19028, 19092, 19108, 19112, 21064, 21076, 21140, 21156, 21160, 21652, 21668, 21672, 21796, 21800, 21832, 21844] else []
def xC (w : Nat) : List Nat := if w = 1 then [] else if w = 2 then [0] else if w = 3 then [0] else if w = 4 then [4] else if w = 5 then [8, 4] else if w = 6 then [20, 8] else if w = 7 then [40, 36, 20] else if w = 8 then [84, 72, 40, 36] else if w = 9 then [168, 164, 148, 72, 84] else if w = 10 then [340, 328, 296, 292, 168, 164, 148] else if w = 11 then [680, 676, 660, 584, 596, 328, 296, 292, 340] else if w = 12 then [1364, 1352, 1320, 1316, 1192, 1188, 1172, 584, 680, 676, 660, 596] else if w = 13 then [2728, 2724, 2708, 2632, 2644, 2376, 2344, 2340, 2388, 1352, 1320, 1316, 1192, 1188, 1172, 1364] else if w = 14 then [5460, 5448, 5416, 5412, 5288, 5284, 5268, 4680, 4776, 4772, 4756, 2632, 4692, 2376, 2344, 2340, 2728, 2724, 2708, 2644, 2388] else if w = 15 then [10920, 10916, 10900, 10824, 10836, 10568, 10536, 10532, 10580, 9544, 9512, 9508, 9384, 9380, 9364, 4680, 9556, 5448, 5416, 5412, 5288, 5284, 5268, 4776, 4772, 4756, 4692, 5460] else if w = 16 then [21844, 21832, 21800, 21796, 21672, 21668, 21652, 21064, 21160, 21156, 21140, 19016, 21076, 18760, 18728, 18724, 19112, 19108, 19092, 10824, 19028, 10568, 10536, 10532, 18772, 9544, 9512, 9508, 9384, 9380, 9364, 10920, 10916, 10900, 10836, 10580, 9556] else []
def vR0 (w : Nat) : List Nat := if w = 1 then [] else if w = 2 then [1] else if w = 3 then [1] else if w = 4 then [1] else if w = 5 then [1, 1] else if w = 6 then [1, 1] else if w = 7 then [1, 1, 1] else if w = 8 then [1, 1, 1, 1] else if w = 9 then [1, 1, 1, 1, 1] else if w = 10 then [1, 1, 1, 1, 1, 1, 1] else if w = 11 then [1, 1, 1, 1, 1, 1, 1, 1, 1] else if w = 12 then [1, 1, 1, 1, 1, 1, 1, 1, 1, 1, 1, 1] else if w = 13 then [1, 1, 1, 1, 1, 1, 1, 1, 1, 1, 1, 1, 1, 1, 1, 1] else if w = 14 then [1, 1, 1, 1, 1, 1, 1, 1, 1, 1, 1, 1, 1, 1, 1, 1, 1, 1, 1, 1, 1] else if w = 15 then [1, 1, 1, 1, 1, 1, 1, 1, 1, 1, 1, 1, 1, 1, 1, 1, 1, 1, 1, 1, 1, 1, 1, 1, 1, 1, 1, 1] else if w = 16 then [1, 1, 1, 1, 1, 1, 1, 1, 1, 1, 1, 1, 1, 1, 1, 1, 1, 1, 1, 1, 1, 1, 1, 1, 1, 1, 1, 1, 1, 1, 1, 1, 1, 1, 1, 1, 1] else []
def vR1 (w : Nat) : List Nat := if w = 1 then [] else if w = 2 then [1] else if w = 3 then [1] else if w = 4 then [0] else if w = 5 then [1, 1] else if w = 6 then [1, 1] else if w = 7 then [1, 0, 1] else if w = 8 then [1, 1, 1, 1] else if w = 9 then [2, 1, 1, 1, 1] else if w = 10 then [2, 1, 1, 0, 1, 2, 1] else if w = 11 then [1, 2, 2, 1, 1, 1, 2, 1, 1] else if w = 12 then [3, 2, 2, 1, 1, 1, 1, 1, 1, 2, 2, 1] else if w = 13 then [3, 2, 2, 1, 2, 2, 1, 0, 1, 2, 1, 3, 2, 2, 1, 1] else if w = 14 then [1, 3, 4, 2, 3, 2, 2, 1, 1, 1, 1, 2, 1, 1, 3, 2, 2, 1, 2, 2, 1] else if w = 15 then [4, 3, 4, 2, 2, 3, 2, 2, 1, 2, 2, 1, 1, 1, 1, 1, 2, 2, 1, 1, 3, 4, 2, 3, 2, 2, 1, 1] else if w = 16 then [4, 3, 3, 2, 4, 4, 2, 1, 3, 4, 2, 3, 2, 2, 1, 1, 0, 1, 2, 1, 3, 2, 2, 1, 1, 4, 3, 4, 2, 2, 3, 2, 2, 1, 2, 2, 1] else []
def vR2 (w : Nat) : List Nat := if w = 1 then [] else if w = 2 then [1] else if w = 3 then [1] else if w = 4 then [0] else if w = 5 then [1, 1] else if w = 6 then [1, 1] else if w = 7 then [1, 0, 1] else if w = 8 then [1, 1, 1, 1] else if w = 9 then [2, 1, 2, 2, 1] else if w = 10 then [3, 2, 1, 0, 2, 3, 1] else if w = 11 then [1, 3, 3, 1, 1, 2, 4, 2, 1] else if w = 12 then [3, 3, 4, 2, 1, 3, 3, 2, 3, 4, 3, 1] else if w = 13 then [6, 5, 3, 3, 4, 3, 1, 0, 3, 5, 2, 6, 4, 4, 2, 1] else if w = 14 then [1, 6, 8, 3, 6, 4, 4, 2, 1, 1, 3, 7, 4, 2, 10, 7, 4, 3, 4, 3, 1] else if w = 15 then [4, 6, 11, 6, 3, 10, 7, 4, 3, 4, 3, 1, 4, 4, 3, 4, 7, 6, 2, 4, 10, 11, 4, 6, 4, 4, 2, 1] else if w = 16 then [10, 9, 6, 7, 11, 9, 3, 4, 10, 11, 4, 6, 4, 4, 2, 1, 0, 4, 7, 3, 9, 7, 8, 4, 2, 10, 10, 15, 8, 4, 10, 7, 4, 3, 4, 3, 1] else []
def vR3 (w : Nat) : List Nat := if w = 1 then [] else if w = 2 then [1] else if w = 3 then [1] else if w = 4 then [0] else if w = 5 then [1, 1] else if w = 6 then [1, 1] else if w = 7 then [1, 0, 1] else if w = 8 then [1, 1, 1, 1] else if w = 9 then [4, 1, 2, 2, 1] else if w = 10 then [5, 3, 1, 0, 3, 5, 1] else if w = 11 then [1, 6, 6, 1, 1, 3, 6, 3, 1] else if w = 12 then [9, 6, 7, 3, 1, 3, 3, 3, 3, 7, 6, 1] else if w = 13 then [14, 11, 6, 6, 8, 6, 1, 0, 6, 11, 3, 14, 7, 7, 3, 1] else if w = 14 then [1, 20, 28, 6, 20, 8, 7, 3, 1, 1, 6, 14, 8, 3, 20, 14, 7, 6, 8, 6, 1] else if w = 15 then [16, 20, 34, 17, 6, 27, 17, 8, 6, 8, 6, 1, 4, 4, 6, 4, 17, 17, 3, 4, 27, 34, 7, 20, 8, 7, 3, 1] else if w = 16 then [30, 26, 20, 19, 40, 35, 6, 10, 35, 40, 8, 20, 8, 7, 3, 1, 0, 10, 19, 6, 26, 17, 20, 9, 3, 30, 27, 41, 20, 7, 27, 17, 8, 6, 8, 6, 1] else []
def vR4 (w : Nat) : List Nat := if w = 1 then [] else if w = 2 then [1] else if w = 3 then [1] else if w = 4 then [0] else if w = 5 then [1, 1] else if w = 6 then [1, 1] else if w = 7 then [1, 0, 1] else if w = 8 then [1, 1, 1, 1] else if w = 9 then [4, 1, 4, 4, 1] else if w = 10 then [8, 5, 1, 0, 5, 8, 1] else if w = 11 then [1, 9, 9, 1, 1, 6, 12, 6, 1] else if w = 12 then [9, 10, 13, 6, 1, 9, 9, 6, 9, 13, 10, 1] else if w = 13 then [31, 25, 10, 14, 14, 10, 1, 0, 14, 25, 6, 31, 14, 14, 6, 1] else if w = 14 then [1, 40, 56, 10, 40, 15, 14, 6, 1, 1, 20, 48, 28, 6, 68, 48, 14, 20, 15, 10, 1] else if w = 15 then [16, 50, 95, 51, 10, 81, 54, 15, 20, 15, 10, 1, 16, 16, 20, 16, 54, 51, 6, 16, 81, 95, 14, 50, 16, 14, 6, 1] else if w = 16 then [85, 75, 50, 56, 105, 90, 10, 30, 95, 105, 15, 50, 16, 14, 6, 1, 0, 30, 56, 20, 75, 60, 75, 35, 6, 85, 95, 150, 75, 14, 95, 60, 16, 20, 15, 10, 1] else []
def vR5 (w : Nat) : List Nat := if w = 1 then [] else if w = 2 then [1] else if w = 3 then [1] else if w = 4 then [0] else if w = 5 then [1, 1] else if w = 6 then [1, 1] else if w = 7 then [1, 0, 1] else if w = 8 then [1, 1, 1, 1] else if w = 9 then [8, 1, 4, 4, 1] else if w = 10 then [13, 8, 1, 0, 8, 13, 1] else if w = 11 then [1, 18, 18, 1, 1, 9, 18, 9, 1] else if w = 12 then [27, 19, 23, 10, 1, 9, 9, 10, 9, 23, 19, 1] else if w = 13 then [70, 56, 20, 31, 28, 20, 1, 0, 31, 56, 10, 70, 24, 24, 10, 1] else if w = 14 then [1, 136, 192, 20, 136, 29, 25, 10, 1, 1, 40, 96, 56, 10, 136, 96, 25, 40, 29, 20, 1] else if w = 15 then [64, 155, 281, 146, 20, 226, 145, 30, 50, 30, 20, 1, 16, 16, 50, 16, 145, 146, 10, 16, 226, 281, 25, 155, 30, 25, 10, 1] else if w = 16 then [246, 216, 175, 160, 380, 335, 20, 85, 340, 380, 30, 175, 31, 25, 10, 1, 0, 85, 160, 50, 216, 155, 195, 90, 10, 246, 250, 395, 195, 25, 250, 155, 31, 50, 30, 20, 1] else []
def vR (w h : Nat) : List Nat := if h = 0 then vR0 w else if h = 1 then vR1 w else if h = 2 then vR2 w else if h = 3 then vR3 w else if h = 4 then vR4 w else vR5 w
def vC0 (w : Nat) : List Nat := if w = 1 then [] else if w = 2 then [1] else if w = 3 then [1] else if w = 4 then [1] else if w = 5 then [1, 1] else if w = 6 then [1, 1] else if w = 7 then [1, 1, 1] else if w = 8 then [1, 1, 1, 1] else if w = 9 then [1, 1, 1, 1, 1] else if w = 10 then [1, 1, 1, 1, 1, 1, 1] else if w = 11 then [1, 1, 1, 1, 1, 1, 1, 1, 1] else if w = 12 then [1, 1, 1, 1, 1, 1, 1, 1, 1, 1, 1, 1] else if w = 13 then [1, 1, 1, 1, 1, 1, 1, 1, 1, 1, 1, 1, 1, 1, 1, 1] else if w = 14 then [1, 1, 1, 1, 1, 1, 1, 1, 1, 1, 1, 1, 1, 1, 1, 1, 1, 1, 1, 1, 1] else if w = 15 then [1, 1, 1, 1, 1, 1, 1, 1, 1, 1, 1, 1, 1, 1, 1, 1, 1, 1, 1, 1, 1, 1, 1, 1, 1, 1, 1, 1] else if w = 16 then [1, 1, 1, 1, 1, 1, 1, 1, 1, 1, 1, 1, 1, 1, 1, 1, 1, 1, 1, 1, 1, 1, 1, 1, 1, 1, 1, 1, 1, 1, 1, 1, 1, 1, 1, 1, 1] else []
def vC1 (w : Nat) : List Nat := if w = 1 then [] else if w = 2 then [1] else if w = 3 then [1] else if w = 4 then [0] else if w = 5 then [1, 1] else if w = 6 then [1, 1] else if w = 7 then [1, 0, 1] else if w = 8 then [1, 1, 1, 1] else if w = 9 then [1, 1, 1, 2, 1] else if w = 10 then [1, 2, 1, 0, 1, 1, 2] else if w = 11 then [1, 1, 2, 1, 1, 2, 2, 1, 1] else if w = 12 then [1, 2, 2, 1, 1, 1, 1, 3, 1, 1, 2, 2] else if w = 13 then [1, 1, 2, 3, 2, 2, 1, 0, 1, 2, 2, 1, 2, 2, 3, 1] else if w = 14 then [1, 2, 2, 1, 2, 2, 3, 1, 1, 1, 2, 3, 1, 4, 3, 1, 1, 1, 2, 2, 2] else if w = 15 then [1, 1, 2, 3, 2, 4, 3, 1, 2, 2, 2, 1, 1, 1, 1, 4, 1, 2, 2, 1, 2, 2, 3, 2, 2, 4, 3, 1] else if w = 16 then [1, 2, 2, 1, 2, 2, 3, 4, 2, 2, 4, 3, 3, 2, 1, 0, 1, 1, 2, 3, 2, 4, 3, 1, 1, 4, 4, 2, 3, 3, 4, 1, 1, 2, 2, 2, 2] else []
def vC2 (w : Nat) : List Nat := if w = 1 then [] else if w = 2 then [1] else if w = 3 then [1] else if w = 4 then [0] else if w = 5 then [1, 1] else if w = 6 then [1, 1] else if w = 7 then [1, 0, 1] else if w = 8 then [1, 1, 1, 1] else if w = 9 then [1, 2, 2, 2, 1] else if w = 10 then [1, 3, 2, 0, 1, 2, 3] else if w = 11 then [1, 2, 4, 1, 2, 3, 3, 1, 1] else if w = 12 then [1, 3, 4, 3, 2, 3, 3, 3, 1, 2, 4, 3] else if w = 13 then [1, 2, 4, 6, 4, 5, 3, 0, 2, 3, 4, 3, 3, 5, 6, 1] else if w = 14 then [1, 3, 4, 3, 4, 7, 10, 1, 2, 4, 7, 6, 3, 8, 6, 1, 1, 2, 4, 4, 3] else if w = 15 then [1, 2, 4, 6, 4, 11, 10, 4, 4, 6, 7, 4, 3, 4, 4, 4, 2, 3, 4, 3, 4, 7, 10, 3, 6, 11, 6, 1] else if w = 16 then [1, 3, 4, 3, 4, 7, 10, 10, 4, 8, 15, 9, 10, 7, 4, 0, 2, 4, 8, 6, 7, 11, 10, 4, 3, 9, 11, 7, 6, 9, 10, 1, 2, 4, 4, 4, 3] else []
def vC3 (w : Nat) : List Nat := if w = 1 then [] else if w = 2 then [1] else if w = 3 then [1] else if w = 4 then [0] else if w = 5 then [1, 1] else if w = 6 then [1, 1] else if w = 7 then [1, 0, 1] else if w = 8 then [1, 1, 1, 1] else if w = 9 then [1, 2, 2, 4, 1] else if w = 10 then [1, 5, 3, 0, 1, 3, 5] else if w = 11 then [1, 3, 6, 1, 3, 6, 6, 1, 1] else if w = 12 then [1, 6, 7, 3, 3, 3, 3, 9, 1, 3, 7, 6] else if w = 13 then [1, 3, 7, 14, 7, 11, 6, 0, 3, 6, 8, 6, 6, 11, 14, 1] else if w = 14 then [1, 6, 8, 6, 7, 14, 20, 1, 3, 8, 14, 20, 6, 28, 20, 1, 1, 3, 7, 8, 6] else if w = 15 then [1, 3, 7, 20, 8, 34, 27, 4, 7, 17, 17, 4, 6, 4, 4, 16, 3, 6, 8, 6, 8, 17, 27, 6, 17, 34, 20, 1] else if w = 16 then [1, 6, 8, 6, 8, 17, 27, 30, 7, 20, 41, 26, 27, 19, 10, 0, 3, 9, 20, 20, 17, 40, 35, 10, 6, 35, 40, 19, 20, 26, 30, 1, 3, 7, 8, 8, 6] else []
def vC4 (w : Nat) : List Nat := if w = 1 then [] else if w = 2 then [1] else if w = 3 then [1] else if w = 4 then [0] else if w = 5 then [1, 1] else if w = 6 then [1, 1] else if w = 7 then [1, 0, 1] else if w = 8 then [1, 1, 1, 1] else if w = 9 then [1, 4, 4, 4, 1] else if w = 10 then [1, 8, 5, 0, 1, 5, 8] else if w = 11 then [1, 6, 12, 1, 6, 9, 9, 1, 1] else if w = 12 then [1, 10, 13, 9, 6, 9, 9, 9, 1, 6, 13, 10] else if w = 13 then [1, 6, 14, 31, 14, 25, 14, 0, 6, 10, 14, 14, 10, 25, 31, 1] else if w = 14 then [1, 10, 15, 20, 14, 48, 68, 1, 6, 28, 48, 40, 20, 56, 40, 1, 1, 6, 14, 15, 10] else if w = 15 then [1, 6, 14, 50, 16, 95, 81, 16, 14, 51, 54, 16, 20, 16, 16, 16, 6, 10, 15, 20, 15, 54, 81, 10, 51, 95, 50, 1] else if w = 16 then [1, 10, 15, 20, 16, 60, 95, 85, 14, 75, 150, 75, 95, 56, 30, 0, 6, 35, 75, 50, 60, 105, 95, 30, 20, 90, 105, 56, 50, 75, 85, 1, 6, 14, 16, 15, 10] else []
def vC5 (w : Nat) : List Nat := if w = 1 then [] else if w = 2 then [1] else if w = 3 then [1] else if w = 4 then [0] else if w = 5 then [1, 1] else if w = 6 then [1, 1] else if w = 7 then [1, 0, 1] else if w = 8 then [1, 1, 1, 1] else if w = 9 then [1, 4, 4, 8, 1] else if w = 10 then [1, 13, 8, 0, 1, 8, 13] else if w = 11 then [1, 9, 18, 1, 9, 18, 18, 1, 1] else if w = 12 then [1, 19, 23, 9, 10, 9, 9, 27, 1, 10, 23, 19] else if w = 13 then [1, 10, 24, 70, 24, 56, 31, 0, 10, 20, 28, 31, 20, 56, 70, 1] else if w = 14 then [1, 20, 29, 40, 25, 96, 136, 1, 10, 56, 96, 136, 40, 192, 136, 1, 1, 10, 25, 29, 20] else if w = 15 then [1, 10, 25, 155, 30, 281, 226, 16, 25, 146, 145, 16, 50, 16, 16, 64, 10, 20, 30, 50, 30, 145, 226, 20, 146, 281, 155, 1] else if w = 16 then [1, 20, 30, 50, 31, 155, 250, 246, 25, 195, 395, 216, 250, 160, 85, 0, 10, 90, 195, 175, 155, 380, 340, 85, 50, 335, 380, 160, 175, 216, 246, 1, 10, 25, 31, 30, 20] else []
def vC (w h : Nat) : List Nat := if h = 0 then vC0 w else if h = 1 then vC1 w else if h = 2 then vC2 w else if h = 3 then vC3 w else if h = 4 then vC4 w else vC5 w
theorem xR_1 : rr 1 0 0 = [] := by decide +kernel
theorem xR_2 : rr 2 1 0 = [0] := by decide +kernel
theorem xR_3 : rr 3 2 0 = [0] := by decide +kernel
theorem xR_4 : rr 4 3 0 = [4] := by decide +kernel
theorem xR_5 : rr 5 4 0 = [4, 8] := by decide +kernel
theorem xR_6 : rr 6 5 0 = [8, 20] := by decide +kernel
theorem xR_7 : rr 7 6 0 = [20, 36, 40] := by decide +kernel
theorem xR_8 : rr 8 7 0 = [36, 40, 72, 84] := by decide +kernel
theorem xR_9 : rr 9 8 0 = [72, 84, 148, 164, 168] := by decide +kernel
theorem xR_10 : rr 10 9 0 = [148, 164, 168, 292, 296, 328, 340] := by decide +kernel
theorem xR_11 : rr 11 10 0 = [292, 296, 328, 340, 584, 596, 660, 676, 680] := by decide +kernel
theorem xR_12 : rr 12 11 0 = [584, 596, 660, 676, 680, 1172, 1188, 1192, 1316, 1320, 1352, 1364] := by decide +kernel
theorem xR_13 : rr 13 12 0 = [1172, 1188, 1192, 1316, 1320, 1352, 1364, 2340, 2344, 2376, 2388, 2632, 2644, 2708, 2724, 2728] := by decide +kernel
theorem xR_14_0 : rr 14 12 0 = [2340, 2344, 2376, 2388, 2632, 2644, 2708, 2724, 2728, 4680, 4692, 4756, 4772, 4776, 5268, 5284, 5288, 5412, 5416, 5448, 5460] := by decide +kernel
theorem xR_14_1 : rr 14 12 4096 = [] := by decide +kernel
theorem xR_14 : rr 14 13 0 = [2340, 2344, 2376, 2388, 2632, 2644, 2708, 2724, 2728, 4680, 4692, 4756, 4772, 4776, 5268, 5284, 5288, 5412, 5416, 5448, 5460] := by
  have e : rr 14 13 0 = rr 14 12 0 ++ rr 14 12 4096 := rfl
  rw [e, xR_14_0, xR_14_1]
  rfl
theorem xR_15_0 : rr 15 12 0 = [4680, 4692, 4756, 4772, 4776, 5268, 5284, 5288, 5412, 5416, 5448, 5460] := by decide +kernel
theorem xR_15_1 : rr 15 12 4096 = [9364, 9380, 9384, 9508, 9512, 9544, 9556, 10532, 10536, 10568, 10580, 10824, 10836, 10900, 10916, 10920] := by decide +kernel
theorem xR_15_2 : rr 15 12 8192 = [] := by decide +kernel
theorem xR_15_3 : rr 15 12 12288 = [] := by decide +kernel
theorem xR_15_13_0 : rr 15 13 0 = [4680, 4692, 4756, 4772, 4776, 5268, 5284, 5288, 5412, 5416, 5448, 5460, 9364, 9380, 9384, 9508, 9512, 9544, 9556, 10532, 10536, 10568, 10580, 10824, 10836, 10900, 10916, 10920] := by
  have e : rr 15 13 0 = rr 15 12 0 ++ rr 15 12 4096 := rfl
  rw [e, xR_15_0, xR_15_1]
  rfl
theorem xR_15_13_8192 : rr 15 13 8192 = [] := by
  have e : rr 15 13 8192 = rr 15 12 8192 ++ rr 15 12 12288 := rfl
  rw [e, xR_15_2, xR_15_3]
  rfl
theorem xR_15 : rr 15 14 0 = [4680, 4692, 4756, 4772, 4776, 5268, 5284, 5288, 5412, 5416, 5448, 5460, 9364, 9380, 9384, 9508, 9512, 9544, 9556, 10532, 10536, 10568, 10580, 10824, 10836, 10900, 10916, 10920] := by
  have e : rr 15 14 0 = rr 15 13 0 ++ rr 15 13 8192 := rfl
  rw [e, xR_15_13_0, xR_15_13_8192]
  rfl
theorem xR_16_0 : rr 16 12 0 = [] := by decide +kernel
theorem xR_16_1 : rr 16 12 4096 = [9364, 9380, 9384, 9508, 9512, 9544, 9556, 10532, 10536, 10568, 10580, 10824, 10836, 10900, 10916, 10920] := by decide +kernel
theorem xR_16_2 : rr 16 12 8192 = [18724, 18728, 18760, 18772, 19016, 19028, 19092, 19108, 19112, 21064, 21076, 21140, 21156, 21160, 21652, 21668, 21672, 21796, 21800, 21832, 21844] := by decide +kernel
theorem xR_16_3 : rr 16 12 12288 = [] := by decide +kernel
theorem xR_16_4 : rr 16 12 16384 = [] := by decide +kernel
theorem xR_16_5 : rr 16 12 20480 = [] := by decide +kernel
theorem xR_16_6 : rr 16 12 24576 = [] := by decide +kernel
theorem xR_16_7 : rr 16 12 28672 = [] := by decide +kernel
theorem xR_16_13_0 : rr 16 13 0 = [9364, 9380, 9384, 9508, 9512, 9544, 9556, 10532, 10536, 10568, 10580, 10824, 10836, 10900, 10916, 10920] := by
  have e : rr 16 13 0 = rr 16 12 0 ++ rr 16 12 4096 := rfl
  rw [e, xR_16_0, xR_16_1]
  rfl
theorem xR_16_13_8192 : rr 16 13 8192 = [18724, 18728, 18760, 18772, 19016, 19028, 19092, 19108, 19112, 21064, 21076, 21140, 21156, 21160, 21652, 21668, 21672, 21796, 21800, 21832, 21844] := by
  have e : rr 16 13 8192 = rr 16 12 8192 ++ rr 16 12 12288 := rfl
  rw [e, xR_16_2, xR_16_3]
  rfl
theorem xR_16_14_0 : rr 16 14 0 = [9364, 9380, 9384, 9508, 9512, 9544, 9556, 10532, 10536, 10568, 10580, 10824, 10836, 10900, 10916, 10920, 18724, 18728, 18760, 18772, 19016, 19028, 19092, 19108, 19112, 21064, 21076, 21140, 21156, 21160, 21652, 21668, 21672, 21796, 21800, 21832, 21844] := by
  have e : rr 16 14 0 = rr 16 13 0 ++ rr 16 13 8192 := rfl
  rw [e, xR_16_13_0, xR_16_13_8192]
  rfl
theorem xR_16_13_16384 : rr 16 13 16384 = [] := by
  have e : rr 16 13 16384 = rr 16 12 16384 ++ rr 16 12 20480 := rfl
  rw [e, xR_16_4, xR_16_5]
  rfl
theorem xR_16_13_24576 : rr 16 13 24576 = [] := by
  have e : rr 16 13 24576 = rr 16 12 24576 ++ rr 16 12 28672 := rfl
  rw [e, xR_16_6, xR_16_7]
  rfl
theorem xR_16_14_16384 : rr 16 14 16384 = [] := by
  have e : rr 16 14 16384 = rr 16 13 16384 ++ rr 16 13 24576 := rfl
  rw [e, xR_16_13_16384, xR_16_13_24576]
  rfl
theorem xR_16 : rr 16 15 0 = [9364, 9380, 9384, 9508, 9512, 9544, 9556, 10532, 10536, 10568, 10580, 10824, 10836, 10900, 10916, 10920, 18724, 18728, 18760, 18772, 19016, 19028, 19092, 19108, 19112, 21064, 21076, 21140, 21156, 21160, 21652, 21668, 21672, 21796, 21800, 21832, 21844] := by
  have e : rr 16 15 0 = rr 16 14 0 ++ rr 16 14 16384 := rfl
  rw [e, xR_16_14_0, xR_16_14_16384]
  rfl
theorem xR_ok {w : Nat} (h1 : 1 ≤ w) (h2 : w ≤ 16) : rr w (w - 1) 0 = xR w := by
  rcases (show w = 1 ∨ w = 2 ∨ w = 3 ∨ w = 4 ∨ w = 5 ∨ w = 6 ∨ w = 7 ∨ w = 8 ∨ w = 9 ∨ w = 10 ∨ w = 11 ∨ w = 12 ∨ w = 13 ∨ w = 14 ∨ w = 15 ∨ w = 16 by omega) with rfl | rfl | rfl | rfl | rfl | rfl | rfl | rfl | rfl | rfl | rfl | rfl | rfl | rfl | rfl | rfl
  · exact xR_1
  · exact xR_2
  · exact xR_3
  · exact xR_4
  · exact xR_5
  · exact xR_6
  · exact xR_7
  · exact xR_8
  · exact xR_9
  · exact xR_10
  · exact xR_11
  · exact xR_12
  · exact xR_13
  · exact xR_14
  · exact xR_15
  · exact xR_16
theorem xC_ok : ∀ w, w < 17 → 1 ≤ w → lyN w 256 0 = xC w := by decide +kernel
theorem xl_ok : ∀ w, w < 17 → (xR w).length ≤ 40 ∧ (xC w).length ≤ 40 := by decide +kernel
theorem vR_0 : ∀ w, w < 17 → (xR w).map (fun _ => 1) = vR w 0 := by decide +kernel
theorem vR_s1 : ∀ h, h < 5 → lvl (xR 1) (vR 1 h) = vR 1 (h + 1) := by decide +kernel
theorem vR_s2 : ∀ h, h < 5 → lvl (xR 2) (vR 2 h) = vR 2 (h + 1) := by decide +kernel
theorem vR_s3 : ∀ h, h < 5 → lvl (xR 3) (vR 3 h) = vR 3 (h + 1) := by decide +kernel
theorem vR_s4 : ∀ h, h < 5 → lvl (xR 4) (vR 4 h) = vR 4 (h + 1) := by decide +kernel
theorem vR_s5 : ∀ h, h < 5 → lvl (xR 5) (vR 5 h) = vR 5 (h + 1) := by decide +kernel
theorem vR_s6 : ∀ h, h < 5 → lvl (xR 6) (vR 6 h) = vR 6 (h + 1) := by decide +kernel
theorem vR_s7 : ∀ h, h < 5 → lvl (xR 7) (vR 7 h) = vR 7 (h + 1) := by decide +kernel
theorem vR_s8 : ∀ h, h < 5 → lvl (xR 8) (vR 8 h) = vR 8 (h + 1) := by decide +kernel
theorem vR_s9 : ∀ h, h < 5 → lvl (xR 9) (vR 9 h) = vR 9 (h + 1) := by decide +kernel
theorem vR_s10 : ∀ h, h < 5 → lvl (xR 10) (vR 10 h) = vR 10 (h + 1) := by decide +kernel
theorem vR_s11 : ∀ h, h < 5 → lvl (xR 11) (vR 11 h) = vR 11 (h + 1) := by decide +kernel
theorem vR_s12 : ∀ h, h < 5 → lvl (xR 12) (vR 12 h) = vR 12 (h + 1) := by decide +kernel
theorem vR_s13 : ∀ h, h < 5 → lvl (xR 13) (vR 13 h) = vR 13 (h + 1) := by decide +kernel
theorem vR_s14 : ∀ h, h < 5 → lvl (xR 14) (vR 14 h) = vR 14 (h + 1) := by decide +kernel
theorem vR_s15 : ∀ h, h < 5 → lvl (xR 15) (vR 15 h) = vR 15 (h + 1) := by decide +kernel
theorem vR_s16 : ∀ h, h < 5 → lvl (xR 16) (vR 16 h) = vR 16 (h + 1) := by decide +kernel
theorem vR_s {w : Nat} (h1 : 1 ≤ w) (h2 : w ≤ 16) : ∀ h, h < 5 → lvl (xR w) (vR w h) = vR w (h + 1) := by
  rcases (show w = 1 ∨ w = 2 ∨ w = 3 ∨ w = 4 ∨ w = 5 ∨ w = 6 ∨ w = 7 ∨ w = 8 ∨ w = 9 ∨ w = 10 ∨ w = 11 ∨ w = 12 ∨ w = 13 ∨ w = 14 ∨ w = 15 ∨ w = 16 by omega) with rfl | rfl | rfl | rfl | rfl | rfl | rfl | rfl | rfl | rfl | rfl | rfl | rfl | rfl | rfl | rfl
  · exact vR_s1
  · exact vR_s2
  · exact vR_s3
  · exact vR_s4
  · exact vR_s5
  · exact vR_s6
  · exact vR_s7
  · exact vR_s8
  · exact vR_s9
  · exact vR_s10
  · exact vR_s11
  · exact vR_s12
  · exact vR_s13
  · exact vR_s14
  · exact vR_s15
  · exact vR_s16
theorem vC_0 : ∀ w, w < 17 → (xC w).map (fun _ => 1) = vC w 0 := by decide +kernel
theorem vC_s1 : ∀ h, h < 5 → lvl (xC 1) (vC 1 h) = vC 1 (h + 1) := by decide +kernel
theorem vC_s2 : ∀ h, h < 5 → lvl (xC 2) (vC 2 h) = vC 2 (h + 1) := by decide +kernel
theorem vC_s3 : ∀ h, h < 5 → lvl (xC 3) (vC 3 h) = vC 3 (h + 1) := by decide +kernel
theorem vC_s4 : ∀ h, h < 5 → lvl (xC 4) (vC 4 h) = vC 4 (h + 1) := by decide +kernel
theorem vC_s5 : ∀ h, h < 5 → lvl (xC 5) (vC 5 h) = vC 5 (h + 1) := by decide +kernel
theorem vC_s6 : ∀ h, h < 5 → lvl (xC 6) (vC 6 h) = vC 6 (h + 1) := by decide +kernel
theorem vC_s7 : ∀ h, h < 5 → lvl (xC 7) (vC 7 h) = vC 7 (h + 1) := by decide +kernel
theorem vC_s8 : ∀ h, h < 5 → lvl (xC 8) (vC 8 h) = vC 8 (h + 1) := by decide +kernel
theorem vC_s9 : ∀ h, h < 5 → lvl (xC 9) (vC 9 h) = vC 9 (h + 1) := by decide +kernel
theorem vC_s10 : ∀ h, h < 5 → lvl (xC 10) (vC 10 h) = vC 10 (h + 1) := by decide +kernel
theorem vC_s11 : ∀ h, h < 5 → lvl (xC 11) (vC 11 h) = vC 11 (h + 1) := by decide +kernel
theorem vC_s12 : ∀ h, h < 5 → lvl (xC 12) (vC 12 h) = vC 12 (h + 1) := by decide +kernel
theorem vC_s13 : ∀ h, h < 5 → lvl (xC 13) (vC 13 h) = vC 13 (h + 1) := by decide +kernel
theorem vC_s14 : ∀ h, h < 5 → lvl (xC 14) (vC 14 h) = vC 14 (h + 1) := by decide +kernel
theorem vC_s15 : ∀ h, h < 5 → lvl (xC 15) (vC 15 h) = vC 15 (h + 1) := by decide +kernel
theorem vC_s16 : ∀ h, h < 5 → lvl (xC 16) (vC 16 h) = vC 16 (h + 1) := by decide +kernel
theorem vC_s {w : Nat} (h1 : 1 ≤ w) (h2 : w ≤ 16) : ∀ h, h < 5 → lvl (xC w) (vC w h) = vC w (h + 1) := by
  rcases (show w = 1 ∨ w = 2 ∨ w = 3 ∨ w = 4 ∨ w = 5 ∨ w = 6 ∨ w = 7 ∨ w = 8 ∨ w = 9 ∨ w = 10 ∨ w = 11 ∨ w = 12 ∨ w = 13 ∨ w = 14 ∨ w = 15 ∨ w = 16 by omega) with rfl | rfl | rfl | rfl | rfl | rfl | rfl | rfl | rfl | rfl | rfl | rfl | rfl | rfl | rfl | rfl
  · exact vC_s1
  · exact vC_s2
  · exact vC_s3
  · exact vC_s4
  · exact vC_s5
  · exact vC_s6
  · exact vC_s7
  · exact vC_s8
  · exact vC_s9
  · exact vC_s10
  · exact vC_s11
  · exact vC_s12
  · exact vC_s13
  · exact vC_s14
  · exact vC_s15
  · exact vC_s16
theorem v_sum : ∀ w, w < 17 → ∀ h, h < 6 → lsum (vC w h) = lsum (vR w h) := by decide +kernel
