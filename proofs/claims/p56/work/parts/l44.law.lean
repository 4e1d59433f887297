/-! what the constructors leave: as they make it, and in the order of the rules -/
def zN0 : List z_C := [.inr (.inr (10, [.int 0, .ref 1, .ref 185, .ref 186, .ref 187, .ref 188, .ref 189, .ref 190, .ref 191, .ref 192, .ref 193, .ref 194, .ref 195, .ref 196, .ref 197, .ref 198, .int 0, .int 0, .int 0, .int 0, .int 0, .ref 199, .ref 200, .ref 201, .ref 202, .ref 203, .ref 204, .int 0, .ref 205, .int 0, .int 0, .int 0, .int 0, .int 0])),
  .inr (.inr (9, [.ref 2, .ref 12, .ref 134, .ref 150, .ref 166, .ref 170, .ref 174, .ref 178, .ref 180, .ref 183])),
  .inr (.inr (3, [.int 0, .int 0, .int 0, .ref 3, .ref 4, .ref 5, .ref 6, .ref 7, .ref 8, .ref 9, .ref 10, .ref 11])),
  .inl (0, 48, []),
  .inl (0, 96, []),
  .inl (0, 64, []),
  .inl (0, 30, []),
  .inl (0, 3, [(2, 4), (1, 4), (0, 4)]),
  .inl (0, 2, [(1, 1)]),
  .inl (0, 16, []),
  .inl (0, 3, []),
  .inl (0, 48, []),
  .inr (.inr (0, [.ref 13, .int 0, .int 0])),
  .inr (.inl (12, [(11, 124), (10, 114), (9, 104), (8, 94), (7, 84), (6, 74), (5, 64), (4, 54), (3, 44), (2, 34), (1, 24), (0, 14)])),
  .inr (.inr (3, [.int 0, .int 0, .int 0, .ref 15, .ref 16, .ref 17, .ref 18, .ref 19, .ref 20, .ref 21, .ref 22, .ref 23])),
  .inl (0, 48, []),
  .inl (0, 96, []),
  .inl (0, 64, []),
  .inl (0, 30, []),
  .inl (0, 3, [(2, 4), (1, 4), (0, 4)]),
  .inl (0, 2, [(1, 1)]),
  .inl (0, 16, []),
  .inl (0, 3, []),
  .inl (0, 48, []),
  .inr (.inr (3, [.int 0, .int 0, .int 0, .ref 25, .ref 26, .ref 27, .ref 28, .ref 29, .ref 30, .ref 31, .ref 32, .ref 33])),
  .inl (0, 48, []),
  .inl (0, 96, []),
  .inl (0, 64, []),
  .inl (0, 30, []),
  .inl (0, 3, [(2, 4), (1, 4), (0, 4)]),
  .inl (0, 2, [(1, 1)]),
  .inl (0, 16, []),
  .inl (0, 3, []),
  .inl (0, 48, []),
  .inr (.inr (3, [.int 0, .int 0, .int 0, .ref 35, .ref 36, .ref 37, .ref 38, .ref 39, .ref 40, .ref 41, .ref 42, .ref 43])),
  .inl (0, 48, []),
  .inl (0, 96, []),
  .inl (0, 64, []),
  .inl (0, 30, []),
  .inl (0, 3, [(2, 4), (1, 4), (0, 4)])]
def zN1 : List z_C := [.inl (0, 2, [(1, 1)]),
  .inl (0, 16, []),
  .inl (0, 3, []),
  .inl (0, 48, []),
  .inr (.inr (3, [.int 0, .int 0, .int 0, .ref 45, .ref 46, .ref 47, .ref 48, .ref 49, .ref 50, .ref 51, .ref 52, .ref 53])),
  .inl (0, 48, []),
  .inl (0, 96, []),
  .inl (0, 64, []),
  .inl (0, 30, []),
  .inl (0, 3, [(2, 4), (1, 4), (0, 4)]),
  .inl (0, 2, [(1, 1)]),
  .inl (0, 16, []),
  .inl (0, 3, []),
  .inl (0, 48, []),
  .inr (.inr (3, [.int 0, .int 0, .int 0, .ref 55, .ref 56, .ref 57, .ref 58, .ref 59, .ref 60, .ref 61, .ref 62, .ref 63])),
  .inl (0, 48, []),
  .inl (0, 96, []),
  .inl (0, 64, []),
  .inl (0, 30, []),
  .inl (0, 3, [(2, 4), (1, 4), (0, 4)]),
  .inl (0, 2, [(1, 1)]),
  .inl (0, 16, []),
  .inl (0, 3, []),
  .inl (0, 48, []),
  .inr (.inr (3, [.int 0, .int 0, .int 0, .ref 65, .ref 66, .ref 67, .ref 68, .ref 69, .ref 70, .ref 71, .ref 72, .ref 73])),
  .inl (0, 48, []),
  .inl (0, 96, []),
  .inl (0, 64, []),
  .inl (0, 30, []),
  .inl (0, 3, [(2, 4), (1, 4), (0, 4)]),
  .inl (0, 2, [(1, 1)]),
  .inl (0, 16, []),
  .inl (0, 3, []),
  .inl (0, 48, []),
  .inr (.inr (3, [.int 0, .int 0, .int 0, .ref 75, .ref 76, .ref 77, .ref 78, .ref 79, .ref 80, .ref 81, .ref 82, .ref 83])),
  .inl (0, 48, []),
  .inl (0, 96, []),
  .inl (0, 64, []),
  .inl (0, 30, []),
  .inl (0, 3, [(2, 4), (1, 4), (0, 4)])]
def zN2 : List z_C := [.inl (0, 2, [(1, 1)]),
  .inl (0, 16, []),
  .inl (0, 3, []),
  .inl (0, 48, []),
  .inr (.inr (3, [.int 0, .int 0, .int 0, .ref 85, .ref 86, .ref 87, .ref 88, .ref 89, .ref 90, .ref 91, .ref 92, .ref 93])),
  .inl (0, 48, []),
  .inl (0, 96, []),
  .inl (0, 64, []),
  .inl (0, 30, []),
  .inl (0, 3, [(2, 4), (1, 4), (0, 4)]),
  .inl (0, 2, [(1, 1)]),
  .inl (0, 16, []),
  .inl (0, 3, []),
  .inl (0, 48, []),
  .inr (.inr (3, [.int 0, .int 0, .int 0, .ref 95, .ref 96, .ref 97, .ref 98, .ref 99, .ref 100, .ref 101, .ref 102, .ref 103])),
  .inl (0, 48, []),
  .inl (0, 96, []),
  .inl (0, 64, []),
  .inl (0, 30, []),
  .inl (0, 3, [(2, 4), (1, 4), (0, 4)]),
  .inl (0, 2, [(1, 1)]),
  .inl (0, 16, []),
  .inl (0, 3, []),
  .inl (0, 48, []),
  .inr (.inr (3, [.int 0, .int 0, .int 0, .ref 105, .ref 106, .ref 107, .ref 108, .ref 109, .ref 110, .ref 111, .ref 112, .ref 113])),
  .inl (0, 48, []),
  .inl (0, 96, []),
  .inl (0, 64, []),
  .inl (0, 30, []),
  .inl (0, 3, [(2, 4), (1, 4), (0, 4)]),
  .inl (0, 2, [(1, 1)]),
  .inl (0, 16, []),
  .inl (0, 3, []),
  .inl (0, 48, []),
  .inr (.inr (3, [.int 0, .int 0, .int 0, .ref 115, .ref 116, .ref 117, .ref 118, .ref 119, .ref 120, .ref 121, .ref 122, .ref 123])),
  .inl (0, 48, []),
  .inl (0, 96, []),
  .inl (0, 64, []),
  .inl (0, 30, []),
  .inl (0, 3, [(2, 4), (1, 4), (0, 4)])]
def zN3 : List z_C := [.inl (0, 2, [(1, 1)]),
  .inl (0, 16, []),
  .inl (0, 3, []),
  .inl (0, 48, []),
  .inr (.inr (3, [.int 0, .int 0, .int 0, .ref 125, .ref 126, .ref 127, .ref 128, .ref 129, .ref 130, .ref 131, .ref 132, .ref 133])),
  .inl (0, 48, []),
  .inl (0, 96, []),
  .inl (0, 64, []),
  .inl (0, 30, []),
  .inl (0, 3, [(2, 4), (1, 4), (0, 4)]),
  .inl (0, 2, [(1, 1)]),
  .inl (0, 16, []),
  .inl (0, 3, []),
  .inl (0, 48, []),
  .inr (.inr (6, [.int 1, .int 0, .int 0, .ref 135, .ref 136, .ref 137, .ref 138, .ref 139, .ref 140, .ref 141, .ref 142, .ref 143, .ref 144, .ref 145, .ref 146, .ref 147, .ref 148, .ref 149])),
  .inl (0, 16, []),
  .inl (0, 16, []),
  .inl (0, 16, []),
  .inl (0, 16, []),
  .inl (0, 16, []),
  .inl (0, 16, []),
  .inl (0, 16, []),
  .inl (0, 16, []),
  .inl (0, 16, []),
  .inl (0, 32, []),
  .inl (0, 8, [(7, -1), (6, -1), (5, -1), (4, -1), (3, -1), (2, -1), (1, -1), (0, -1)]),
  .inl (0, 4, [(3, -1), (2, -1), (1, -1), (0, -1)]),
  .inl (0, 3, [(2, -1), (1, -1), (0, -1)]),
  .inl (0, 8, []),
  .inl (0, 2000, []),
  .inr (.inr (6, [.int 1, .int 0, .int 0, .ref 151, .ref 152, .ref 153, .ref 154, .ref 155, .ref 156, .ref 157, .ref 158, .ref 159, .ref 160, .ref 161, .ref 162, .ref 163, .ref 164, .ref 165])),
  .inl (0, 16, []),
  .inl (0, 16, []),
  .inl (0, 16, []),
  .inl (0, 16, []),
  .inl (0, 16, []),
  .inl (0, 16, []),
  .inl (0, 16, []),
  .inl (0, 16, []),
  .inl (0, 16, [])]
def zN4 : List z_C := [.inl (0, 32, []),
  .inl (0, 8, [(7, -1), (6, -1), (5, -1), (4, -1), (3, -1), (2, -1), (1, -1), (0, -1)]),
  .inl (0, 4, [(3, -1), (2, -1), (1, -1), (0, -1)]),
  .inl (0, 3, [(2, -1), (1, -1), (0, -1)]),
  .inl (0, 8, []),
  .inl (0, 2000, []),
  .inr (.inr (1, [.ref 167, .ref 168, .ref 169, .int 0, .int 0, .long 0])),
  .inl (0, 16, []),
  .inl (0, 16, []),
  .inl (0, 4, []),
  .inr (.inr (2, [.ref 171, .ref 172, .ref 173, .int 0, .int 0])),
  .inl (0, 8, []),
  .inl (0, 8, []),
  .inl (0, 8, []),
  .inr (.inr (7, [.ref 175, .ref 176, .ref 177, .int 0])),
  .inl (0, 8, []),
  .inl (0, 8, []),
  .inl (0, 8, []),
  .inr (.inr (5, [.ref 179])),
  .inl (0, 64, []),
  .inr (.inr (4, [.int 0, .int (-1), .ref 181, .ref 182])),
  .inl (0, 60, []),
  .inl (0, 8, []),
  .inr (.inr (8, [.int 0, .ref 184])),
  .inl (3, 16, []),
  .inl (0, 8, []),
  .inl (0, 8, []),
  .inl (0, 8, []),
  .inl (0, 8, []),
  .inl (0, 8, []),
  .inl (0, 8, []),
  .inl (0, 32, []),
  .inl (0, 32, []),
  .inl (0, 32, []),
  .inl (0, 64, []),
  .inl (0, 3, []),
  .inl (0, 10, []),
  .inl (0, 10, []),
  .inl (0, 10, []),
  .inl (0, 16, [])]
def zN5 : List z_C := [.inl (0, 16, []),
  .inl (0, 16, []),
  .inl (0, 16, []),
  .inl (0, 16, []),
  .inl (0, 16, []),
  .inl (0, 8, [])]
def zN : List z_C := zN0 ++ (zN1 ++ (zN2 ++ (zN3 ++ (zN4 ++ (zN5)))))
def zX0 : List z_C := [.inr (.inr (9, [.ref 1, .ref 11, .ref 133, .ref 149, .ref 165, .ref 169, .ref 173, .ref 177, .ref 179, .ref 182])),
  .inr (.inr (3, [.int 0, .int 0, .int 0, .ref 2, .ref 3, .ref 4, .ref 5, .ref 6, .ref 7, .ref 8, .ref 9, .ref 10])),
  .inl (0, 48, []),
  .inl (0, 96, []),
  .inl (0, 64, []),
  .inl (0, 30, []),
  .inl (0, 3, [(2, 4), (1, 4), (0, 4)]),
  .inl (0, 2, [(1, 1)]),
  .inl (0, 16, []),
  .inl (0, 3, []),
  .inl (0, 48, []),
  .inr (.inr (0, [.ref 12, .int 0, .int 0])),
  .inr (.inl (12, [(11, 123), (10, 113), (9, 103), (8, 93), (7, 83), (6, 73), (5, 63), (4, 53), (3, 43), (2, 33), (1, 23), (0, 13)])),
  .inr (.inr (3, [.int 0, .int 0, .int 0, .ref 14, .ref 15, .ref 16, .ref 17, .ref 18, .ref 19, .ref 20, .ref 21, .ref 22])),
  .inl (0, 48, []),
  .inl (0, 96, []),
  .inl (0, 64, []),
  .inl (0, 30, []),
  .inl (0, 3, [(2, 4), (1, 4), (0, 4)]),
  .inl (0, 2, [(1, 1)]),
  .inl (0, 16, []),
  .inl (0, 3, []),
  .inl (0, 48, []),
  .inr (.inr (3, [.int 0, .int 0, .int 0, .ref 24, .ref 25, .ref 26, .ref 27, .ref 28, .ref 29, .ref 30, .ref 31, .ref 32])),
  .inl (0, 48, []),
  .inl (0, 96, []),
  .inl (0, 64, []),
  .inl (0, 30, []),
  .inl (0, 3, [(2, 4), (1, 4), (0, 4)]),
  .inl (0, 2, [(1, 1)]),
  .inl (0, 16, []),
  .inl (0, 3, []),
  .inl (0, 48, []),
  .inr (.inr (3, [.int 0, .int 0, .int 0, .ref 34, .ref 35, .ref 36, .ref 37, .ref 38, .ref 39, .ref 40, .ref 41, .ref 42])),
  .inl (0, 48, []),
  .inl (0, 96, []),
  .inl (0, 64, []),
  .inl (0, 30, []),
  .inl (0, 3, [(2, 4), (1, 4), (0, 4)]),
  .inl (0, 2, [(1, 1)])]
def zX1 : List z_C := [.inl (0, 16, []),
  .inl (0, 3, []),
  .inl (0, 48, []),
  .inr (.inr (3, [.int 0, .int 0, .int 0, .ref 44, .ref 45, .ref 46, .ref 47, .ref 48, .ref 49, .ref 50, .ref 51, .ref 52])),
  .inl (0, 48, []),
  .inl (0, 96, []),
  .inl (0, 64, []),
  .inl (0, 30, []),
  .inl (0, 3, [(2, 4), (1, 4), (0, 4)]),
  .inl (0, 2, [(1, 1)]),
  .inl (0, 16, []),
  .inl (0, 3, []),
  .inl (0, 48, []),
  .inr (.inr (3, [.int 0, .int 0, .int 0, .ref 54, .ref 55, .ref 56, .ref 57, .ref 58, .ref 59, .ref 60, .ref 61, .ref 62])),
  .inl (0, 48, []),
  .inl (0, 96, []),
  .inl (0, 64, []),
  .inl (0, 30, []),
  .inl (0, 3, [(2, 4), (1, 4), (0, 4)]),
  .inl (0, 2, [(1, 1)]),
  .inl (0, 16, []),
  .inl (0, 3, []),
  .inl (0, 48, []),
  .inr (.inr (3, [.int 0, .int 0, .int 0, .ref 64, .ref 65, .ref 66, .ref 67, .ref 68, .ref 69, .ref 70, .ref 71, .ref 72])),
  .inl (0, 48, []),
  .inl (0, 96, []),
  .inl (0, 64, []),
  .inl (0, 30, []),
  .inl (0, 3, [(2, 4), (1, 4), (0, 4)]),
  .inl (0, 2, [(1, 1)]),
  .inl (0, 16, []),
  .inl (0, 3, []),
  .inl (0, 48, []),
  .inr (.inr (3, [.int 0, .int 0, .int 0, .ref 74, .ref 75, .ref 76, .ref 77, .ref 78, .ref 79, .ref 80, .ref 81, .ref 82])),
  .inl (0, 48, []),
  .inl (0, 96, []),
  .inl (0, 64, []),
  .inl (0, 30, []),
  .inl (0, 3, [(2, 4), (1, 4), (0, 4)]),
  .inl (0, 2, [(1, 1)])]
def zX2 : List z_C := [.inl (0, 16, []),
  .inl (0, 3, []),
  .inl (0, 48, []),
  .inr (.inr (3, [.int 0, .int 0, .int 0, .ref 84, .ref 85, .ref 86, .ref 87, .ref 88, .ref 89, .ref 90, .ref 91, .ref 92])),
  .inl (0, 48, []),
  .inl (0, 96, []),
  .inl (0, 64, []),
  .inl (0, 30, []),
  .inl (0, 3, [(2, 4), (1, 4), (0, 4)]),
  .inl (0, 2, [(1, 1)]),
  .inl (0, 16, []),
  .inl (0, 3, []),
  .inl (0, 48, []),
  .inr (.inr (3, [.int 0, .int 0, .int 0, .ref 94, .ref 95, .ref 96, .ref 97, .ref 98, .ref 99, .ref 100, .ref 101, .ref 102])),
  .inl (0, 48, []),
  .inl (0, 96, []),
  .inl (0, 64, []),
  .inl (0, 30, []),
  .inl (0, 3, [(2, 4), (1, 4), (0, 4)]),
  .inl (0, 2, [(1, 1)]),
  .inl (0, 16, []),
  .inl (0, 3, []),
  .inl (0, 48, []),
  .inr (.inr (3, [.int 0, .int 0, .int 0, .ref 104, .ref 105, .ref 106, .ref 107, .ref 108, .ref 109, .ref 110, .ref 111, .ref 112])),
  .inl (0, 48, []),
  .inl (0, 96, []),
  .inl (0, 64, []),
  .inl (0, 30, []),
  .inl (0, 3, [(2, 4), (1, 4), (0, 4)]),
  .inl (0, 2, [(1, 1)]),
  .inl (0, 16, []),
  .inl (0, 3, []),
  .inl (0, 48, []),
  .inr (.inr (3, [.int 0, .int 0, .int 0, .ref 114, .ref 115, .ref 116, .ref 117, .ref 118, .ref 119, .ref 120, .ref 121, .ref 122])),
  .inl (0, 48, []),
  .inl (0, 96, []),
  .inl (0, 64, []),
  .inl (0, 30, []),
  .inl (0, 3, [(2, 4), (1, 4), (0, 4)]),
  .inl (0, 2, [(1, 1)])]
def zX3 : List z_C := [.inl (0, 16, []),
  .inl (0, 3, []),
  .inl (0, 48, []),
  .inr (.inr (3, [.int 0, .int 0, .int 0, .ref 124, .ref 125, .ref 126, .ref 127, .ref 128, .ref 129, .ref 130, .ref 131, .ref 132])),
  .inl (0, 48, []),
  .inl (0, 96, []),
  .inl (0, 64, []),
  .inl (0, 30, []),
  .inl (0, 3, [(2, 4), (1, 4), (0, 4)]),
  .inl (0, 2, [(1, 1)]),
  .inl (0, 16, []),
  .inl (0, 3, []),
  .inl (0, 48, []),
  .inr (.inr (6, [.int 1, .int 0, .int 0, .ref 134, .ref 135, .ref 136, .ref 137, .ref 138, .ref 139, .ref 140, .ref 141, .ref 142, .ref 143, .ref 144, .ref 145, .ref 146, .ref 147, .ref 148])),
  .inl (0, 16, []),
  .inl (0, 16, []),
  .inl (0, 16, []),
  .inl (0, 16, []),
  .inl (0, 16, []),
  .inl (0, 16, []),
  .inl (0, 16, []),
  .inl (0, 16, []),
  .inl (0, 16, []),
  .inl (0, 32, []),
  .inl (0, 8, [(7, -1), (6, -1), (5, -1), (4, -1), (3, -1), (2, -1), (1, -1), (0, -1)]),
  .inl (0, 4, [(3, -1), (2, -1), (1, -1), (0, -1)]),
  .inl (0, 3, [(2, -1), (1, -1), (0, -1)]),
  .inl (0, 8, []),
  .inl (0, 2000, []),
  .inr (.inr (6, [.int 1, .int 0, .int 0, .ref 150, .ref 151, .ref 152, .ref 153, .ref 154, .ref 155, .ref 156, .ref 157, .ref 158, .ref 159, .ref 160, .ref 161, .ref 162, .ref 163, .ref 164])),
  .inl (0, 16, []),
  .inl (0, 16, []),
  .inl (0, 16, []),
  .inl (0, 16, []),
  .inl (0, 16, []),
  .inl (0, 16, []),
  .inl (0, 16, []),
  .inl (0, 16, []),
  .inl (0, 16, []),
  .inl (0, 32, [])]
def zX4 : List z_C := [.inl (0, 8, [(7, -1), (6, -1), (5, -1), (4, -1), (3, -1), (2, -1), (1, -1), (0, -1)]),
  .inl (0, 4, [(3, -1), (2, -1), (1, -1), (0, -1)]),
  .inl (0, 3, [(2, -1), (1, -1), (0, -1)]),
  .inl (0, 8, []),
  .inl (0, 2000, []),
  .inr (.inr (1, [.ref 166, .ref 167, .ref 168, .int 0, .int 0, .long 0])),
  .inl (0, 16, []),
  .inl (0, 16, []),
  .inl (0, 4, []),
  .inr (.inr (2, [.ref 170, .ref 171, .ref 172, .int 0, .int 0])),
  .inl (0, 8, []),
  .inl (0, 8, []),
  .inl (0, 8, []),
  .inr (.inr (7, [.ref 174, .ref 175, .ref 176, .int 0])),
  .inl (0, 8, []),
  .inl (0, 8, []),
  .inl (0, 8, []),
  .inr (.inr (5, [.ref 178])),
  .inl (0, 64, []),
  .inr (.inr (4, [.int 0, .int (-1), .ref 180, .ref 181])),
  .inl (0, 60, []),
  .inl (0, 8, []),
  .inr (.inr (8, [.int 0, .ref 183])),
  .inl (3, 16, []),
  .inr (.inr (10, [.int 0, .ref 0, .ref 185, .ref 186, .ref 187, .ref 188, .ref 189, .ref 190, .ref 191, .ref 192, .ref 193, .ref 194, .ref 195, .ref 196, .ref 197, .ref 198, .int 0, .int 0, .int 0, .int 0, .int 0, .ref 199, .ref 200, .ref 201, .ref 202, .ref 203, .ref 204, .int 0, .ref 205, .int 0, .int 0, .int 0, .int 0, .int 0])),
  .inl (0, 8, []),
  .inl (0, 8, []),
  .inl (0, 8, []),
  .inl (0, 8, []),
  .inl (0, 8, []),
  .inl (0, 8, []),
  .inl (0, 32, []),
  .inl (0, 32, []),
  .inl (0, 32, []),
  .inl (0, 64, []),
  .inl (0, 3, []),
  .inl (0, 10, []),
  .inl (0, 10, []),
  .inl (0, 10, []),
  .inl (0, 16, [])]
def zX5 : List z_C := [.inl (0, 16, []),
  .inl (0, 16, []),
  .inl (0, 16, []),
  .inl (0, 16, []),
  .inl (0, 16, []),
  .inl (0, 8, [])]
def zX : List z_C := zX0 ++ (zX1 ++ (zX2 ++ (zX3 ++ (zX4 ++ (zX5)))))
def z_k : z_C → va_E
  | .inl (t, n, _) => z_l (.inl (t, n, []))
  | .inr (.inl q) => z_l (.inr (.inl q))
  | .inr (.inr (c, fs)) => .inr (c, fs.map fun v => match v with
    | .int _ => .int 0
    | .long _ => .long 0
    | v => v)
def z_M (h : List z_C) (a j : Nat) : Int32 := match h[a]? with
  | some (.inl (_, _, s)) => z_f s j
  | some (.inr (.inr (_, fs))) => match fs[j]? with
    | some (.int x) => x
    | _ => 0
  | _ => 0
def z_V (h : List z_C) (a j : Nat) : Int64 := match h[a]? with
  | some (.inr (.inr (_, fs))) => match fs[j]? with
    | some (.long x) => x
    | _ => 0
  | _ => 0
theorem z_Ma {h : List z_C} {a t n : Nat} {s : List (Nat × Int32)} (ha : h[a]? = some (.inl (t, n, s))) : z_M h a = z_f s := by
  funext j
  unfold z_M
  rw [ha]
theorem z_Mo {h : List z_C} {a c k : Nat} {fs : List Value} {x : Int32} (ha : h[a]? = some (.inr (.inr (c, fs)))) (hk : fs[k]? = some (.int x)) : z_M h a k = x := by
  unfold z_M
  rw [ha]
  simp only [hk]
theorem z_fill {h : List z_C} {a : Nat} {q : z_C} (ha : h[a]? = some q) : e_fl (z_M h) (z_V h) (fun _ _ => 0) a (z_k q) = z_l q := by
  obtain ⟨t, n, s⟩ | ⟨n, s⟩ | ⟨c, fs⟩ := q
  · show e_fl _ _ _ a (z_l (.inl (t, n, []))) = _
    unfold z_l
    simp only
    split
    · have e : z_V h a = fun _ => 0 := by
        funext j
        unfold z_V
        rw [ha]
      simp only [e_fl, e]
    · split
      · simp only [e_fl]
      · simp only [e_fl, z_Ma ha]
  · rfl
  · show e_fl _ _ _ a (.inr (c, fs.map _)) = .inr (c, fs)
    simp only [e_fl]
    congr 2
    apply List.ext_getElem?
    intro k
    rw [List.getElem?_mapIdx, List.getElem?_map]
    cases hk : fs[k]? with
    | none => rfl
    | some v =>
      cases v with
      | int x =>
        simp only [Option.map_some, e_fv]
        rw [z_Mo ha hk]
      | long x =>
        simp only [Option.map_some, e_fv]
        unfold z_V
        rw [ha]
        simp only [hk]
      | float x => rfl
      | double x => rfl
      | null => rfl
      | ref x => rfl
      | retAddr x => rfl
theorem z_c12 : z_l (.inr (.inl (12, [(11, 123), (10, 113), (9, 103), (8, 93), (7, 83), (6, 73), (5, 63), (4, 53), (3, 43), (2, 33), (1, 23), (0, 13)]))) = .inl (4, 12, .inr (.inr (.inr (.inr fun j => if j < 12 then some (13 + 10 * j) else none)))) := by
  unfold z_l
  simp only
  congr 7
  funext j
  by_cases h : j < 12
  · rw [if_pos h]
    have e : j = 0 ∨ j = 1 ∨ j = 2 ∨ j = 3 ∨ j = 4 ∨ j = 5 ∨ j = 6 ∨ j = 7 ∨ j = 8 ∨ j = 9 ∨ j = 10 ∨ j = 11 := by omega
    rcases e with rfl | rfl | rfl | rfl | rfl | rfl | rfl | rfl | rfl | rfl | rfl | rfl <;> decide
  · rw [if_neg h]
    simp only [z_g, va_up]
    repeat rw [if_neg (by omega)]
theorem z_sk : zX.map z_k = e_sk := by
  have e0 : zX0.map z_k = e_sk0 := by
    have e := z_c12
    unfold zX0 e_sk0
    simp only [List.map_cons, List.map_nil]
    rw [show z_k (.inr (.inl (12, [(11, 123), (10, 113), (9, 103), (8, 93), (7, 83), (6, 73), (5, 63), (4, 53), (3, 43), (2, 33), (1, 23), (0, 13)]))) = z_l (.inr (.inl (12, [(11, 123), (10, 113), (9, 103), (8, 93), (7, 83), (6, 73), (5, 63), (4, 53), (3, 43), (2, 33), (1, 23), (0, 13)]))) from rfl, e]
    rfl
  have e1 : zX1.map z_k = e_sk1 := rfl
  have e2 : zX2.map z_k = e_sk2 := rfl
  have e3 : zX3.map z_k = e_sk3 := rfl
  have e4 : zX4.map z_k = e_sk4 := rfl
  have e5 : zX5.map z_k = e_sk5 := rfl
  unfold zX e_sk
  simp only [List.map_append, e0, e1, e2, e3, e4, e5]
def z_M0 : e_MI := z_M zX
def z_V0 : e_ML := z_V zX
def z_W0 : e_MD := fun _ _ => 0
theorem z_hp : zX.map z_l = e_hp z_M0 z_V0 z_W0 := by
  unfold e_hp
  rw [← z_sk]
  apply List.ext_getElem?
  intro a
  rw [List.getElem?_mapIdx, List.getElem?_map, List.getElem?_map]
  cases ha : zX[a]? with
  | none => rfl
  | some q =>
    simp only [Option.map_some]
    exact congrArg some (z_fill ha).symm
def z_dc1 : DecidableEq (Nat × Nat × List (Nat × Int32)) := inferInstance
def z_dc2 : DecidableEq ((Nat × List (Nat × Nat)) ⊕ (Nat × List Value)) := inferInstance
def z_dc3 : DecidableEq z_C := @instDecidableEqSum _ _ z_dc1 z_dc2
def z_dc4 : DecidableEq (Option Value ⊕ e_L) := inferInstance
def z_dc5 : DecidableEq (List z_C) := @instDecidableEqList _ z_dc3
def z_dc6 : DecidableEq (Nat × Nat) := inferInstance
def z_dc7 : DecidableEq z_R := @instDecidableEqProd _ _ z_dc4 (@instDecidableEqProd _ _ z_dc5 z_dc6)
def z_dec : DecidableEq (Option z_R) := fun a b => match a, b with
  | none, none => isTrue rfl
  | some x, some y => match z_dc7 x y with
    | isTrue h => isTrue (congrArg some h)
    | isFalse h => isFalse (fun e => h (Option.some.inj e))
  | none, some _ => isFalse (fun e => by cases e)
  | some _, none => isFalse (fun e => by cases e)
def z_dc8 : DecidableEq (Option z_C) := fun a b => match a, b with
  | none, none => isTrue rfl
  | some x, some y => match z_dc3 x y with
    | isTrue h => isTrue (congrArg some h)
    | isFalse h => isFalse (fun e => h (Option.some.inj e))
  | none, some _ => isFalse (fun e => by cases e)
  | some _, none => isFalse (fun e => by cases e)
def z_s (i : Nat) : Nat := if i = 184 then 0 else if i < 184 then i + 1 else i
def z_rs : z_C → z_C
  | .inl q => .inl q
  | .inr (.inl (n, s)) => .inr (.inl (n, s.map fun q => (q.1, z_s q.2)))
  | .inr (.inr (c, fs)) => .inr (.inr (c, fs.map (e_mv z_s)))
def z_eq (a b : Option z_C) : Bool := @decide (a = b) (z_dc8 a b)
theorem z_all : (List.range 206).all (fun k => z_eq (zN[z_s k]?) ((zX[k]?).map z_rs)) = true := by decide +kernel
theorem z_len : zX.length = 206 := by decide +kernel
theorem z_g_map (s : List (Nat × Nat)) : z_g (s.map fun q => (q.1, z_s q.2)) = fun j => (z_g s j).map z_s := by
  induction s with
  | nil => rfl
  | cons q t ih =>
    funext j
    show va_up (z_g (t.map fun q => (q.1, z_s q.2))) q.1 (some (z_s q.2)) j = (va_up (z_g t) q.1 (some q.2) j).map z_s
    rw [ih]
    unfold va_up
    by_cases h : j = q.1
    · rw [if_pos h, if_pos h]
      rfl
    · rw [if_neg h, if_neg h]
theorem z_l_rs (q : z_C) : z_l (z_rs q) = e_rs z_s (z_l q) := by
  obtain ⟨t, n, s⟩ | ⟨n, s⟩ | ⟨c, fs⟩ := q
  · show z_l (.inl (t, n, s)) = e_rs z_s (z_l (.inl (t, n, s)))
    unfold z_l
    simp only
    by_cases h1 : t = 1
    · rw [if_pos h1]
      rfl
    · rw [if_neg h1]
      by_cases h2 : t = 2
      · rw [if_pos h2]
        rfl
      · rw [if_neg h2]
        rfl
  · show (.inl (4, n, .inr (.inr (.inr (.inr (z_g (s.map fun q => (q.1, z_s q.2))))))) : va_E) = .inl (4, n, .inr (.inr (.inr (.inr fun j => (z_g s j).map z_s))))
    rw [z_g_map]
  · rfl
theorem z_perm : e_perm z_s (e_hp z_M0 z_V0 z_W0) (zN.map z_l) := by
  rw [← z_hp]
  refine ⟨fun k x hx => ?_, fun i j _ _ h => ?_⟩
  · rw [List.getElem?_map] at hx
    cases hq : zX[k]? with
    | none => rw [hq] at hx; cases hx
    | some q =>
      rw [hq] at hx
      cases hx
      have hk : k < 206 := by
        rw [← z_len]
        exact (List.getElem?_eq_some_iff.mp hq).1
      have h1 := List.all_eq_true.mp z_all k (List.mem_range.mpr hk)
      have h2 : zN[z_s k]? = (zX[k]?).map z_rs := @of_decide_eq_true _ (z_dc8 _ _) h1
      rw [List.getElem?_map, h2, hq]
      exact congrArg some (z_l_rs q)
  · unfold z_s at h
    split at h
    · split at h
      · omega
      · split at h <;> omega
    · split at h
      · split at h
        · omega
        · split at h <;> omega
      · split at h
        · omega
        · split at h <;> omega
theorem z_start : z_run 3000 990 e_INI 0 (e_en [.ref 0] (e_ml e_INI)) [] [.inr (.inr (10, e_df 10))] = some (.inl none, zN, 205, 9244) := @of_decide_eq_true _ (z_dec _ _) (by decide +kernel)
theorem e_begin {L : Nat} {xs : Nat → Int32} : ∃ nI, e_run L xs nI 990 e_INI 0 (e_en [.ref 0] (e_ml e_INI)) [] [.inr (10, e_df 10)] = some (.inl none, zN.map z_l, 205, 9244) := by
  have h := z_run_ok (L := L) (xs := xs) 3000 _ _ _ _ _ _ _ z_start
  exact e_lim_iff.mp h.2
