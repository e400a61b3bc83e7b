/-! THE SHAPE of the heap behind the two constructors: cell by cell from the law's own first cell on: kinds 0 to 12 objects of the classes of vwCl, 13 int[], 14 long[], 15 boolean[], 16 int[][] -/
def sh_kL : List Nat := [11] ++ ([10] ++ ([13] ++ ([3] ++ (List.replicate 8 13 ++ ([3] ++ (List.replicate 8 13 ++ ([4] ++ (List.replicate 4 13 ++ ([0] ++ ([9] ++ (List.replicate 4 13 ++ ([8] ++ ([13, 13] ++ ([8] ++ ([13, 13] ++ ([5] ++ (List.replicate 3 13 ++ ([7] ++ ([13, 13] ++ ([1] ++ (List.replicate 3 13 ++ ([2] ++ ([13] ++ ([6] ++ ([12] ++ (List.replicate 4 13 ++ ([16] ++ (List.replicate 48 13 ++ ([16] ++ (List.replicate 48 13 ++ ([16] ++ (List.replicate 160 13 ++ ([16] ++ (List.replicate 160 13 ++ ([16] ++ (List.replicate 5 13 ++ ([16] ++ (List.replicate 7 13 ++ ([16] ++ (List.replicate 83 13 ++ ([16] ++ (List.replicate 16 13 ++ ([16] ++ (List.replicate 3 13 ++ ([15, 15] ++ ([13, 13] ++ ([14, 14])))))))))))))))))))))))))))))))))))))))))))))))
def sh_nL : List Nat := [0, 0] ++ ([600] ++ ([0] ++ ([8] ++ ([12, 12] ++ (List.replicate 3 8 ++ ([5, 5] ++ ([0] ++ ([8] ++ ([12, 12] ++ (List.replicate 3 8 ++ ([5, 5] ++ ([0] ++ ([150, 150] ++ ([7] ++ ([32] ++ ([0, 0] ++ (List.replicate 4 25 ++ ([0] ++ ([47] ++ ([5] ++ ([0] ++ ([47] ++ ([5] ++ ([0] ++ ([752] ++ ([2397] ++ ([3] ++ ([0] ++ ([256, 256] ++ ([0] ++ ([1536] ++ ([40] ++ ([5] ++ ([0] ++ ([5] ++ ([0, 0] ++ ([600] ++ ([2] ++ ([4, 4] ++ ([48] ++ (List.replicate 48 3 ++ ([48] ++ (List.replicate 48 3 ++ ([160] ++ (List.replicate 160 2 ++ ([160] ++ (List.replicate 160 2 ++ ([5] ++ (List.replicate 5 2 ++ ([5] ++ (List.replicate 5 2 ++ ([160] ++ ([7] ++ ([80] ++ (List.replicate 80 4 ++ (List.replicate 3 47 ++ ([16] ++ (List.replicate 16 47 ++ ([3] ++ (List.replicate 3 800 ++ ([8000, 8000] ++ ([5, 5] ++ ([14] ++ ([1]))))))))))))))))))))))))))))))))))))))))))))))))))))))))))))))))
def sh_kd (i : Nat) : Nat := sh_kL.getD i 99
def sh_ln (i : Nat) : Nat := sh_nL.getD i 0
def sh_rA : List (Nat × List Nat) := [(0, [1, 3, 12, 21, 26, 27, 32, 35, 38, 42, 45, 49, 51, 0, 0, 0]), (1, [2, 0, 0, 0, 0, 0, 0]), (3, [0, 0, 0, 0, 4, 5, 6, 7, 8, 9, 10, 11]), (12, [0, 0, 0, 0, 13, 14, 15, 16, 17, 18, 19, 20]), (21, [22, 0, 23, 0, 24, 25]), (27, [28, 29, 30, 31, 0, 0, 0, 0]), (32, [3, 21, 33, 34]), (35, [3, 21, 36, 37]), (38, [0, 0, 39, 40, 41]), (42, [3, 21, 43, 44, 0, 0, 0, 0, 0]), (45, [3, 46, 47, 48, 0, 0]), (49, [3, 50, 0, 0]), (51, [3, 0]), (52, [0, 0, 0, 0, 0, 0, 0, 0, 0, 53, 54, 55, 56, 57, 106, 0, 0, 155, 316, 477, 483, 489, 490, 491, 0, 572, 573, 574, 575, 592, 0, 0, 0, 0, 0, 0, 0, 596, 597, 598, 599, 0, 0, 600, 0])]
def sh_rf (i k : Nat) : Nat := if sh_kd i = 16 then i + 1 + k else ((sh_rA.lookup i).getD []).getD k 0
def sh_fl (c : Nat) : List Bool := match c with
  | 0 => [false, false]
  | 1 => [true, true, true, true, false, false]
  | 2 => [true, true, false, false]
  | 3 => [false, false, false, false, true, true, true, true, true, true, true, true]
  | 4 => [true, false, true, false, true, true]
  | 5 => [false, false, true, true, true]
  | 6 => [true, false]
  | 7 => [true, true, true, true, false, false, false, false, false]
  | 8 => [true, true, true, true]
  | 9 => [true, true, true, true, false, false, false, false]
  | 10 => [true, false, false, false, false, false, false]
  | 11 => [true, true, true, true, true, true, true, true, true, true, true, true, true, false, false, false]
  | 12 => [false, false, false, false, false, false, false, false, false, true, true, true, true, true, true, false, false, true, true, true, true, true, true, true, false, true, true, true, true, true, false, false, false, false, false, false, false, true, true, true, true, false, false, true, false]
  | _ => []
