/-! THE SHAPE: which objects there are, in the order of their making -/
def kcs : List Nat := [10, 9, 13, 8, 12, 12, 12, 12, 2, 12, 12, 12, 12, 12, 0, 12, 12, 12, 12, 12, 12, 12, 3, 12, 12, 2, 12, 12, 12, 12, 12, 3, 12, 12, 2, 12, 12, 12, 12, 12, 3, 12, 12, 2, 12, 12, 12, 12, 12, 3, 12, 12, 2, 12, 12, 12, 12, 12, 3, 12, 12, 2, 12, 12, 12, 12, 12, 3, 12, 12, 2, 12, 12, 12, 12, 12, 3, 12, 12, 2, 12, 12, 12, 12, 12, 3, 12, 12, 2, 12, 12, 12, 12, 12, 3, 12, 12, 2, 12, 12, 12, 12, 12, 3, 12, 12, 2, 12, 12, 12, 12, 12, 3, 12, 12, 2, 12, 12, 12, 12, 12, 3, 12, 12, 2, 12, 12, 12, 12, 12, 3, 12, 12, 2, 12, 12, 12, 12, 12, 3, 12, 12, 2, 12, 12, 12, 12, 12, 3, 12, 12, 2, 12, 12, 12, 12, 12, 3, 12, 12, 2, 12, 12, 12, 12, 12, 7, 1, 12, 12, 12, 12, 12, 1, 12, 12, 12, 12, 12, 5, 12, 4, 12, 9, 13, 8, 12, 12, 12, 12, 2, 12, 12, 12, 12, 12, 0, 12, 12, 12, 12, 12, 12, 12, 3, 12, 12, 2, 12, 12, 12, 12, 12, 3, 12, 12, 2, 12, 12, 12, 12, 12, 3, 12, 12, 2, 12, 12, 12, 12, 12, 3, 12, 12, 2, 12, 12, 12, 12, 12, 3, 12, 12, 2, 12, 12, 12, 12, 12, 3, 12, 12, 2, 12, 12, 12, 12, 12, 3, 12, 12, 2, 12, 12, 12, 12, 12, 3, 12, 12, 2, 12, 12, 12, 12, 12, 3, 12, 12, 2, 12, 12, 12, 12, 12, 3, 12, 12, 2, 12, 12, 12, 12, 12, 3, 12, 12, 2, 12, 12, 12, 12, 12, 3, 12, 12, 2, 12, 12, 12, 12, 12, 3, 12, 12, 2, 12, 12, 12, 12, 12, 3, 12, 12, 2, 12, 12, 12, 12, 12, 3, 12, 12, 2, 12, 12, 12, 12, 12, 3, 12, 12, 2, 12, 12, 12, 12, 12, 7, 1, 12, 12, 12, 12, 12, 1, 12, 12, 12, 12, 12, 5, 12, 4, 12, 14, 9, 13, 8, 12, 12, 12, 12, 2, 12, 12, 12, 12, 12, 0, 12, 12, 12, 12, 12, 12, 12, 3, 12, 12, 2, 12, 12, 12, 12, 12, 3, 12, 12, 2, 12, 12, 12, 12, 12, 3, 12, 12, 2, 12, 12, 12, 12, 12, 3, 12, 12, 2, 12, 12, 12, 12, 12, 3, 12, 12, 2, 12, 12, 12, 12, 12, 3, 12, 12, 2, 12, 12, 12, 12, 12, 3, 12, 12, 2, 12, 12, 12, 12, 12, 3, 12, 12, 2, 12, 12, 12, 12, 12, 3, 12, 12, 2, 12, 12, 12, 12, 12, 3, 12, 12, 2, 12, 12, 12, 12, 12, 3, 12, 12, 2, 12, 12, 12, 12, 12, 3, 12, 12, 2, 12, 12, 12, 12, 12, 3, 12, 12, 2, 12, 12, 12, 12, 12, 3, 12, 12, 2, 12, 12, 12, 12, 12, 3, 12, 12, 2, 12, 12, 12, 12, 12, 3, 12, 12, 2, 12, 12, 12, 12, 12, 12, 6, 12, 12, 12, 12, 1, 12, 12, 12, 12, 12, 5, 12, 9, 13, 8, 12, 12, 12, 12, 2, 12, 12, 12, 12, 12, 0, 12, 12, 12, 12, 12, 12, 12, 3, 12, 12, 2, 12, 12, 12, 12, 12, 3, 12, 12, 2, 12, 12, 12, 12, 12, 3, 12, 12, 2, 12, 12, 12, 12, 12, 3, 12, 12, 2, 12, 12, 12, 12, 12, 3, 12, 12, 2, 12, 12, 12, 12, 12, 3, 12, 12, 2, 12, 12, 12, 12, 12, 3, 12, 12, 2, 12, 12, 12, 12, 12, 3, 12, 12, 2, 12, 12, 12, 12, 12, 3, 12, 12, 2, 12, 12, 12, 12, 12, 3, 12, 12, 2, 12, 12, 12, 12, 12, 3, 12, 12, 2, 12, 12, 12, 12, 12, 3, 12, 12, 2, 12, 12, 12, 12, 12, 3, 12, 12, 2, 12, 12, 12, 12, 12, 3, 12, 12, 2, 12, 12, 12, 12, 12, 3, 12, 12, 2, 12, 12, 12, 12, 12, 3, 12, 12, 2, 12, 12, 12, 12, 12, 9, 13, 8, 12, 12, 12, 12, 2, 12, 12, 12, 12, 12, 0, 12, 12, 12, 12, 12, 12, 12, 3, 12, 12, 2, 12, 12, 12, 12, 12, 3, 12, 12, 2, 12, 12, 12, 12, 12, 3, 12, 12, 2, 12, 12, 12, 12, 12, 3, 12, 12, 2, 12, 12, 12, 12, 12, 3, 12, 12, 2, 12, 12, 12, 12, 12, 3, 12, 12, 2, 12, 12, 12, 12, 12, 3, 12, 12, 2, 12, 12, 12, 12, 12, 3, 12, 12, 2, 12, 12, 12, 12, 12, 3, 12, 12, 2, 12, 12, 12, 12, 12, 3, 12, 12, 2, 12, 12, 12, 12, 12, 3, 12, 12, 2, 12, 12, 12, 12, 12, 3, 12, 12, 2, 12, 12, 12, 12, 12, 3, 12, 12, 2, 12, 12, 12, 12, 12, 3, 12, 12, 2, 12, 12, 12, 12, 12, 3, 12, 12, 2, 12, 12, 12, 12, 12, 3, 12, 12, 2, 12, 12, 12, 12, 12, 9, 13, 8, 12, 12, 12, 12, 2, 12, 12, 12, 12, 12, 0, 12, 12, 12, 12, 12, 12, 12, 3, 12, 12, 2, 12, 12, 12, 12, 12, 3, 12, 12, 2, 12, 12, 12, 12, 12, 3, 12, 12, 2, 12, 12, 12, 12, 12, 3, 12, 12, 2, 12, 12, 12, 12, 12, 3, 12, 12, 2, 12, 12, 12, 12, 12, 3, 12, 12, 2, 12, 12, 12, 12, 12, 3, 12, 12, 2, 12, 12, 12, 12, 12, 3, 12, 12, 2, 12, 12, 12, 12, 12, 3, 12, 12, 2, 12, 12, 12, 12, 12, 3, 12, 12, 2, 12, 12, 12, 12, 12, 3, 12, 12, 2, 12, 12, 12, 12, 12, 3, 12, 12, 2, 12, 12, 12, 12, 12, 3, 12, 12, 2, 12, 12, 12, 12, 12, 3, 12, 12, 2, 12, 12, 12, 12, 12, 3, 12, 12, 2, 12, 12, 12, 12, 12, 3, 12, 12, 2, 12, 12, 12, 12, 12, 9, 13, 8, 12, 12, 12, 12, 2, 12, 12, 12, 12, 12, 0, 12, 12, 12, 12, 12, 12, 12, 3, 12, 12, 2, 12, 12, 12, 12, 12, 3, 12, 12, 2, 12, 12, 12, 12, 12, 3, 12, 12, 2, 12, 12, 12, 12, 12, 3, 12, 12, 2, 12, 12, 12, 12, 12, 3, 12, 12, 2, 12, 12, 12, 12, 12, 3, 12, 12, 2, 12, 12, 12, 12, 12, 3, 12, 12, 2, 12, 12, 12, 12, 12, 3, 12, 12, 2, 12, 12, 12, 12, 12, 3, 12, 12, 2, 12, 12, 12, 12, 12, 3, 12, 12, 2, 12, 12, 12, 12, 12, 3, 12, 12, 2, 12, 12, 12, 12, 12, 3, 12, 12, 2, 12, 12, 12, 12, 12, 3, 12, 12, 2, 12, 12, 12, 12, 12, 3, 12, 12, 2, 12, 12, 12, 12, 12, 3, 12, 12, 2, 12, 12, 12, 12, 12, 3, 12, 12, 2, 12, 12, 12, 12, 12, 9, 13, 8, 12, 12, 12, 12, 2, 12, 12, 12, 12, 12, 0, 12, 12, 12, 12, 12, 12, 12, 3, 12, 12, 2, 12, 12, 12, 12, 12, 3, 12, 12, 2, 12, 12, 12, 12, 12, 3, 12, 12, 2, 12, 12, 12, 12, 12, 3, 12, 12, 2, 12, 12, 12, 12, 12, 3, 12, 12, 2, 12, 12, 12, 12, 12, 3, 12, 12, 2, 12, 12, 12, 12, 12, 3, 12, 12, 2, 12, 12, 12, 12, 12, 3, 12, 12, 2, 12, 12, 12, 12, 12, 3, 12, 12, 2, 12, 12, 12, 12, 12, 3, 12, 12, 2, 12, 12, 12, 12, 12, 3, 12, 12, 2, 12, 12, 12, 12, 12, 3, 12, 12, 2, 12, 12, 12, 12, 12, 3, 12, 12, 2, 12, 12, 12, 12, 12, 3, 12, 12, 2, 12, 12, 12, 12, 12, 3, 12, 12, 2, 12, 12, 12, 12, 12, 3, 12, 12, 2, 12, 12, 12, 12, 12, 9, 13, 8, 12, 12, 12, 12, 2, 12, 12, 12, 12, 12, 0, 12, 12, 12, 12, 12, 12, 12, 3, 12, 12, 2, 12, 12, 12, 12, 12, 3, 12, 12, 2, 12, 12, 12, 12, 12, 3, 12, 12, 2, 12, 12, 12, 12, 12, 3, 12, 12, 2, 12, 12, 12, 12, 12, 3, 12, 12, 2, 12, 12, 12, 12, 12, 3, 12, 12, 2, 12, 12, 12, 12, 12, 3, 12, 12, 2, 12, 12, 12, 12, 12, 3, 12, 12, 2, 12, 12, 12, 12, 12, 3, 12, 12, 2, 12, 12, 12, 12, 12, 3, 12, 12, 2, 12, 12, 12, 12, 12, 3, 12, 12, 2, 12, 12, 12, 12, 12, 3, 12, 12, 2, 12, 12, 12, 12, 12, 3, 12, 12, 2, 12, 12, 12, 12, 12, 3, 12, 12, 2, 12, 12, 12, 12, 12, 3, 12, 12, 2, 12, 12, 12, 12, 12, 3, 12, 12, 2, 12, 12, 12, 12, 12]
def lcs : List Nat := [0, 0, 16, 0, 40, 40, 40, 40, 0, 60, 60, 60, 60, 60, 0, 200, 200, 200, 200, 200, 4, 11, 0, 6, 9, 0, 3, 3, 3, 3, 3, 0, 6, 9, 0, 3, 3, 3, 3, 3, 0, 6, 9, 0, 3, 3, 3, 3, 3, 0, 6, 9, 0, 3, 3, 3, 3, 3, 0, 6, 9, 0, 3, 3, 3, 3, 3, 0, 6, 9, 0, 3, 3, 3, 3, 3, 0, 6, 9, 0, 3, 3, 3, 3, 3, 0, 6, 9, 0, 3, 3, 3, 3, 3, 0, 6, 9, 0, 3, 3, 3, 3, 3, 0, 6, 9, 0, 3, 3, 3, 3, 3, 0, 6, 9, 0, 3, 3, 3, 3, 3, 0, 6, 9, 0, 3, 3, 3, 3, 3, 0, 6, 9, 0, 3, 3, 3, 3, 3, 0, 6, 9, 0, 3, 3, 3, 3, 3, 0, 6, 9, 0, 3, 3, 3, 3, 3, 0, 6, 9, 0, 3, 3, 3, 3, 3, 0, 0, 400, 16, 16, 16, 32, 0, 400, 16, 16, 16, 32, 0, 36, 0, 8, 0, 16, 0, 40, 40, 40, 40, 0, 60, 60, 60, 60, 60, 0, 200, 200, 200, 200, 200, 4, 11, 0, 6, 9, 0, 3, 3, 3, 3, 3, 0, 6, 9, 0, 3, 3, 3, 3, 3, 0, 6, 9, 0, 3, 3, 3, 3, 3, 0, 6, 9, 0, 3, 3, 3, 3, 3, 0, 6, 9, 0, 3, 3, 3, 3, 3, 0, 6, 9, 0, 3, 3, 3, 3, 3, 0, 6, 9, 0, 3, 3, 3, 3, 3, 0, 6, 9, 0, 3, 3, 3, 3, 3, 0, 6, 9, 0, 3, 3, 3, 3, 3, 0, 6, 9, 0, 3, 3, 3, 3, 3, 0, 6, 9, 0, 3, 3, 3, 3, 3, 0, 6, 9, 0, 3, 3, 3, 3, 3, 0, 6, 9, 0, 3, 3, 3, 3, 3, 0, 6, 9, 0, 3, 3, 3, 3, 3, 0, 6, 9, 0, 3, 3, 3, 3, 3, 0, 6, 9, 0, 3, 3, 3, 3, 3, 0, 0, 400, 16, 16, 16, 32, 0, 400, 16, 16, 16, 32, 0, 36, 0, 8, 6, 0, 16, 0, 40, 40, 40, 40, 0, 60, 60, 60, 60, 60, 0, 200, 200, 200, 200, 200, 4, 11, 0, 6, 9, 0, 3, 3, 3, 3, 3, 0, 6, 9, 0, 3, 3, 3, 3, 3, 0, 6, 9, 0, 3, 3, 3, 3, 3, 0, 6, 9, 0, 3, 3, 3, 3, 3, 0, 6, 9, 0, 3, 3, 3, 3, 3, 0, 6, 9, 0, 3, 3, 3, 3, 3, 0, 6, 9, 0, 3, 3, 3, 3, 3, 0, 6, 9, 0, 3, 3, 3, 3, 3, 0, 6, 9, 0, 3, 3, 3, 3, 3, 0, 6, 9, 0, 3, 3, 3, 3, 3, 0, 6, 9, 0, 3, 3, 3, 3, 3, 0, 6, 9, 0, 3, 3, 3, 3, 3, 0, 6, 9, 0, 3, 3, 3, 3, 3, 0, 6, 9, 0, 3, 3, 3, 3, 3, 0, 6, 9, 0, 3, 3, 3, 3, 3, 0, 6, 9, 0, 3, 3, 3, 3, 3, 290, 0, 400, 401, 401, 401, 0, 400, 16, 16, 16, 32, 0, 36, 0, 16, 0, 40, 40, 40, 40, 0, 60, 60, 60, 60, 60, 0, 200, 200, 200, 200, 200, 4, 11, 0, 6, 9, 0, 3, 3, 3, 3, 3, 0, 6, 9, 0, 3, 3, 3, 3, 3, 0, 6, 9, 0, 3, 3, 3, 3, 3, 0, 6, 9, 0, 3, 3, 3, 3, 3, 0, 6, 9, 0, 3, 3, 3, 3, 3, 0, 6, 9, 0, 3, 3, 3, 3, 3, 0, 6, 9, 0, 3, 3, 3, 3, 3, 0, 6, 9, 0, 3, 3, 3, 3, 3, 0, 6, 9, 0, 3, 3, 3, 3, 3, 0, 6, 9, 0, 3, 3, 3, 3, 3, 0, 6, 9, 0, 3, 3, 3, 3, 3, 0, 6, 9, 0, 3, 3, 3, 3, 3, 0, 6, 9, 0, 3, 3, 3, 3, 3, 0, 6, 9, 0, 3, 3, 3, 3, 3, 0, 6, 9, 0, 3, 3, 3, 3, 3, 0, 6, 9, 0, 3, 3, 3, 3, 3, 0, 16, 0, 40, 40, 40, 40, 0, 60, 60, 60, 60, 60, 0, 200, 200, 200, 200, 200, 4, 11, 0, 6, 9, 0, 3, 3, 3, 3, 3, 0, 6, 9, 0, 3, 3, 3, 3, 3, 0, 6, 9, 0, 3, 3, 3, 3, 3, 0, 6, 9, 0, 3, 3, 3, 3, 3, 0, 6, 9, 0, 3, 3, 3, 3, 3, 0, 6, 9, 0, 3, 3, 3, 3, 3, 0, 6, 9, 0, 3, 3, 3, 3, 3, 0, 6, 9, 0, 3, 3, 3, 3, 3, 0, 6, 9, 0, 3, 3, 3, 3, 3, 0, 6, 9, 0, 3, 3, 3, 3, 3, 0, 6, 9, 0, 3, 3, 3, 3, 3, 0, 6, 9, 0, 3, 3, 3, 3, 3, 0, 6, 9, 0, 3, 3, 3, 3, 3, 0, 6, 9, 0, 3, 3, 3, 3, 3, 0, 6, 9, 0, 3, 3, 3, 3, 3, 0, 6, 9, 0, 3, 3, 3, 3, 3, 0, 16, 0, 40, 40, 40, 40, 0, 60, 60, 60, 60, 60, 0, 200, 200, 200, 200, 200, 4, 11, 0, 6, 9, 0, 3, 3, 3, 3, 3, 0, 6, 9, 0, 3, 3, 3, 3, 3, 0, 6, 9, 0, 3, 3, 3, 3, 3, 0, 6, 9, 0, 3, 3, 3, 3, 3, 0, 6, 9, 0, 3, 3, 3, 3, 3, 0, 6, 9, 0, 3, 3, 3, 3, 3, 0, 6, 9, 0, 3, 3, 3, 3, 3, 0, 6, 9, 0, 3, 3, 3, 3, 3, 0, 6, 9, 0, 3, 3, 3, 3, 3, 0, 6, 9, 0, 3, 3, 3, 3, 3, 0, 6, 9, 0, 3, 3, 3, 3, 3, 0, 6, 9, 0, 3, 3, 3, 3, 3, 0, 6, 9, 0, 3, 3, 3, 3, 3, 0, 6, 9, 0, 3, 3, 3, 3, 3, 0, 6, 9, 0, 3, 3, 3, 3, 3, 0, 6, 9, 0, 3, 3, 3, 3, 3, 0, 16, 0, 40, 40, 40, 40, 0, 60, 60, 60, 60, 60, 0, 200, 200, 200, 200, 200, 4, 11, 0, 6, 9, 0, 3, 3, 3, 3, 3, 0, 6, 9, 0, 3, 3, 3, 3, 3, 0, 6, 9, 0, 3, 3, 3, 3, 3, 0, 6, 9, 0, 3, 3, 3, 3, 3, 0, 6, 9, 0, 3, 3, 3, 3, 3, 0, 6, 9, 0, 3, 3, 3, 3, 3, 0, 6, 9, 0, 3, 3, 3, 3, 3, 0, 6, 9, 0, 3, 3, 3, 3, 3, 0, 6, 9, 0, 3, 3, 3, 3, 3, 0, 6, 9, 0, 3, 3, 3, 3, 3, 0, 6, 9, 0, 3, 3, 3, 3, 3, 0, 6, 9, 0, 3, 3, 3, 3, 3, 0, 6, 9, 0, 3, 3, 3, 3, 3, 0, 6, 9, 0, 3, 3, 3, 3, 3, 0, 6, 9, 0, 3, 3, 3, 3, 3, 0, 6, 9, 0, 3, 3, 3, 3, 3, 0, 16, 0, 40, 40, 40, 40, 0, 60, 60, 60, 60, 60, 0, 200, 200, 200, 200, 200, 4, 11, 0, 6, 9, 0, 3, 3, 3, 3, 3, 0, 6, 9, 0, 3, 3, 3, 3, 3, 0, 6, 9, 0, 3, 3, 3, 3, 3, 0, 6, 9, 0, 3, 3, 3, 3, 3, 0, 6, 9, 0, 3, 3, 3, 3, 3, 0, 6, 9, 0, 3, 3, 3, 3, 3, 0, 6, 9, 0, 3, 3, 3, 3, 3, 0, 6, 9, 0, 3, 3, 3, 3, 3, 0, 6, 9, 0, 3, 3, 3, 3, 3, 0, 6, 9, 0, 3, 3, 3, 3, 3, 0, 6, 9, 0, 3, 3, 3, 3, 3, 0, 6, 9, 0, 3, 3, 3, 3, 3, 0, 6, 9, 0, 3, 3, 3, 3, 3, 0, 6, 9, 0, 3, 3, 3, 3, 3, 0, 6, 9, 0, 3, 3, 3, 3, 3, 0, 6, 9, 0, 3, 3, 3, 3, 3, 0, 16, 0, 40, 40, 40, 40, 0, 60, 60, 60, 60, 60, 0, 200, 200, 200, 200, 200, 4, 11, 0, 6, 9, 0, 3, 3, 3, 3, 3, 0, 6, 9, 0, 3, 3, 3, 3, 3, 0, 6, 9, 0, 3, 3, 3, 3, 3, 0, 6, 9, 0, 3, 3, 3, 3, 3, 0, 6, 9, 0, 3, 3, 3, 3, 3, 0, 6, 9, 0, 3, 3, 3, 3, 3, 0, 6, 9, 0, 3, 3, 3, 3, 3, 0, 6, 9, 0, 3, 3, 3, 3, 3, 0, 6, 9, 0, 3, 3, 3, 3, 3, 0, 6, 9, 0, 3, 3, 3, 3, 3, 0, 6, 9, 0, 3, 3, 3, 3, 3, 0, 6, 9, 0, 3, 3, 3, 3, 3, 0, 6, 9, 0, 3, 3, 3, 3, 3, 0, 6, 9, 0, 3, 3, 3, 3, 3, 0, 6, 9, 0, 3, 3, 3, 3, 3, 0, 6, 9, 0, 3, 3, 3, 3, 3]
def kC (x : Nat) : Nat := kcs.getD x 99
def lC (x : Nat) : Nat := lcs.getD x 0
def offT : List (List Nat) := [[1, 2, 3, 4, 5, 0], [1, 2, 3, 4, 5, 0, 0], [1, 2, 3, 4, 5, 0], [1, 2, 3, 0, 0, 0, 0], [1, 0], [1, 0], [1, 0, 0, 0, 2, 3, 4, 0, 0, 5, 11, 0], [1, 7, 13], [1, 2, 3, 4, 0], [1, 0, 2, 7, 13, 19, 0, 0, 0, 0, 0, 0, 20], [1, 166, 181, 183, 348, 363, 0, 365, 0, 0, 366, 531, 532]]
def rC (x k : Nat) : Option Nat := if kC x < 11 then (if (offT.getD (kC x) []).getD k 0 = 0 then none else some (x + (offT.getD (kC x) []).getD k 0)) else if kC x = 13 then (if k < 16 then some (x + 20 + 9 * k) else none) else if kC x = 14 then (if k < 6 then some (545 + 165 * k) else none) else none
def SC : Sh := ((1535, kC), (lC, rC))
theorem kcs_len : kcs.length = 1535 := by decide +kernel
theorem kltC {x c : Nat} (h : sK SC x = c) (hc : c < 15 := by decide) : x < sN SC := by
  rcases Nat.lt_or_ge x 1535 with q | q
  · exact q
  · exfalso
    have e : kC x = 99 := by
      unfold kC
      rw [List.getD_eq_getElem?_getD, List.getElem?_eq_none (by rw [kcs_len]; exact q)]
      rfl
    have e2 : sK SC x = kC x := rfl
    omega
theorem wfC : ∀ x, sK SC x < 15 → x < sN SC := fun x h => kltC rfl h
/-- a walk along the rows of kinds and lengths: at each object of a kind its pattern begins -/
def scan (pk pl : List (List Nat)) : List Nat → List Nat → Bool
  | k :: ks, l :: ls => (pk.getD k []).isPrefixOf (k :: ks) && ((pl.getD k []).isPrefixOf (l :: ls) && ((if k = 13 then !((k :: ks).drop 163).isEmpty else true) && scan pk pl ks ls))
  | _, _ => true
theorem scan_at {pk pl : List (List Nat)} : ∀ (ks ls : List Nat) (x : Nat), scan pk pl ks ls = true → x < ks.length → ks.length = ls.length → (pk.getD (ks.getD x 99) []).isPrefixOf (ks.drop x) = true ∧ (pl.getD (ks.getD x 99) []).isPrefixOf (ls.drop x) = true ∧ (ks.getD x 99 = 13 → (ks.drop x).drop 163 ≠ [])
  | [], _, x, _, hx, _ => absurd hx (Nat.not_lt_zero x)
  | _ :: _, [], _, _, _, hl => by simp at hl
  | k :: ks, l :: ls, x, h, hx, hl => by
    unfold scan at h
    simp only [Bool.and_eq_true] at h
    cases x with
    | zero =>
      refine ⟨h.1, h.2.1, fun e => ?_⟩
      have e : k = 13 := e
      have h3 := h.2.2.1
      rw [if_pos e] at h3
      intro e2
      rw [List.drop_zero] at e2
      rw [e2] at h3
      cases h3
    | succ x => exact scan_at ks ls x h.2.2.2 (by simpa using hx) (by simpa using hl)
theorem pre_get : ∀ (p l : List Nat) (j d : Nat), p.isPrefixOf l = true → j < p.length → l.getD j d = p.getD j d
  | [], _, j, _, _, hj => absurd hj (Nat.not_lt_zero j)
  | _ :: _, [], _, _, h, _ => by cases h
  | a :: p, b :: l, j, d, h, hj => by
    simp only [List.isPrefixOf, Bool.and_eq_true, beq_iff_eq] at h
    cases j with
    | zero => simp [h.1]
    | succ j =>
      have := pre_get p l j d h.2 (by simpa using hj)
      simpa using this
theorem pre_len : ∀ (p l : List Nat), p.isPrefixOf l = true → p.length ≤ l.length
  | [], _, _ => Nat.zero_le _
  | _ :: _, [], h => by cases h
  | a :: p, b :: l, h => by
    simp only [List.isPrefixOf, Bool.and_eq_true] at h
    have := pre_len p l h.2
    simp
    exact this
def pkT : List (List Nat) := [[0, 12, 12, 12, 12, 12], [1, 12, 12, 12, 12, 12], [2, 12, 12, 12, 12, 12], [3, 12, 12, 2, 12, 12, 12, 12, 12], [4, 12], [5, 12], [6, 12, 12, 12, 12, 1, 12, 12, 12, 12, 12, 5, 12], [7, 1, 12, 12, 12, 12, 12, 1, 12, 12, 12, 12, 12, 5, 12], [8, 12, 12, 12, 12], [9, 13, 8, 12, 12, 12, 12, 2, 12, 12, 12, 12, 12, 0, 12, 12, 12, 12, 12, 12, 12, 3, 12, 12, 2, 12, 12, 12, 12, 12, 3, 12, 12, 2, 12, 12, 12, 12, 12, 3, 12, 12, 2, 12, 12, 12, 12, 12, 3, 12, 12, 2, 12, 12, 12, 12, 12, 3, 12, 12, 2, 12, 12, 12, 12, 12, 3, 12, 12, 2, 12, 12, 12, 12, 12, 3, 12, 12, 2, 12, 12, 12, 12, 12, 3, 12, 12, 2, 12, 12, 12, 12, 12, 3, 12, 12, 2, 12, 12, 12, 12, 12, 3, 12, 12, 2, 12, 12, 12, 12, 12, 3, 12, 12, 2, 12, 12, 12, 12, 12, 3, 12, 12, 2, 12, 12, 12, 12, 12, 3, 12, 12, 2, 12, 12, 12, 12, 12, 3, 12, 12, 2, 12, 12, 12, 12, 12, 3, 12, 12, 2, 12, 12, 12, 12, 12, 3, 12, 12, 2, 12, 12, 12, 12, 12], [], [], [], [], []]
def plT : List (List Nat) := [[0, 200, 200, 200, 200, 200], [0, 400, 16, 16, 16, 32], [], [0, 6, 9, 0, 3, 3, 3, 3, 3], [0, 8], [0, 36], [0, 400, 401, 401, 401, 0, 400, 16, 16, 16, 32, 0, 36], [0, 0, 400, 16, 16, 16, 32, 0, 400, 16, 16, 16, 32, 0, 36], [0, 40, 40, 40, 40], [0, 16, 0, 40, 40, 40, 40, 0, 60, 60, 60, 60, 60, 0, 200, 200, 200, 200, 200, 4, 11, 0, 6, 9, 0, 3, 3, 3, 3, 3, 0, 6, 9, 0, 3, 3, 3, 3, 3, 0, 6, 9, 0, 3, 3, 3, 3, 3, 0, 6, 9, 0, 3, 3, 3, 3, 3, 0, 6, 9, 0, 3, 3, 3, 3, 3, 0, 6, 9, 0, 3, 3, 3, 3, 3, 0, 6, 9, 0, 3, 3, 3, 3, 3, 0, 6, 9, 0, 3, 3, 3, 3, 3, 0, 6, 9, 0, 3, 3, 3, 3, 3, 0, 6, 9, 0, 3, 3, 3, 3, 3, 0, 6, 9, 0, 3, 3, 3, 3, 3, 0, 6, 9, 0, 3, 3, 3, 3, 3, 0, 6, 9, 0, 3, 3, 3, 3, 3, 0, 6, 9, 0, 3, 3, 3, 3, 3, 0, 6, 9, 0, 3, 3, 3, 3, 3, 0, 6, 9, 0, 3, 3, 3, 3, 3], [], [], [], [], []]
theorem scanC : scan pkT plT kcs lcs = true := by decide +kernel
theorem lcs_len : lcs.length = 1535 := by decide +kernel
theorem scanx {x : Nat} (hx : x < 1535) : (pkT.getD (kC x) []).isPrefixOf (kcs.drop x) = true ∧ (plT.getD (kC x) []).isPrefixOf (lcs.drop x) = true ∧ (kC x = 13 → (kcs.drop x).drop 163 ≠ []) := scan_at kcs lcs x scanC (by rw [kcs_len]; exact hx) (by rw [kcs_len, lcs_len])
theorem pat_k {x c j : Nat} (h : sK SC x = c) (hc : c < 15) (hj : j < (pkT.getD c []).length) : kC (x + j) = (pkT.getD c []).getD j 99 := by
  have h1 := (scanx (kltC h hc)).1
  have e : kC x = c := h
  rw [e] at h1
  have := pre_get _ _ j 99 h1 hj
  rw [← this]
  unfold kC
  rw [List.getD_eq_getElem?_getD, List.getD_eq_getElem?_getD, List.getElem?_drop]
theorem pat_l {x c j : Nat} (h : sK SC x = c) (hc : c < 15) (hj : j < (plT.getD c []).length) : lC (x + j) = (plT.getD c []).getD j 0 := by
  have h1 := (scanx (kltC h hc)).2.1
  have e : kC x = c := h
  rw [e] at h1
  have := pre_get _ _ j 0 h1 hj
  rw [← this]
  unfold lC
  rw [List.getD_eq_getElem?_getD, List.getD_eq_getElem?_getD, List.getElem?_drop]
theorem rC_obj {x c k : Nat} (h : sK SC x = c) (hc : c < 11) (ho : ¬ (offT.getD c []).getD k 0 = 0) : sR SC x k = some (x + (offT.getD c []).getD k 0) := by
  have h : kC x = c := h
  show rC x k = _
  unfold rC
  rw [h, if_pos hc, if_neg ho]
set_option maxRecDepth 100000 in
theorem ly0_0 {x : Nat} (h : sK SC x = 0) : sR SC x 0 = some (x + 1) ∧ sK SC (x + 1) = 12 ∧ sL SC (x + 1) = 200 := ⟨rC_obj h (by decide) (by decide), pat_k h (by decide) (by decide +kernel), pat_l h (by decide) (by decide +kernel)⟩
set_option maxRecDepth 100000 in
theorem ly0_1 {x : Nat} (h : sK SC x = 0) : sR SC x 1 = some (x + 2) ∧ sK SC (x + 2) = 12 ∧ sL SC (x + 2) = 200 := ⟨rC_obj h (by decide) (by decide), pat_k h (by decide) (by decide +kernel), pat_l h (by decide) (by decide +kernel)⟩
set_option maxRecDepth 100000 in
theorem ly0_2 {x : Nat} (h : sK SC x = 0) : sR SC x 2 = some (x + 3) ∧ sK SC (x + 3) = 12 ∧ sL SC (x + 3) = 200 := ⟨rC_obj h (by decide) (by decide), pat_k h (by decide) (by decide +kernel), pat_l h (by decide) (by decide +kernel)⟩
set_option maxRecDepth 100000 in
theorem ly0_3 {x : Nat} (h : sK SC x = 0) : sR SC x 3 = some (x + 4) ∧ sK SC (x + 4) = 12 ∧ sL SC (x + 4) = 200 := ⟨rC_obj h (by decide) (by decide), pat_k h (by decide) (by decide +kernel), pat_l h (by decide) (by decide +kernel)⟩
set_option maxRecDepth 100000 in
theorem ly0_4 {x : Nat} (h : sK SC x = 0) : sR SC x 4 = some (x + 5) ∧ sK SC (x + 5) = 12 ∧ sL SC (x + 5) = 200 := ⟨rC_obj h (by decide) (by decide), pat_k h (by decide) (by decide +kernel), pat_l h (by decide) (by decide +kernel)⟩
set_option maxRecDepth 100000 in
theorem ly1_0 {x : Nat} (h : sK SC x = 1) : sR SC x 0 = some (x + 1) ∧ sK SC (x + 1) = 12 ∧ sL SC (x + 1) = 400 := ⟨rC_obj h (by decide) (by decide), pat_k h (by decide) (by decide +kernel), pat_l h (by decide) (by decide +kernel)⟩
set_option maxRecDepth 100000 in
theorem ly1_1 {x : Nat} (h : sK SC x = 1) : sR SC x 1 = some (x + 2) ∧ sK SC (x + 2) = 12 ∧ sL SC (x + 2) = 16 := ⟨rC_obj h (by decide) (by decide), pat_k h (by decide) (by decide +kernel), pat_l h (by decide) (by decide +kernel)⟩
set_option maxRecDepth 100000 in
theorem ly1_2 {x : Nat} (h : sK SC x = 1) : sR SC x 2 = some (x + 3) ∧ sK SC (x + 3) = 12 ∧ sL SC (x + 3) = 16 := ⟨rC_obj h (by decide) (by decide), pat_k h (by decide) (by decide +kernel), pat_l h (by decide) (by decide +kernel)⟩
set_option maxRecDepth 100000 in
theorem ly1_3 {x : Nat} (h : sK SC x = 1) : sR SC x 3 = some (x + 4) ∧ sK SC (x + 4) = 12 ∧ sL SC (x + 4) = 16 := ⟨rC_obj h (by decide) (by decide), pat_k h (by decide) (by decide +kernel), pat_l h (by decide) (by decide +kernel)⟩
set_option maxRecDepth 100000 in
theorem ly1_4 {x : Nat} (h : sK SC x = 1) : sR SC x 4 = some (x + 5) ∧ sK SC (x + 5) = 12 ∧ sL SC (x + 5) = 32 := ⟨rC_obj h (by decide) (by decide), pat_k h (by decide) (by decide +kernel), pat_l h (by decide) (by decide +kernel)⟩
set_option maxRecDepth 100000 in
theorem ly2_0 {x : Nat} (h : sK SC x = 2) : sR SC x 0 = some (x + 1) ∧ sK SC (x + 1) = 12 ∧ True := ⟨rC_obj h (by decide) (by decide), pat_k h (by decide) (by decide +kernel), trivial⟩
set_option maxRecDepth 100000 in
theorem ly2_1 {x : Nat} (h : sK SC x = 2) : sR SC x 1 = some (x + 2) ∧ sK SC (x + 2) = 12 ∧ True := ⟨rC_obj h (by decide) (by decide), pat_k h (by decide) (by decide +kernel), trivial⟩
set_option maxRecDepth 100000 in
theorem ly2_2 {x : Nat} (h : sK SC x = 2) : sR SC x 2 = some (x + 3) ∧ sK SC (x + 3) = 12 ∧ True := ⟨rC_obj h (by decide) (by decide), pat_k h (by decide) (by decide +kernel), trivial⟩
set_option maxRecDepth 100000 in
theorem ly2_3 {x : Nat} (h : sK SC x = 2) : sR SC x 3 = some (x + 4) ∧ sK SC (x + 4) = 12 ∧ True := ⟨rC_obj h (by decide) (by decide), pat_k h (by decide) (by decide +kernel), trivial⟩
set_option maxRecDepth 100000 in
theorem ly2_4 {x : Nat} (h : sK SC x = 2) : sR SC x 4 = some (x + 5) ∧ sK SC (x + 5) = 12 ∧ True := ⟨rC_obj h (by decide) (by decide), pat_k h (by decide) (by decide +kernel), trivial⟩
set_option maxRecDepth 100000 in
theorem ly3_0 {x : Nat} (h : sK SC x = 3) : sR SC x 0 = some (x + 1) ∧ sK SC (x + 1) = 12 ∧ sL SC (x + 1) = 6 := ⟨rC_obj h (by decide) (by decide), pat_k h (by decide) (by decide +kernel), pat_l h (by decide) (by decide +kernel)⟩
set_option maxRecDepth 100000 in
theorem ly3_1 {x : Nat} (h : sK SC x = 3) : sR SC x 1 = some (x + 2) ∧ sK SC (x + 2) = 12 ∧ sL SC (x + 2) = 9 := ⟨rC_obj h (by decide) (by decide), pat_k h (by decide) (by decide +kernel), pat_l h (by decide) (by decide +kernel)⟩
set_option maxRecDepth 100000 in
theorem ly3_2 {x : Nat} (h : sK SC x = 3) : sR SC x 2 = some (x + 3) ∧ sK SC (x + 3) = 2 ∧ True := ⟨rC_obj h (by decide) (by decide), pat_k h (by decide) (by decide +kernel), trivial⟩
set_option maxRecDepth 100000 in
theorem ly4_0 {x : Nat} (h : sK SC x = 4) : sR SC x 0 = some (x + 1) ∧ sK SC (x + 1) = 12 ∧ sL SC (x + 1) = 8 := ⟨rC_obj h (by decide) (by decide), pat_k h (by decide) (by decide +kernel), pat_l h (by decide) (by decide +kernel)⟩
set_option maxRecDepth 100000 in
theorem ly5_0 {x : Nat} (h : sK SC x = 5) : sR SC x 0 = some (x + 1) ∧ sK SC (x + 1) = 12 ∧ sL SC (x + 1) = 36 := ⟨rC_obj h (by decide) (by decide), pat_k h (by decide) (by decide +kernel), pat_l h (by decide) (by decide +kernel)⟩
set_option maxRecDepth 100000 in
theorem ly6_0 {x : Nat} (h : sK SC x = 6) : sR SC x 0 = some (x + 1) ∧ sK SC (x + 1) = 12 ∧ sL SC (x + 1) = 400 := ⟨rC_obj h (by decide) (by decide), pat_k h (by decide) (by decide +kernel), pat_l h (by decide) (by decide +kernel)⟩
set_option maxRecDepth 100000 in
theorem ly6_4 {x : Nat} (h : sK SC x = 6) : sR SC x 4 = some (x + 2) ∧ sK SC (x + 2) = 12 ∧ sL SC (x + 2) = 401 := ⟨rC_obj h (by decide) (by decide), pat_k h (by decide) (by decide +kernel), pat_l h (by decide) (by decide +kernel)⟩
set_option maxRecDepth 100000 in
theorem ly6_5 {x : Nat} (h : sK SC x = 6) : sR SC x 5 = some (x + 3) ∧ sK SC (x + 3) = 12 ∧ sL SC (x + 3) = 401 := ⟨rC_obj h (by decide) (by decide), pat_k h (by decide) (by decide +kernel), pat_l h (by decide) (by decide +kernel)⟩
set_option maxRecDepth 100000 in
theorem ly6_6 {x : Nat} (h : sK SC x = 6) : sR SC x 6 = some (x + 4) ∧ sK SC (x + 4) = 12 ∧ sL SC (x + 4) = 401 := ⟨rC_obj h (by decide) (by decide), pat_k h (by decide) (by decide +kernel), pat_l h (by decide) (by decide +kernel)⟩
set_option maxRecDepth 100000 in
theorem ly6_9 {x : Nat} (h : sK SC x = 6) : sR SC x 9 = some (x + 5) ∧ sK SC (x + 5) = 1 ∧ True := ⟨rC_obj h (by decide) (by decide), pat_k h (by decide) (by decide +kernel), trivial⟩
set_option maxRecDepth 100000 in
theorem ly6_10 {x : Nat} (h : sK SC x = 6) : sR SC x 10 = some (x + 11) ∧ sK SC (x + 11) = 5 ∧ True := ⟨rC_obj h (by decide) (by decide), pat_k h (by decide) (by decide +kernel), trivial⟩
set_option maxRecDepth 100000 in
theorem ly7_0 {x : Nat} (h : sK SC x = 7) : sR SC x 0 = some (x + 1) ∧ sK SC (x + 1) = 1 ∧ True := ⟨rC_obj h (by decide) (by decide), pat_k h (by decide) (by decide +kernel), trivial⟩
set_option maxRecDepth 100000 in
theorem ly7_1 {x : Nat} (h : sK SC x = 7) : sR SC x 1 = some (x + 7) ∧ sK SC (x + 7) = 1 ∧ True := ⟨rC_obj h (by decide) (by decide), pat_k h (by decide) (by decide +kernel), trivial⟩
set_option maxRecDepth 100000 in
theorem ly7_2 {x : Nat} (h : sK SC x = 7) : sR SC x 2 = some (x + 13) ∧ sK SC (x + 13) = 5 ∧ True := ⟨rC_obj h (by decide) (by decide), pat_k h (by decide) (by decide +kernel), trivial⟩
set_option maxRecDepth 100000 in
theorem ly8_0 {x : Nat} (h : sK SC x = 8) : sR SC x 0 = some (x + 1) ∧ sK SC (x + 1) = 12 ∧ sL SC (x + 1) = 40 := ⟨rC_obj h (by decide) (by decide), pat_k h (by decide) (by decide +kernel), pat_l h (by decide) (by decide +kernel)⟩
set_option maxRecDepth 100000 in
theorem ly8_1 {x : Nat} (h : sK SC x = 8) : sR SC x 1 = some (x + 2) ∧ sK SC (x + 2) = 12 ∧ sL SC (x + 2) = 40 := ⟨rC_obj h (by decide) (by decide), pat_k h (by decide) (by decide +kernel), pat_l h (by decide) (by decide +kernel)⟩
set_option maxRecDepth 100000 in
theorem ly8_2 {x : Nat} (h : sK SC x = 8) : sR SC x 2 = some (x + 3) ∧ sK SC (x + 3) = 12 ∧ sL SC (x + 3) = 40 := ⟨rC_obj h (by decide) (by decide), pat_k h (by decide) (by decide +kernel), pat_l h (by decide) (by decide +kernel)⟩
set_option maxRecDepth 100000 in
theorem ly8_3 {x : Nat} (h : sK SC x = 8) : sR SC x 3 = some (x + 4) ∧ sK SC (x + 4) = 12 ∧ sL SC (x + 4) = 40 := ⟨rC_obj h (by decide) (by decide), pat_k h (by decide) (by decide +kernel), pat_l h (by decide) (by decide +kernel)⟩
set_option maxRecDepth 100000 in
theorem ly9_0 {x : Nat} (h : sK SC x = 9) : sR SC x 0 = some (x + 1) ∧ sK SC (x + 1) = 13 ∧ sL SC (x + 1) = 16 := ⟨rC_obj h (by decide) (by decide), pat_k h (by decide) (by decide +kernel), pat_l h (by decide) (by decide +kernel)⟩
set_option maxRecDepth 100000 in
theorem ly9_2 {x : Nat} (h : sK SC x = 9) : sR SC x 2 = some (x + 2) ∧ sK SC (x + 2) = 8 ∧ True := ⟨rC_obj h (by decide) (by decide), pat_k h (by decide) (by decide +kernel), trivial⟩
set_option maxRecDepth 100000 in
theorem ly9_3 {x : Nat} (h : sK SC x = 9) : sR SC x 3 = some (x + 7) ∧ sK SC (x + 7) = 2 ∧ True := ⟨rC_obj h (by decide) (by decide), pat_k h (by decide) (by decide +kernel), trivial⟩
set_option maxRecDepth 100000 in
theorem ly9_4 {x : Nat} (h : sK SC x = 9) : sR SC x 4 = some (x + 13) ∧ sK SC (x + 13) = 0 ∧ True := ⟨rC_obj h (by decide) (by decide), pat_k h (by decide) (by decide +kernel), trivial⟩
set_option maxRecDepth 100000 in
theorem ly9_5 {x : Nat} (h : sK SC x = 9) : sR SC x 5 = some (x + 19) ∧ sK SC (x + 19) = 12 ∧ sL SC (x + 19) = 4 := ⟨rC_obj h (by decide) (by decide), pat_k h (by decide) (by decide +kernel), pat_l h (by decide) (by decide +kernel)⟩
set_option maxRecDepth 100000 in
theorem ly9_12 {x : Nat} (h : sK SC x = 9) : sR SC x 12 = some (x + 20) ∧ sK SC (x + 20) = 12 ∧ sL SC (x + 20) = 11 := ⟨rC_obj h (by decide) (by decide), pat_k h (by decide) (by decide +kernel), pat_l h (by decide) (by decide +kernel)⟩
theorem kRoot : sK SC 0 = 10 := rfl
theorem ly10_0 (_ : sK SC 0 = 10) : sR SC 0 0 = some 1 ∧ sK SC 1 = 9 ∧ True := ⟨by decide +kernel, by decide +kernel, trivial⟩
theorem ly10_1 (_ : sK SC 0 = 10) : sR SC 0 1 = some 166 ∧ sK SC 166 = 7 ∧ True := ⟨by decide +kernel, by decide +kernel, trivial⟩
theorem ly10_2 (_ : sK SC 0 = 10) : sR SC 0 2 = some 181 ∧ sK SC 181 = 4 ∧ True := ⟨by decide +kernel, by decide +kernel, trivial⟩
theorem ly10_3 (_ : sK SC 0 = 10) : sR SC 0 3 = some 183 ∧ sK SC 183 = 9 ∧ True := ⟨by decide +kernel, by decide +kernel, trivial⟩
theorem ly10_4 (_ : sK SC 0 = 10) : sR SC 0 4 = some 348 ∧ sK SC 348 = 7 ∧ True := ⟨by decide +kernel, by decide +kernel, trivial⟩
theorem ly10_5 (_ : sK SC 0 = 10) : sR SC 0 5 = some 363 ∧ sK SC 363 = 4 ∧ True := ⟨by decide +kernel, by decide +kernel, trivial⟩
theorem ly10_7 (_ : sK SC 0 = 10) : sR SC 0 7 = some 365 ∧ sK SC 365 = 14 ∧ sL SC 365 = 6 := ⟨by decide +kernel, by decide +kernel, by decide +kernel⟩
theorem ly10_10 (_ : sK SC 0 = 10) : sR SC 0 10 = some 366 ∧ sK SC 366 = 9 ∧ True := ⟨by decide +kernel, by decide +kernel, trivial⟩
theorem ly10_11 (_ : sK SC 0 = 10) : sR SC 0 11 = some 531 ∧ sK SC 531 = 12 ∧ sL SC 531 = 290 := ⟨by decide +kernel, by decide +kernel, by decide +kernel⟩
theorem ly10_12 (_ : sK SC 0 = 10) : sR SC 0 12 = some 532 ∧ sK SC 532 = 6 ∧ True := ⟨by decide +kernel, by decide +kernel, trivial⟩
theorem per_k : ∀ j, j < 16 → (pkT.getD 9 []).getD (21 + 9 * j) 99 = 3 := by decide +kernel
theorem lyP {w : Nat} {i : Int32} (h : sK SC w = 9) (hi : vp_in i 16) : sR SC (w + 1) (ix i) = some (w + (21 + 9 * ix i)) ∧ sK SC (w + (21 + 9 * ix i)) = 3 := by
  have hj : ix i < 16 := by
    show i.toNatClampNeg < 16
    unfold vp_in at hi
    omega
  refine ⟨?_, ?_⟩
  · have hk : kC (w + 1) = 13 := (ly9_0 h).2.1
    show rC (w + 1) (ix i) = _
    unfold rC
    rw [hk, if_neg (by decide), if_pos rfl, if_pos hj]
    exact congrArg some (by omega)
  · exact (pat_k h (by decide) (show 21 + 9 * ix i < 165 by omega)).trans (per_k (ix i) hj)
theorem lyB {i : Int32} (hi : vp_in i 6) : sR SC 365 (ix i) = some (545 + 165 * ix i) ∧ sK SC (545 + 165 * ix i) = 9 := by
  have hj : ix i < 6 := by
    show i.toNatClampNeg < 6
    unfold vp_in at hi
    omega
  refine ⟨?_, ?_⟩
  · have hk : kC 365 = 14 := by decide +kernel
    show rC 365 (ix i) = _
    unfold rC
    rw [hk, if_neg (by decide), if_neg (by decide), if_pos rfl, if_pos hj]
  · have : ∀ j, j < 6 → kC (545 + 165 * j) = 9 := by decide +kernel
    exact this _ hj
theorem per_k2 : (pkT.getD 9 []).length = 165 := by decide +kernel
theorem offT_no : ∀ c, c < 11 → ∀ k, 13 ≤ k → (offT.getD c []).getD k 0 = 0 := by
  intro c hc k hk
  have hl : ∀ c, c < 11 → (offT.getD c []).length ≤ 13 := by decide
  rw [List.getD_eq_getElem?_getD, List.getElem?_eq_none (Nat.le_trans (hl c hc) hk)]
  rfl
def spanT : List Nat := [6, 6, 6, 9, 2, 2, 13, 15, 5, 165, 1535]
theorem offT_in : ∀ c, c < 11 → ∀ k, k < 13 → (offT.getD c []).getD k 0 < spanT.getD c 0 := by decide
theorem kC10 : ∀ x, x < 1535 → kC x = 10 → x = 0 := by
  intro x hx h
  rcases Nat.eq_zero_or_pos x with q | q
  · exact q
  · exfalso
    obtain ⟨y, rfl⟩ : ∃ y, x = y + 1 := ⟨x - 1, by omega⟩
    have e : kC (y + 1) = (kcs.drop 1).getD y 99 := by
      unfold kC
      rw [List.getD_eq_getElem?_getD, List.getD_eq_getElem?_getD, List.getElem?_drop, Nat.add_comm]
    have hall : (kcs.drop 1).all (fun k => k != 10) = true := by decide +kernel
    have hmem : (kcs.drop 1).getD y 99 ∈ kcs.drop 1 := by
      have hl : y < (kcs.drop 1).length := by rw [List.length_drop, kcs_len]; omega
      rw [List.getD_eq_getElem?_getD, List.getElem?_eq_getElem hl]
      exact List.getElem_mem hl
    have := List.all_eq_true.mp hall _ hmem
    rw [← e, h] at this
    cases this
theorem spanC : ∀ x, x < 1535 → kC x < 11 → x + spanT.getD (kC x) 0 ≤ 1535 := by
  intro x hx hk
  rcases Nat.lt_or_ge (kC x) 10 with q | q
  · have h1 := pre_len _ _ (scanx hx).1
    rw [List.length_drop, kcs_len] at h1
    have h2 : ∀ c, c < 10 → (pkT.getD c []).length = spanT.getD c 0 := by decide +kernel
    rw [h2 _ q] at h1
    omega
  · have e : kC x = 10 := by omega
    have := kC10 x hx e
    subst this
    rw [e]
    decide
theorem cloC : clo SC := by
  intro i hi k j h
  have hi : i < 1535 := hi
  have h : rC i k = some j := h
  left
  show j < 1535
  unfold rC at h
  split at h
  · rename_i hc
    split at h
    · cases h
    · rename_i h0
      cases h
      rcases Nat.lt_or_ge k 13 with q | q
      · have h1 := offT_in (kC i) hc k q
        have h2 := spanC i hi hc
        omega
      · exact absurd (offT_no _ hc k q) h0
  · split at h
    · rename_i h13
      split at h
      · cases h
        have h5 := (scanx hi).2.2 h13
        have h6 : 0 < ((kcs.drop i).drop 163).length := List.length_pos_iff.mpr h5
        rw [List.length_drop, List.length_drop, kcs_len] at h6
        omega
      · cases h
    · split at h
      · split at h
        · cases h
          omega
        · cases h
      · cases h
/-! the check's own object -/
def lms : List Nat := [0, 712, 4272, 712, 16, 16, 16, 16, 144, 8, 1000, 400, 97, 2, 48, 48, 48, 1200, 1200, 40, 72, 11, 420, 10, 3900]
def offM : List Nat := [0, 1, 2, 0, 3, 0, 0, 4, 5, 6, 0, 7, 8, 0, 0, 0, 0, 0, 9, 10, 11, 0, 0, 0, 0, 0, 12, 13, 14, 15, 16, 17, 18, 0, 0, 0, 19, 0, 0, 0, 0, 0, 20, 0, 21, 22, 23, 0, 0, 0, 24]
def kM (x : Nat) : Nat := if x = 0 then 11 else if x < 25 then 12 else 99
def rM (x k : Nat) : Option Nat := if x = 0 then (if offM.getD k 0 = 0 then none else some (offM.getD k 0)) else none
def SM : Sh := ((25, kM), ((fun x => lms.getD x 0), rM))
theorem kltM {x c : Nat} (h : sK SM x = c) (hc : c < 15 := by decide) : x < sN SM := by
  have h : kM x = c := h
  show x < 25
  unfold kM at h
  split at h
  · omega
  · split at h
    · assumption
    · omega
theorem wfM : ∀ x, sK SM x < 15 → x < sN SM := fun x h => kltM rfl h
theorem kRootM : sK SM 0 = 11 := rfl
theorem cloM : clo SM := by
  intro i hi k j h
  have h : rM i k = some j := h
  left
  show j < 25
  unfold rM at h
  split at h
  · split at h
    · cases h
    · cases h
      rcases Nat.lt_or_ge k 51 with q | q
      · have : ∀ k, k < 51 → offM.getD k 0 < 25 := by decide
        exact this k q
      · rename_i h0
        exact absurd (by rw [List.getD_eq_getElem?_getD, List.getElem?_eq_none (by exact q)]; rfl) h0
  · cases h
theorem kltS {S : Sh} (hS : ∀ x, sK S x < 15 → x < sN S) {x c : Nat} (h : sK S x = c) (hc : c < 15 := by decide) : x < sN S := hS x (by omega)
theorem ly11_1 (_ : sK SM 0 = 11) : sR SM 0 1 = some 1 ∧ sK SM 1 = 12 ∧ sL SM 1 = 712 := ⟨rfl, rfl, rfl⟩
theorem ly11_2 (_ : sK SM 0 = 11) : sR SM 0 2 = some 2 ∧ sK SM 2 = 12 ∧ sL SM 2 = 4272 := ⟨rfl, rfl, rfl⟩
theorem ly11_4 (_ : sK SM 0 = 11) : sR SM 0 4 = some 3 ∧ sK SM 3 = 12 ∧ sL SM 3 = 712 := ⟨rfl, rfl, rfl⟩
theorem ly11_7 (_ : sK SM 0 = 11) : sR SM 0 7 = some 4 ∧ sK SM 4 = 12 ∧ sL SM 4 = 16 := ⟨rfl, rfl, rfl⟩
theorem ly11_8 (_ : sK SM 0 = 11) : sR SM 0 8 = some 5 ∧ sK SM 5 = 12 ∧ sL SM 5 = 16 := ⟨rfl, rfl, rfl⟩
theorem ly11_9 (_ : sK SM 0 = 11) : sR SM 0 9 = some 6 ∧ sK SM 6 = 12 ∧ sL SM 6 = 16 := ⟨rfl, rfl, rfl⟩
theorem ly11_11 (_ : sK SM 0 = 11) : sR SM 0 11 = some 7 ∧ sK SM 7 = 12 ∧ sL SM 7 = 16 := ⟨rfl, rfl, rfl⟩
theorem ly11_12 (_ : sK SM 0 = 11) : sR SM 0 12 = some 8 ∧ sK SM 8 = 12 ∧ sL SM 8 = 144 := ⟨rfl, rfl, rfl⟩
theorem ly11_18 (_ : sK SM 0 = 11) : sR SM 0 18 = some 9 ∧ sK SM 9 = 12 ∧ sL SM 9 = 8 := ⟨rfl, rfl, rfl⟩
theorem ly11_19 (_ : sK SM 0 = 11) : sR SM 0 19 = some 10 ∧ sK SM 10 = 12 ∧ sL SM 10 = 1000 := ⟨rfl, rfl, rfl⟩
theorem ly11_20 (_ : sK SM 0 = 11) : sR SM 0 20 = some 11 ∧ sK SM 11 = 12 ∧ sL SM 11 = 400 := ⟨rfl, rfl, rfl⟩
theorem ly11_26 (_ : sK SM 0 = 11) : sR SM 0 26 = some 12 ∧ sK SM 12 = 12 ∧ sL SM 12 = 97 := ⟨rfl, rfl, rfl⟩
theorem ly11_27 (_ : sK SM 0 = 11) : sR SM 0 27 = some 13 ∧ sK SM 13 = 12 ∧ sL SM 13 = 2 := ⟨rfl, rfl, rfl⟩
theorem ly11_28 (_ : sK SM 0 = 11) : sR SM 0 28 = some 14 ∧ sK SM 14 = 12 ∧ sL SM 14 = 48 := ⟨rfl, rfl, rfl⟩
theorem ly11_29 (_ : sK SM 0 = 11) : sR SM 0 29 = some 15 ∧ sK SM 15 = 12 ∧ sL SM 15 = 48 := ⟨rfl, rfl, rfl⟩
theorem ly11_30 (_ : sK SM 0 = 11) : sR SM 0 30 = some 16 ∧ sK SM 16 = 12 ∧ sL SM 16 = 48 := ⟨rfl, rfl, rfl⟩
theorem ly11_31 (_ : sK SM 0 = 11) : sR SM 0 31 = some 17 ∧ sK SM 17 = 12 ∧ sL SM 17 = 1200 := ⟨rfl, rfl, rfl⟩
theorem ly11_32 (_ : sK SM 0 = 11) : sR SM 0 32 = some 18 ∧ sK SM 18 = 12 ∧ sL SM 18 = 1200 := ⟨rfl, rfl, rfl⟩
theorem ly11_36 (_ : sK SM 0 = 11) : sR SM 0 36 = some 19 ∧ sK SM 19 = 12 ∧ sL SM 19 = 40 := ⟨rfl, rfl, rfl⟩
theorem ly11_42 (_ : sK SM 0 = 11) : sR SM 0 42 = some 20 ∧ sK SM 20 = 12 ∧ sL SM 20 = 72 := ⟨rfl, rfl, rfl⟩
theorem ly11_44 (_ : sK SM 0 = 11) : sR SM 0 44 = some 21 ∧ sK SM 21 = 12 ∧ sL SM 21 = 11 := ⟨rfl, rfl, rfl⟩
theorem ly11_45 (_ : sK SM 0 = 11) : sR SM 0 45 = some 22 ∧ sK SM 22 = 12 ∧ sL SM 22 = 420 := ⟨rfl, rfl, rfl⟩
theorem ly11_46 (_ : sK SM 0 = 11) : sR SM 0 46 = some 23 ∧ sK SM 23 = 12 ∧ sL SM 23 = 10 := ⟨rfl, rfl, rfl⟩
theorem ly11_50 (_ : sK SM 0 = 11) : sR SM 0 50 = some 24 ∧ sK SM 24 = 12 ∧ sL SM 24 = 3900 := ⟨rfl, rfl, rfl⟩
