def skX7_0 (t : Nat) : Skel := [(11, 0, [.int 0, .int 0, .int 0, .null, .null, .null, .null, .null, .null, .null, .null, .null, .null, .null, .null])]

def skX7_1 (t : Nat) : Skel := [(11, 0, [.int 0, .int 0, .int 0, .null, .null, .null, .null, .null, .null, .null, .null, .null, .null, .null, .null]), (0, 6, [])]

def skX7_2 (t : Nat) : Skel := [(11, 0, [.int 0, .int 0, .int 0, .ref (t + 1), .null, .null, .null, .null, .null, .null, .null, .null, .null, .null, .null]), (0, 6, [])]

def skX7_3 (t : Nat) : Skel := [(11, 0, [.int 0, .int 0, .int 0, .ref (t + 1), .null, .null, .null, .null, .null, .null, .null, .null, .null, .null, .null]), (0, 6, []), (0, 6, [])]

def skX7_4 (t : Nat) : Skel := [(11, 0, [.int 0, .int 0, .int 0, .ref (t + 1), .ref (t + 2), .null, .null, .null, .null, .null, .null, .null, .null, .null, .null]), (0, 6, []), (0, 6, [])]

def skX7_5 (t : Nat) : Skel := [(11, 0, [.int 0, .int 0, .int 0, .ref (t + 1), .ref (t + 2), .null, .null, .null, .null, .null, .null, .null, .null, .null, .null]), (0, 6, []), (0, 6, []), (0, 6, [])]

def skX7_6 (t : Nat) : Skel := [(11, 0, [.int 0, .int 0, .int 0, .ref (t + 1), .ref (t + 2), .ref (t + 3), .null, .null, .null, .null, .null, .null, .null, .null, .null]), (0, 6, []), (0, 6, []), (0, 6, [])]

def skX7_7 (t : Nat) : Skel := [(11, 0, [.int 0, .int 0, .int 0, .ref (t + 1), .ref (t + 2), .ref (t + 3), .null, .null, .null, .null, .null, .null, .null, .null, .null]), (0, 6, []), (0, 6, []), (0, 6, []), (0, 10, [])]

def skX7_8 (t : Nat) : Skel := [(11, 0, [.int 0, .int 0, .int 0, .ref (t + 1), .ref (t + 2), .ref (t + 3), .ref (t + 4), .null, .null, .null, .null, .null, .null, .null, .null]), (0, 6, []), (0, 6, []), (0, 6, []), (0, 10, [])]

def skX7_9 (t : Nat) : Skel := [(11, 0, [.int 0, .int 0, .int 0, .ref (t + 1), .ref (t + 2), .ref (t + 3), .ref (t + 4), .null, .null, .null, .null, .null, .null, .null, .null]), (0, 6, []), (0, 6, []), (0, 6, []), (0, 10, []), (0, 10, [])]

def skX7_10 (t : Nat) : Skel := [(11, 0, [.int 0, .int 0, .int 0, .ref (t + 1), .ref (t + 2), .ref (t + 3), .ref (t + 4), .ref (t + 5), .null, .null, .null, .null, .null, .null, .null]), (0, 6, []), (0, 6, []), (0, 6, []), (0, 10, []), (0, 10, [])]

def skX7_11 (t : Nat) : Skel := [(11, 0, [.int 0, .int 0, .int 0, .ref (t + 1), .ref (t + 2), .ref (t + 3), .ref (t + 4), .ref (t + 5), .null, .null, .null, .null, .null, .null, .null]), (0, 6, []), (0, 6, []), (0, 6, []), (0, 10, []), (0, 10, []), (0, 10, [])]

def skX7_12 (t : Nat) : Skel := [(11, 0, [.int 0, .int 0, .int 0, .ref (t + 1), .ref (t + 2), .ref (t + 3), .ref (t + 4), .ref (t + 5), .ref (t + 6), .null, .null, .null, .null, .null, .null]), (0, 6, []), (0, 6, []), (0, 6, []), (0, 10, []), (0, 10, []), (0, 10, [])]

def skX7_13 (t : Nat) : Skel := [(11, 0, [.int 0, .int 0, .int 0, .ref (t + 1), .ref (t + 2), .ref (t + 3), .ref (t + 4), .ref (t + 5), .ref (t + 6), .null, .null, .null, .null, .null, .null]), (0, 6, []), (0, 6, []), (0, 6, []), (0, 10, []), (0, 10, []), (0, 10, []), (0, 10, [])]

def skX7_14 (t : Nat) : Skel := [(11, 0, [.int 0, .int 0, .int 0, .ref (t + 1), .ref (t + 2), .ref (t + 3), .ref (t + 4), .ref (t + 5), .ref (t + 6), .ref (t + 7), .null, .null, .null, .null, .null]), (0, 6, []), (0, 6, []), (0, 6, []), (0, 10, []), (0, 10, []), (0, 10, []), (0, 10, [])]

def skX7_15 (t : Nat) : Skel := [(11, 0, [.int 0, .int 0, .int 0, .ref (t + 1), .ref (t + 2), .ref (t + 3), .ref (t + 4), .ref (t + 5), .ref (t + 6), .ref (t + 7), .null, .null, .null, .null, .null]), (0, 6, []), (0, 6, []), (0, 6, []), (0, 10, []), (0, 10, []), (0, 10, []), (0, 10, []), (0, 10, [])]

def skX7_16 (t : Nat) : Skel := [(11, 0, [.int 0, .int 0, .int 0, .ref (t + 1), .ref (t + 2), .ref (t + 3), .ref (t + 4), .ref (t + 5), .ref (t + 6), .ref (t + 7), .ref (t + 8), .null, .null, .null, .null]), (0, 6, []), (0, 6, []), (0, 6, []), (0, 10, []), (0, 10, []), (0, 10, []), (0, 10, []), (0, 10, [])]

def skX7_17 (t : Nat) : Skel := [(11, 0, [.int 0, .int 0, .int 0, .ref (t + 1), .ref (t + 2), .ref (t + 3), .ref (t + 4), .ref (t + 5), .ref (t + 6), .ref (t + 7), .ref (t + 8), .null, .null, .null, .null]), (0, 6, []), (0, 6, []), (0, 6, []), (0, 10, []), (0, 10, []), (0, 10, []), (0, 10, []), (0, 10, []), (0, 2, [])]

def skX7_18 (t : Nat) : Skel := [(11, 0, [.int 0, .int 0, .int 0, .ref (t + 1), .ref (t + 2), .ref (t + 3), .ref (t + 4), .ref (t + 5), .ref (t + 6), .ref (t + 7), .ref (t + 8), .ref (t + 9), .null, .null, .null]), (0, 6, []), (0, 6, []), (0, 6, []), (0, 10, []), (0, 10, []), (0, 10, []), (0, 10, []), (0, 10, []), (0, 2, [])]

def skX7_19 (t : Nat) : Skel := [(11, 0, [.int 0, .int 0, .int 0, .ref (t + 1), .ref (t + 2), .ref (t + 3), .ref (t + 4), .ref (t + 5), .ref (t + 6), .ref (t + 7), .ref (t + 8), .ref (t + 9), .null, .null, .null]), (0, 6, []), (0, 6, []), (0, 6, []), (0, 10, []), (0, 10, []), (0, 10, []), (0, 10, []), (0, 10, []), (0, 2, []), (0, 4, [])]

def skX7_20 (t : Nat) : Skel := [(11, 0, [.int 0, .int 0, .int 0, .ref (t + 1), .ref (t + 2), .ref (t + 3), .ref (t + 4), .ref (t + 5), .ref (t + 6), .ref (t + 7), .ref (t + 8), .ref (t + 9), .ref (t + 10), .null, .null]), (0, 6, []), (0, 6, []), (0, 6, []), (0, 10, []), (0, 10, []), (0, 10, []), (0, 10, []), (0, 10, []), (0, 2, []), (0, 4, [])]

def skX7_21 (t : Nat) : Skel := [(11, 0, [.int 0, .int 0, .int 0, .ref (t + 1), .ref (t + 2), .ref (t + 3), .ref (t + 4), .ref (t + 5), .ref (t + 6), .ref (t + 7), .ref (t + 8), .ref (t + 9), .ref (t + 10), .null, .null]), (0, 6, []), (0, 6, []), (0, 6, []), (0, 10, []), (0, 10, []), (0, 10, []), (0, 10, []), (0, 10, []), (0, 2, []), (0, 4, []), (1, 4, [])]

def skX7_22 (t : Nat) : Skel := [(11, 0, [.int 0, .int 0, .int 0, .ref (t + 1), .ref (t + 2), .ref (t + 3), .ref (t + 4), .ref (t + 5), .ref (t + 6), .ref (t + 7), .ref (t + 8), .ref (t + 9), .ref (t + 10), .ref (t + 11), .null]), (0, 6, []), (0, 6, []), (0, 6, []), (0, 10, []), (0, 10, []), (0, 10, []), (0, 10, []), (0, 10, []), (0, 2, []), (0, 4, []), (1, 4, [])]

def skX7_23 (t : Nat) : Skel := [(11, 0, [.int 0, .int 0, .int 0, .ref (t + 1), .ref (t + 2), .ref (t + 3), .ref (t + 4), .ref (t + 5), .ref (t + 6), .ref (t + 7), .ref (t + 8), .ref (t + 9), .ref (t + 10), .ref (t + 11), .null]), (0, 6, []), (0, 6, []), (0, 6, []), (0, 10, []), (0, 10, []), (0, 10, []), (0, 10, []), (0, 10, []), (0, 2, []), (0, 4, []), (1, 4, []), (3, 3, [.null, .null, .null])]

def skX7_24 (t : Nat) : Skel := [(11, 0, [.int 0, .int 0, .int 0, .ref (t + 1), .ref (t + 2), .ref (t + 3), .ref (t + 4), .ref (t + 5), .ref (t + 6), .ref (t + 7), .ref (t + 8), .ref (t + 9), .ref (t + 10), .ref (t + 11), .ref (t + 12)]), (0, 6, []), (0, 6, []), (0, 6, []), (0, 10, []), (0, 10, []), (0, 10, []), (0, 10, []), (0, 10, []), (0, 2, []), (0, 4, []), (1, 4, []), (3, 3, [.null, .null, .null])]

def skX7_25 (t : Nat) : Skel := [(11, 0, [.int 0, .int 0, .int 0, .ref (t + 1), .ref (t + 2), .ref (t + 3), .ref (t + 4), .ref (t + 5), .ref (t + 6), .ref (t + 7), .ref (t + 8), .ref (t + 9), .ref (t + 10), .ref (t + 11), .ref (t + 12)]), (0, 6, []), (0, 6, []), (0, 6, []), (0, 10, []), (0, 10, []), (0, 10, []), (0, 10, []), (0, 10, []), (0, 2, []), (0, 4, []), (1, 4, []), (3, 3, [.null, .null, .null]), (5, 0, [.int 0, .int 0, .null, .null])]

def skX7_26 (t : Nat) : Skel := [(11, 0, [.int 0, .int 0, .int 0, .ref (t + 1), .ref (t + 2), .ref (t + 3), .ref (t + 4), .ref (t + 5), .ref (t + 6), .ref (t + 7), .ref (t + 8), .ref (t + 9), .ref (t + 10), .ref (t + 11), .ref (t + 12)]), (0, 6, []), (0, 6, []), (0, 6, []), (0, 10, []), (0, 10, []), (0, 10, []), (0, 10, []), (0, 10, []), (0, 2, []), (0, 4, []), (1, 4, []), (3, 3, [.null, .null, .null]), (5, 0, [.int 0, .int 0, .ref (t + 14), .ref (t + 15)]), (0, 64, []), (2, 64, [])]

def skX7_27 (t : Nat) : Skel := [(11, 0, [.int 0, .int 0, .int 0, .ref (t + 1), .ref (t + 2), .ref (t + 3), .ref (t + 4), .ref (t + 5), .ref (t + 6), .ref (t + 7), .ref (t + 8), .ref (t + 9), .ref (t + 10), .ref (t + 11), .ref (t + 12)]), (0, 6, []), (0, 6, []), (0, 6, []), (0, 10, []), (0, 10, []), (0, 10, []), (0, 10, []), (0, 10, []), (0, 2, []), (0, 4, []), (1, 4, []), (3, 3, [.ref (t + 13), .null, .null]), (5, 0, [.int 0, .int 0, .ref (t + 14), .ref (t + 15)]), (0, 64, []), (2, 64, [])]

def skX7_28 (t : Nat) : Skel := [(11, 0, [.int 0, .int 0, .int 0, .ref (t + 1), .ref (t + 2), .ref (t + 3), .ref (t + 4), .ref (t + 5), .ref (t + 6), .ref (t + 7), .ref (t + 8), .ref (t + 9), .ref (t + 10), .ref (t + 11), .ref (t + 12)]), (0, 6, []), (0, 6, []), (0, 6, []), (0, 10, []), (0, 10, []), (0, 10, []), (0, 10, []), (0, 10, []), (0, 2, []), (0, 4, []), (1, 4, []), (3, 3, [.ref (t + 13), .null, .null]), (5, 0, [.int 0, .int 0, .ref (t + 14), .ref (t + 15)]), (0, 64, []), (2, 64, []), (5, 0, [.int 0, .int 0, .null, .null])]

def skX7_29 (t : Nat) : Skel := [(11, 0, [.int 0, .int 0, .int 0, .ref (t + 1), .ref (t + 2), .ref (t + 3), .ref (t + 4), .ref (t + 5), .ref (t + 6), .ref (t + 7), .ref (t + 8), .ref (t + 9), .ref (t + 10), .ref (t + 11), .ref (t + 12)]), (0, 6, []), (0, 6, []), (0, 6, []), (0, 10, []), (0, 10, []), (0, 10, []), (0, 10, []), (0, 10, []), (0, 2, []), (0, 4, []), (1, 4, []), (3, 3, [.ref (t + 13), .null, .null]), (5, 0, [.int 0, .int 0, .ref (t + 14), .ref (t + 15)]), (0, 64, []), (2, 64, []), (5, 0, [.int 0, .int 0, .ref (t + 17), .ref (t + 18)]), (0, 64, []), (2, 64, [])]

def skX7_30 (t : Nat) : Skel := [(11, 0, [.int 0, .int 0, .int 0, .ref (t + 1), .ref (t + 2), .ref (t + 3), .ref (t + 4), .ref (t + 5), .ref (t + 6), .ref (t + 7), .ref (t + 8), .ref (t + 9), .ref (t + 10), .ref (t + 11), .ref (t + 12)]), (0, 6, []), (0, 6, []), (0, 6, []), (0, 10, []), (0, 10, []), (0, 10, []), (0, 10, []), (0, 10, []), (0, 2, []), (0, 4, []), (1, 4, []), (3, 3, [.ref (t + 13), .ref (t + 16), .null]), (5, 0, [.int 0, .int 0, .ref (t + 14), .ref (t + 15)]), (0, 64, []), (2, 64, []), (5, 0, [.int 0, .int 0, .ref (t + 17), .ref (t + 18)]), (0, 64, []), (2, 64, [])]

def skX7_31 (t : Nat) : Skel := [(11, 0, [.int 0, .int 0, .int 0, .ref (t + 1), .ref (t + 2), .ref (t + 3), .ref (t + 4), .ref (t + 5), .ref (t + 6), .ref (t + 7), .ref (t + 8), .ref (t + 9), .ref (t + 10), .ref (t + 11), .ref (t + 12)]), (0, 6, []), (0, 6, []), (0, 6, []), (0, 10, []), (0, 10, []), (0, 10, []), (0, 10, []), (0, 10, []), (0, 2, []), (0, 4, []), (1, 4, []), (3, 3, [.ref (t + 13), .ref (t + 16), .null]), (5, 0, [.int 0, .int 0, .ref (t + 14), .ref (t + 15)]), (0, 64, []), (2, 64, []), (5, 0, [.int 0, .int 0, .ref (t + 17), .ref (t + 18)]), (0, 64, []), (2, 64, []), (5, 0, [.int 0, .int 0, .null, .null])]

def skX7_32 (t : Nat) : Skel := [(11, 0, [.int 0, .int 0, .int 0, .ref (t + 1), .ref (t + 2), .ref (t + 3), .ref (t + 4), .ref (t + 5), .ref (t + 6), .ref (t + 7), .ref (t + 8), .ref (t + 9), .ref (t + 10), .ref (t + 11), .ref (t + 12)]), (0, 6, []), (0, 6, []), (0, 6, []), (0, 10, []), (0, 10, []), (0, 10, []), (0, 10, []), (0, 10, []), (0, 2, []), (0, 4, []), (1, 4, []), (3, 3, [.ref (t + 13), .ref (t + 16), .null]), (5, 0, [.int 0, .int 0, .ref (t + 14), .ref (t + 15)]), (0, 64, []), (2, 64, []), (5, 0, [.int 0, .int 0, .ref (t + 17), .ref (t + 18)]), (0, 64, []), (2, 64, []), (5, 0, [.int 0, .int 0, .ref (t + 20), .ref (t + 21)]), (0, 64, []), (2, 64, [])]

def skX7_33 (t : Nat) : Skel := [(11, 0, [.int 0, .int 0, .int 0, .ref (t + 1), .ref (t + 2), .ref (t + 3), .ref (t + 4), .ref (t + 5), .ref (t + 6), .ref (t + 7), .ref (t + 8), .ref (t + 9), .ref (t + 10), .ref (t + 11), .ref (t + 12)]), (0, 6, []), (0, 6, []), (0, 6, []), (0, 10, []), (0, 10, []), (0, 10, []), (0, 10, []), (0, 10, []), (0, 2, []), (0, 4, []), (1, 4, []), (3, 3, [.ref (t + 13), .ref (t + 16), .ref (t + 19)]), (5, 0, [.int 0, .int 0, .ref (t + 14), .ref (t + 15)]), (0, 64, []), (2, 64, []), (5, 0, [.int 0, .int 0, .ref (t + 17), .ref (t + 18)]), (0, 64, []), (2, 64, []), (5, 0, [.int 0, .int 0, .ref (t + 20), .ref (t + 21)]), (0, 64, []), (2, 64, [])]

def bl_X7_init : Skel := [(11, 0, [.int 0, .int 0, .int 0, .null, .null, .null, .null, .null, .null, .null, .null, .null, .null, .null, .null])]

def fin_X7_init (t : Nat) : Skel := [(11, 0, [.int 0, .int 0, .int 0, .ref (t + 1), .ref (t + 2), .ref (t + 3), .ref (t + 4), .ref (t + 5), .ref (t + 6), .ref (t + 7), .ref (t + 8), .ref (t + 9), .ref (t + 10), .ref (t + 11), .ref (t + 12)]), (0, 6, []), (0, 6, []), (0, 6, []), (0, 10, []), (0, 10, []), (0, 10, []), (0, 10, []), (0, 10, []), (0, 2, []), (0, 4, []), (1, 4, []), (3, 3, [.ref (t + 13), .ref (t + 16), .ref (t + 19)]), (5, 0, [.int 0, .int 0, .ref (t + 14), .ref (t + 15)]), (0, 64, []), (2, 64, []), (5, 0, [.int 0, .int 0, .ref (t + 17), .ref (t + 18)]), (0, 64, []), (2, 64, []), (5, 0, [.int 0, .int 0, .ref (t + 20), .ref (t + 21)]), (0, 64, []), (2, 64, [])]

def iS_X7_init (t : Nat) (S : Mem) : Mem := (clrS t (iS_X1_init (t + 19) (iS_X1_init (t + 16) (iS_X1_init (t + 13) (sI (sI (sI S t 0 (0 : Int32)) t 1 (0 : Int32)) t 2 (0 : Int32))))))

theorem cz_X7_init {t : Nat} {S : Mem} (hz : Zf S (t + 1)) : Zf (iS_X7_init t S) (t + 22) := by
  have hz0 : Zf S (t + 1) := hz
  have hz1 : Zf (sI S t 0 (0 : Int32)) (t + 1) := Zf.sI hz0 (by omega)
  have hz2 : Zf (sI (sI S t 0 (0 : Int32)) t 1 (0 : Int32)) (t + 1) := Zf.sI hz1 (by omega)
  have hz3 : Zf (sI (sI (sI S t 0 (0 : Int32)) t 1 (0 : Int32)) t 2 (0 : Int32)) (t + 1) := Zf.sI hz2 (by omega)
  have hz4 : Zf (sI (sI (sI S t 0 (0 : Int32)) t 1 (0 : Int32)) t 2 (0 : Int32)) (t + 2) := Zf.mono hz3 (by omega)
  have hz6 : Zf (sI (sI (sI S t 0 (0 : Int32)) t 1 (0 : Int32)) t 2 (0 : Int32)) (t + 3) := Zf.mono hz4 (by omega)
  have hz8 : Zf (sI (sI (sI S t 0 (0 : Int32)) t 1 (0 : Int32)) t 2 (0 : Int32)) (t + 4) := Zf.mono hz6 (by omega)
  have hz10 : Zf (sI (sI (sI S t 0 (0 : Int32)) t 1 (0 : Int32)) t 2 (0 : Int32)) (t + 5) := Zf.mono hz8 (by omega)
  have hz12 : Zf (sI (sI (sI S t 0 (0 : Int32)) t 1 (0 : Int32)) t 2 (0 : Int32)) (t + 6) := Zf.mono hz10 (by omega)
  have hz14 : Zf (sI (sI (sI S t 0 (0 : Int32)) t 1 (0 : Int32)) t 2 (0 : Int32)) (t + 7) := Zf.mono hz12 (by omega)
  have hz16 : Zf (sI (sI (sI S t 0 (0 : Int32)) t 1 (0 : Int32)) t 2 (0 : Int32)) (t + 8) := Zf.mono hz14 (by omega)
  have hz18 : Zf (sI (sI (sI S t 0 (0 : Int32)) t 1 (0 : Int32)) t 2 (0 : Int32)) (t + 9) := Zf.mono hz16 (by omega)
  have hz20 : Zf (sI (sI (sI S t 0 (0 : Int32)) t 1 (0 : Int32)) t 2 (0 : Int32)) (t + 10) := Zf.mono hz18 (by omega)
  have hz22 : Zf (sI (sI (sI S t 0 (0 : Int32)) t 1 (0 : Int32)) t 2 (0 : Int32)) (t + 11) := Zf.mono hz20 (by omega)
  have hz24 : Zf (sI (sI (sI S t 0 (0 : Int32)) t 1 (0 : Int32)) t 2 (0 : Int32)) (t + 12) := Zf.mono hz22 (by omega)
  have hz26 : Zf (sI (sI (sI S t 0 (0 : Int32)) t 1 (0 : Int32)) t 2 (0 : Int32)) (t + 13) := Zf.mono hz24 (by omega)
  have hz28 : Zf (sI (sI (sI S t 0 (0 : Int32)) t 1 (0 : Int32)) t 2 (0 : Int32)) (t + 14) := Zf.mono hz26 (by omega)
  have hz29 : Zf (iS_X1_init (t + 13) (sI (sI (sI S t 0 (0 : Int32)) t 1 (0 : Int32)) t 2 (0 : Int32))) (t + 16) := Zf.mono (cz_X1_init (t := t + 13) hz28) (by omega)
  have hz31 : Zf (iS_X1_init (t + 13) (sI (sI (sI S t 0 (0 : Int32)) t 1 (0 : Int32)) t 2 (0 : Int32))) (t + 17) := Zf.mono hz29 (by omega)
  have hz32 : Zf (iS_X1_init (t + 16) (iS_X1_init (t + 13) (sI (sI (sI S t 0 (0 : Int32)) t 1 (0 : Int32)) t 2 (0 : Int32)))) (t + 19) := Zf.mono (cz_X1_init (t := t + 16) hz31) (by omega)
  have hz34 : Zf (iS_X1_init (t + 16) (iS_X1_init (t + 13) (sI (sI (sI S t 0 (0 : Int32)) t 1 (0 : Int32)) t 2 (0 : Int32)))) (t + 20) := Zf.mono hz32 (by omega)
  have hz35 : Zf (iS_X1_init (t + 19) (iS_X1_init (t + 16) (iS_X1_init (t + 13) (sI (sI (sI S t 0 (0 : Int32)) t 1 (0 : Int32)) t 2 (0 : Int32))))) (t + 22) := Zf.mono (cz_X1_init (t := t + 19) hz34) (by omega)
  have hz37 : Zf (clrS t (iS_X1_init (t + 19) (iS_X1_init (t + 16) (iS_X1_init (t + 13) (sI (sI (sI S t 0 (0 : Int32)) t 1 (0 : Int32)) t 2 (0 : Int32)))))) (t + 22) := clr_zf (Zf.mono hz35 (by omega)) (by omega)
  exact hz37

set_option maxHeartbeats 4000000 in
set_option maxRecDepth 100000 in
theorem cs_X7_init {pre : Skel} {t : Nat} (ht : pre.length = t) (hsc : scs (t + 1) (pre ++ bl_X7_init)) : scs (t + 22) (pre ++ fin_X7_init t) := by
  have hsc0 : scs (t + 1) (pre ++ skX7_0 t) := hsc
  have hsc4 : scs (t + 2) (pre ++ skX7_1 t) := scs_new hsc0 (by omega) (by simp) ap_push
  have es5 : (pre ++ skX7_1 t : Skel).set t (11, 0, [.int 0, .int 0, .int 0, .ref (t + 1), .null, .null, .null, .null, .null, .null, .null, .null, .null, .null, .null]) = pre ++ skX7_2 t := by rw [ap_set0 ht]; rfl
  have hsc5 : scs (t + 2) (pre ++ skX7_2 t) := scs_putR (b := t) (j := 3) (r := (t + 1)) hsc4 (by rw [ap_get0 ht]; rfl) (by omega) es5
  have hsc6 : scs (t + 3) (pre ++ skX7_3 t) := scs_new hsc5 (by omega) (by simp) ap_push
  have es7 : (pre ++ skX7_3 t : Skel).set t (11, 0, [.int 0, .int 0, .int 0, .ref (t + 1), .ref (t + 2), .null, .null, .null, .null, .null, .null, .null, .null, .null, .null]) = pre ++ skX7_4 t := by rw [ap_set0 ht]; rfl
  have hsc7 : scs (t + 3) (pre ++ skX7_4 t) := scs_putR (b := t) (j := 4) (r := (t + 2)) hsc6 (by rw [ap_get0 ht]; rfl) (by omega) es7
  have hsc8 : scs (t + 4) (pre ++ skX7_5 t) := scs_new hsc7 (by omega) (by simp) ap_push
  have es9 : (pre ++ skX7_5 t : Skel).set t (11, 0, [.int 0, .int 0, .int 0, .ref (t + 1), .ref (t + 2), .ref (t + 3), .null, .null, .null, .null, .null, .null, .null, .null, .null]) = pre ++ skX7_6 t := by rw [ap_set0 ht]; rfl
  have hsc9 : scs (t + 4) (pre ++ skX7_6 t) := scs_putR (b := t) (j := 5) (r := (t + 3)) hsc8 (by rw [ap_get0 ht]; rfl) (by omega) es9
  have hsc10 : scs (t + 5) (pre ++ skX7_7 t) := scs_new hsc9 (by omega) (by simp) ap_push
  have es11 : (pre ++ skX7_7 t : Skel).set t (11, 0, [.int 0, .int 0, .int 0, .ref (t + 1), .ref (t + 2), .ref (t + 3), .ref (t + 4), .null, .null, .null, .null, .null, .null, .null, .null]) = pre ++ skX7_8 t := by rw [ap_set0 ht]; rfl
  have hsc11 : scs (t + 5) (pre ++ skX7_8 t) := scs_putR (b := t) (j := 6) (r := (t + 4)) hsc10 (by rw [ap_get0 ht]; rfl) (by omega) es11
  have hsc12 : scs (t + 6) (pre ++ skX7_9 t) := scs_new hsc11 (by omega) (by simp) ap_push
  have es13 : (pre ++ skX7_9 t : Skel).set t (11, 0, [.int 0, .int 0, .int 0, .ref (t + 1), .ref (t + 2), .ref (t + 3), .ref (t + 4), .ref (t + 5), .null, .null, .null, .null, .null, .null, .null]) = pre ++ skX7_10 t := by rw [ap_set0 ht]; rfl
  have hsc13 : scs (t + 6) (pre ++ skX7_10 t) := scs_putR (b := t) (j := 7) (r := (t + 5)) hsc12 (by rw [ap_get0 ht]; rfl) (by omega) es13
  have hsc14 : scs (t + 7) (pre ++ skX7_11 t) := scs_new hsc13 (by omega) (by simp) ap_push
  have es15 : (pre ++ skX7_11 t : Skel).set t (11, 0, [.int 0, .int 0, .int 0, .ref (t + 1), .ref (t + 2), .ref (t + 3), .ref (t + 4), .ref (t + 5), .ref (t + 6), .null, .null, .null, .null, .null, .null]) = pre ++ skX7_12 t := by rw [ap_set0 ht]; rfl
  have hsc15 : scs (t + 7) (pre ++ skX7_12 t) := scs_putR (b := t) (j := 8) (r := (t + 6)) hsc14 (by rw [ap_get0 ht]; rfl) (by omega) es15
  have hsc16 : scs (t + 8) (pre ++ skX7_13 t) := scs_new hsc15 (by omega) (by simp) ap_push
  have es17 : (pre ++ skX7_13 t : Skel).set t (11, 0, [.int 0, .int 0, .int 0, .ref (t + 1), .ref (t + 2), .ref (t + 3), .ref (t + 4), .ref (t + 5), .ref (t + 6), .ref (t + 7), .null, .null, .null, .null, .null]) = pre ++ skX7_14 t := by rw [ap_set0 ht]; rfl
  have hsc17 : scs (t + 8) (pre ++ skX7_14 t) := scs_putR (b := t) (j := 9) (r := (t + 7)) hsc16 (by rw [ap_get0 ht]; rfl) (by omega) es17
  have hsc18 : scs (t + 9) (pre ++ skX7_15 t) := scs_new hsc17 (by omega) (by simp) ap_push
  have es19 : (pre ++ skX7_15 t : Skel).set t (11, 0, [.int 0, .int 0, .int 0, .ref (t + 1), .ref (t + 2), .ref (t + 3), .ref (t + 4), .ref (t + 5), .ref (t + 6), .ref (t + 7), .ref (t + 8), .null, .null, .null, .null]) = pre ++ skX7_16 t := by rw [ap_set0 ht]; rfl
  have hsc19 : scs (t + 9) (pre ++ skX7_16 t) := scs_putR (b := t) (j := 10) (r := (t + 8)) hsc18 (by rw [ap_get0 ht]; rfl) (by omega) es19
  have hsc20 : scs (t + 10) (pre ++ skX7_17 t) := scs_new hsc19 (by omega) (by simp) ap_push
  have es21 : (pre ++ skX7_17 t : Skel).set t (11, 0, [.int 0, .int 0, .int 0, .ref (t + 1), .ref (t + 2), .ref (t + 3), .ref (t + 4), .ref (t + 5), .ref (t + 6), .ref (t + 7), .ref (t + 8), .ref (t + 9), .null, .null, .null]) = pre ++ skX7_18 t := by rw [ap_set0 ht]; rfl
  have hsc21 : scs (t + 10) (pre ++ skX7_18 t) := scs_putR (b := t) (j := 11) (r := (t + 9)) hsc20 (by rw [ap_get0 ht]; rfl) (by omega) es21
  have hsc22 : scs (t + 11) (pre ++ skX7_19 t) := scs_new hsc21 (by omega) (by simp) ap_push
  have es23 : (pre ++ skX7_19 t : Skel).set t (11, 0, [.int 0, .int 0, .int 0, .ref (t + 1), .ref (t + 2), .ref (t + 3), .ref (t + 4), .ref (t + 5), .ref (t + 6), .ref (t + 7), .ref (t + 8), .ref (t + 9), .ref (t + 10), .null, .null]) = pre ++ skX7_20 t := by rw [ap_set0 ht]; rfl
  have hsc23 : scs (t + 11) (pre ++ skX7_20 t) := scs_putR (b := t) (j := 12) (r := (t + 10)) hsc22 (by rw [ap_get0 ht]; rfl) (by omega) es23
  have hsc24 : scs (t + 12) (pre ++ skX7_21 t) := scs_new hsc23 (by omega) (by simp) ap_push
  have es25 : (pre ++ skX7_21 t : Skel).set t (11, 0, [.int 0, .int 0, .int 0, .ref (t + 1), .ref (t + 2), .ref (t + 3), .ref (t + 4), .ref (t + 5), .ref (t + 6), .ref (t + 7), .ref (t + 8), .ref (t + 9), .ref (t + 10), .ref (t + 11), .null]) = pre ++ skX7_22 t := by rw [ap_set0 ht]; rfl
  have hsc25 : scs (t + 12) (pre ++ skX7_22 t) := scs_putR (b := t) (j := 13) (r := (t + 11)) hsc24 (by rw [ap_get0 ht]; rfl) (by omega) es25
  have hsc26 : scs (t + 13) (pre ++ skX7_23 t) := scs_new hsc25 (by omega) (by simp) ap_push
  have es27 : (pre ++ skX7_23 t : Skel).set t (11, 0, [.int 0, .int 0, .int 0, .ref (t + 1), .ref (t + 2), .ref (t + 3), .ref (t + 4), .ref (t + 5), .ref (t + 6), .ref (t + 7), .ref (t + 8), .ref (t + 9), .ref (t + 10), .ref (t + 11), .ref (t + 12)]) = pre ++ skX7_24 t := by rw [ap_set0 ht]; rfl
  have hsc27 : scs (t + 13) (pre ++ skX7_24 t) := scs_putR (b := t) (j := 14) (r := (t + 12)) hsc26 (by rw [ap_get0 ht]; rfl) (by omega) es27
  have hsc28 : scs (t + 14) (pre ++ skX7_25 t) := scs_new hsc27 (by omega) (by simp) ap_push
  have es29a : (pre ++ skX7_24 t) ++ bl_X1_init = pre ++ skX7_25 t := by rw [List.append_assoc]; rfl
  have es29b : (pre ++ skX7_24 t) ++ fin_X1_init (t + 13) = pre ++ skX7_26 t := by rw [List.append_assoc]; rfl
  have hsc29 : scs (t + 16) (pre ++ skX7_26 t) := by have h := cs_X1_init (pre := pre ++ skX7_24 t) (t := t + 13) (by rw [ap_len ht]; rfl) (by rw [es29a]; exact hsc28); rw [es29b] at h; exact h
  have es30 : (pre ++ skX7_26 t : Skel).set (t + 12) (3, 3, [.ref (t + 13), .null, .null]) = pre ++ skX7_27 t := by rw [ap_set ht]; rfl
  have hsc30 : scs (t + 16) (pre ++ skX7_27 t) := scs_putR (b := (t + 12)) (j := 0) (r := (t + 13)) hsc29 (by rw [ap_get ht]; rfl) (by omega) es30
  have hsc31 : scs (t + 17) (pre ++ skX7_28 t) := scs_new hsc30 (by omega) (by simp) ap_push
  have es32a : (pre ++ skX7_27 t) ++ bl_X1_init = pre ++ skX7_28 t := by rw [List.append_assoc]; rfl
  have es32b : (pre ++ skX7_27 t) ++ fin_X1_init (t + 16) = pre ++ skX7_29 t := by rw [List.append_assoc]; rfl
  have hsc32 : scs (t + 19) (pre ++ skX7_29 t) := by have h := cs_X1_init (pre := pre ++ skX7_27 t) (t := t + 16) (by rw [ap_len ht]; rfl) (by rw [es32a]; exact hsc31); rw [es32b] at h; exact h
  have es33 : (pre ++ skX7_29 t : Skel).set (t + 12) (3, 3, [.ref (t + 13), .ref (t + 16), .null]) = pre ++ skX7_30 t := by rw [ap_set ht]; rfl
  have hsc33 : scs (t + 19) (pre ++ skX7_30 t) := scs_putR (b := (t + 12)) (j := 1) (r := (t + 16)) hsc32 (by rw [ap_get ht]; rfl) (by omega) es33
  have hsc34 : scs (t + 20) (pre ++ skX7_31 t) := scs_new hsc33 (by omega) (by simp) ap_push
  have es35a : (pre ++ skX7_30 t) ++ bl_X1_init = pre ++ skX7_31 t := by rw [List.append_assoc]; rfl
  have es35b : (pre ++ skX7_30 t) ++ fin_X1_init (t + 19) = pre ++ skX7_32 t := by rw [List.append_assoc]; rfl
  have hsc35 : scs (t + 22) (pre ++ skX7_32 t) := by have h := cs_X1_init (pre := pre ++ skX7_30 t) (t := t + 19) (by rw [ap_len ht]; rfl) (by rw [es35a]; exact hsc34); rw [es35b] at h; exact h
  have es36 : (pre ++ skX7_32 t : Skel).set (t + 12) (3, 3, [.ref (t + 13), .ref (t + 16), .ref (t + 19)]) = pre ++ skX7_33 t := by rw [ap_set ht]; rfl
  have hsc36 : scs (t + 22) (pre ++ skX7_33 t) := scs_putR (b := (t + 12)) (j := 2) (r := (t + 19)) hsc35 (by rw [ap_get ht]; rfl) (by omega) es36
  exact hsc36

set_option maxHeartbeats 4000000 in
set_option maxRecDepth 100000 in
theorem ci_X7_init {pre : Skel} {t : Nat} {S : Mem} (ht : pre.length = t) (hz : Zf S (t + 1)) (hsc : scs (t + 1) (pre ++ bl_X7_init)) (h1000 : t + 22 < 1000) : MetC yX7_init cX7_init 2 2 21 477 [.ref t] (pre ++ bl_X7_init) S (pre ++ fin_X7_init t) (iS_X7_init t S) := by
  have hpl : (pre ++ bl_X7_init).length = t + 1 := ap_len ht
  refine MetC.intro (by decide +kernel) rfl (Nat.le_of_ble_eq_true rfl) (fun X loc hX hI hQ => ?_)
  rw [hpl] at hQ
  show AW X (pre ++ skX7_0 t) loc 0 0 0 [(0, .ref t)] [] S
  have hz0 : Zf S (t + 1) := hz
  have hsc0 : scs (t + 1) (pre ++ skX7_0 t) := hsc
  have ag0 : Ag (t + 1) loc loc := Ag.rf
  refine aw_aload_n (pc := 0) hX dX7_init_0 rfl 0 rfl ?_
  refine aw_objI (pc := 1) hX kw_1_80 kw_1_29 kw_1_30 (by decide) (Nat.le_of_ble_eq_true rfl) dX7_init_1 ?_
  refine aw_aload_n (pc := 4) hX dX7_init_4 rfl 0 rfl ?_
  refine aw_iconst (v := (0 : Int32)) (pc := 5) hX dX7_init_5 (by decide) ?_
  refine pf_X7_9 (pc := 6) hX (by rw [ap_get0 ht]; rfl) rfl dX7_init_6 ?_
  have hz1 : Zf (sI S t 0 (0 : Int32)) (t + 1) := Zf.sI hz0 (by omega)
  refine aw_aload_n (pc := 9) hX dX7_init_9 rfl 0 rfl ?_
  refine aw_iconst (v := (0 : Int32)) (pc := 10) hX dX7_init_10 (by decide) ?_
  refine pf_X7_15 (pc := 11) hX (by rw [ap_get0 ht]; rfl) rfl dX7_init_11 ?_
  have hz2 : Zf (sI (sI S t 0 (0 : Int32)) t 1 (0 : Int32)) (t + 1) := Zf.sI hz1 (by omega)
  refine aw_aload_n (pc := 14) hX dX7_init_14 rfl 0 rfl ?_
  refine aw_iconst (v := (0 : Int32)) (pc := 15) hX dX7_init_15 (by decide) ?_
  refine pf_X7_18 (pc := 16) hX (by rw [ap_get0 ht]; rfl) rfl dX7_init_16 ?_
  have hz3 : Zf (sI (sI (sI S t 0 (0 : Int32)) t 1 (0 : Int32)) t 2 (0 : Int32)) (t + 1) := Zf.sI hz2 (by omega)
  refine aw_aload_n (pc := 19) hX dX7_init_19 rfl 0 rfl ?_
  refine aw_bipush (v := (6 : Int32)) (pc := 20) hX dX7_init_20 (by decide) ?_
  have hsc4 : scs (t + 2) (pre ++ skX7_1 t) := scs_new hsc0 (by omega) (by simp) ap_push
  refine aw_newA' (pc := 22) hX (N0 := t + 1) (by rw [ap_len ht]; rfl) (sk' := pre ++ skX7_1 t) (at' := .int) (ty := .int) (kd := 0) (N := 6) rfl (by decide) kw_1_46 (by decide) (by decide) (by decide) hz3 hsc0 (scl_cons (scv_ref (Or.inl (by omega))) scl_nil) (scl_cons (scv_ref (Or.inl (by omega))) scl_nil) (by omega) (by omega) (by omega) dX7_init_22 ap_push (fun loc4 ag4 hX4 => ?_)
  have ag4' := ag0.tr ag4 (by omega)
  have hz4 : Zf (sI (sI (sI S t 0 (0 : Int32)) t 1 (0 : Int32)) t 2 (0 : Int32)) (t + 2) := Zf.mono hz3 (by omega)
  have es5 : (pre ++ skX7_1 t : Skel).set t (11, 0, [.int 0, .int 0, .int 0, .ref (t + 1), .null, .null, .null, .null, .null, .null, .null, .null, .null, .null, .null]) = pre ++ skX7_2 t := by rw [ap_set0 ht]; rfl
  have hsc5 : scs (t + 2) (pre ++ skX7_2 t) := scs_putR (b := t) (j := 3) (r := (t + 1)) hsc4 (by rw [ap_get0 ht]; rfl) (by omega) es5
  refine pr_X7_21 (pc := 24) hX4 hI (by rw [ap_get0 ht]; rfl) (Nat.le_of_ble_eq_true rfl) es5 dX7_init_24 ?_
  refine aw_aload_n (pc := 27) hX4 dX7_init_27 rfl 0 rfl ?_
  refine aw_bipush (v := (6 : Int32)) (pc := 28) hX4 dX7_init_28 (by decide) ?_
  have hsc6 : scs (t + 3) (pre ++ skX7_3 t) := scs_new hsc5 (by omega) (by simp) ap_push
  refine aw_newA' (pc := 30) hX4 (N0 := t + 2) (by rw [ap_len ht]; rfl) (sk' := pre ++ skX7_3 t) (at' := .int) (ty := .int) (kd := 0) (N := 6) rfl (by decide) kw_1_46 (by decide) (by decide) (by decide) hz4 hsc5 (scl_cons (scv_ref (Or.inl (by omega))) scl_nil) (scl_cons (scv_ref (Or.inl (by omega))) scl_nil) (by omega) (by omega) (by omega) dX7_init_30 ap_push (fun loc6 ag6 hX6 => ?_)
  have ag6' := ag4'.tr ag6 (by omega)
  have hz6 : Zf (sI (sI (sI S t 0 (0 : Int32)) t 1 (0 : Int32)) t 2 (0 : Int32)) (t + 3) := Zf.mono hz4 (by omega)
  have es7 : (pre ++ skX7_3 t : Skel).set t (11, 0, [.int 0, .int 0, .int 0, .ref (t + 1), .ref (t + 2), .null, .null, .null, .null, .null, .null, .null, .null, .null, .null]) = pre ++ skX7_4 t := by rw [ap_set0 ht]; rfl
  have hsc7 : scs (t + 3) (pre ++ skX7_4 t) := scs_putR (b := t) (j := 4) (r := (t + 2)) hsc6 (by rw [ap_get0 ht]; rfl) (by omega) es7
  refine pr_X7_25 (pc := 32) hX6 hI (by rw [ap_get0 ht]; rfl) (Nat.le_of_ble_eq_true rfl) es7 dX7_init_32 ?_
  refine aw_aload_n (pc := 35) hX6 dX7_init_35 rfl 0 rfl ?_
  refine aw_bipush (v := (6 : Int32)) (pc := 36) hX6 dX7_init_36 (by decide) ?_
  have hsc8 : scs (t + 4) (pre ++ skX7_5 t) := scs_new hsc7 (by omega) (by simp) ap_push
  refine aw_newA' (pc := 38) hX6 (N0 := t + 3) (by rw [ap_len ht]; rfl) (sk' := pre ++ skX7_5 t) (at' := .int) (ty := .int) (kd := 0) (N := 6) rfl (by decide) kw_1_46 (by decide) (by decide) (by decide) hz6 hsc7 (scl_cons (scv_ref (Or.inl (by omega))) scl_nil) (scl_cons (scv_ref (Or.inl (by omega))) scl_nil) (by omega) (by omega) (by omega) dX7_init_38 ap_push (fun loc8 ag8 hX8 => ?_)
  have ag8' := ag6'.tr ag8 (by omega)
  have hz8 : Zf (sI (sI (sI S t 0 (0 : Int32)) t 1 (0 : Int32)) t 2 (0 : Int32)) (t + 4) := Zf.mono hz6 (by omega)
  have es9 : (pre ++ skX7_5 t : Skel).set t (11, 0, [.int 0, .int 0, .int 0, .ref (t + 1), .ref (t + 2), .ref (t + 3), .null, .null, .null, .null, .null, .null, .null, .null, .null]) = pre ++ skX7_6 t := by rw [ap_set0 ht]; rfl
  have hsc9 : scs (t + 4) (pre ++ skX7_6 t) := scs_putR (b := t) (j := 5) (r := (t + 3)) hsc8 (by rw [ap_get0 ht]; rfl) (by omega) es9
  refine pr_X7_28 (pc := 40) hX8 hI (by rw [ap_get0 ht]; rfl) (Nat.le_of_ble_eq_true rfl) es9 dX7_init_40 ?_
  refine aw_aload_n (pc := 43) hX8 dX7_init_43 rfl 0 rfl ?_
  refine aw_bipush (v := (10 : Int32)) (pc := 44) hX8 dX7_init_44 (by decide) ?_
  have hsc10 : scs (t + 5) (pre ++ skX7_7 t) := scs_new hsc9 (by omega) (by simp) ap_push
  refine aw_newA' (pc := 46) hX8 (N0 := t + 4) (by rw [ap_len ht]; rfl) (sk' := pre ++ skX7_7 t) (at' := .int) (ty := .int) (kd := 0) (N := 10) rfl (by decide) kw_1_46 (by decide) (by decide) (by decide) hz8 hsc9 (scl_cons (scv_ref (Or.inl (by omega))) scl_nil) (scl_cons (scv_ref (Or.inl (by omega))) scl_nil) (by omega) (by omega) (by omega) dX7_init_46 ap_push (fun loc10 ag10 hX10 => ?_)
  have ag10' := ag8'.tr ag10 (by omega)
  have hz10 : Zf (sI (sI (sI S t 0 (0 : Int32)) t 1 (0 : Int32)) t 2 (0 : Int32)) (t + 5) := Zf.mono hz8 (by omega)
  have es11 : (pre ++ skX7_7 t : Skel).set t (11, 0, [.int 0, .int 0, .int 0, .ref (t + 1), .ref (t + 2), .ref (t + 3), .ref (t + 4), .null, .null, .null, .null, .null, .null, .null, .null]) = pre ++ skX7_8 t := by rw [ap_set0 ht]; rfl
  have hsc11 : scs (t + 5) (pre ++ skX7_8 t) := scs_putR (b := t) (j := 6) (r := (t + 4)) hsc10 (by rw [ap_get0 ht]; rfl) (by omega) es11
  refine pr_X7_31 (pc := 48) hX10 hI (by rw [ap_get0 ht]; rfl) (Nat.le_of_ble_eq_true rfl) es11 dX7_init_48 ?_
  refine aw_aload_n (pc := 51) hX10 dX7_init_51 rfl 0 rfl ?_
  refine aw_bipush (v := (10 : Int32)) (pc := 52) hX10 dX7_init_52 (by decide) ?_
  have hsc12 : scs (t + 6) (pre ++ skX7_9 t) := scs_new hsc11 (by omega) (by simp) ap_push
  refine aw_newA' (pc := 54) hX10 (N0 := t + 5) (by rw [ap_len ht]; rfl) (sk' := pre ++ skX7_9 t) (at' := .int) (ty := .int) (kd := 0) (N := 10) rfl (by decide) kw_1_46 (by decide) (by decide) (by decide) hz10 hsc11 (scl_cons (scv_ref (Or.inl (by omega))) scl_nil) (scl_cons (scv_ref (Or.inl (by omega))) scl_nil) (by omega) (by omega) (by omega) dX7_init_54 ap_push (fun loc12 ag12 hX12 => ?_)
  have ag12' := ag10'.tr ag12 (by omega)
  have hz12 : Zf (sI (sI (sI S t 0 (0 : Int32)) t 1 (0 : Int32)) t 2 (0 : Int32)) (t + 6) := Zf.mono hz10 (by omega)
  have es13 : (pre ++ skX7_9 t : Skel).set t (11, 0, [.int 0, .int 0, .int 0, .ref (t + 1), .ref (t + 2), .ref (t + 3), .ref (t + 4), .ref (t + 5), .null, .null, .null, .null, .null, .null, .null]) = pre ++ skX7_10 t := by rw [ap_set0 ht]; rfl
  have hsc13 : scs (t + 6) (pre ++ skX7_10 t) := scs_putR (b := t) (j := 7) (r := (t + 5)) hsc12 (by rw [ap_get0 ht]; rfl) (by omega) es13
  refine pr_X7_34 (pc := 56) hX12 hI (by rw [ap_get0 ht]; rfl) (Nat.le_of_ble_eq_true rfl) es13 dX7_init_56 ?_
  refine aw_aload_n (pc := 59) hX12 dX7_init_59 rfl 0 rfl ?_
  refine aw_bipush (v := (10 : Int32)) (pc := 60) hX12 dX7_init_60 (by decide) ?_
  have hsc14 : scs (t + 7) (pre ++ skX7_11 t) := scs_new hsc13 (by omega) (by simp) ap_push
  refine aw_newA' (pc := 62) hX12 (N0 := t + 6) (by rw [ap_len ht]; rfl) (sk' := pre ++ skX7_11 t) (at' := .int) (ty := .int) (kd := 0) (N := 10) rfl (by decide) kw_1_46 (by decide) (by decide) (by decide) hz12 hsc13 (scl_cons (scv_ref (Or.inl (by omega))) scl_nil) (scl_cons (scv_ref (Or.inl (by omega))) scl_nil) (by omega) (by omega) (by omega) dX7_init_62 ap_push (fun loc14 ag14 hX14 => ?_)
  have ag14' := ag12'.tr ag14 (by omega)
  have hz14 : Zf (sI (sI (sI S t 0 (0 : Int32)) t 1 (0 : Int32)) t 2 (0 : Int32)) (t + 7) := Zf.mono hz12 (by omega)
  have es15 : (pre ++ skX7_11 t : Skel).set t (11, 0, [.int 0, .int 0, .int 0, .ref (t + 1), .ref (t + 2), .ref (t + 3), .ref (t + 4), .ref (t + 5), .ref (t + 6), .null, .null, .null, .null, .null, .null]) = pre ++ skX7_12 t := by rw [ap_set0 ht]; rfl
  have hsc15 : scs (t + 7) (pre ++ skX7_12 t) := scs_putR (b := t) (j := 8) (r := (t + 6)) hsc14 (by rw [ap_get0 ht]; rfl) (by omega) es15
  refine pr_X7_37 (pc := 64) hX14 hI (by rw [ap_get0 ht]; rfl) (Nat.le_of_ble_eq_true rfl) es15 dX7_init_64 ?_
  refine aw_aload_n (pc := 67) hX14 dX7_init_67 rfl 0 rfl ?_
  refine aw_bipush (v := (10 : Int32)) (pc := 68) hX14 dX7_init_68 (by decide) ?_
  have hsc16 : scs (t + 8) (pre ++ skX7_13 t) := scs_new hsc15 (by omega) (by simp) ap_push
  refine aw_newA' (pc := 70) hX14 (N0 := t + 7) (by rw [ap_len ht]; rfl) (sk' := pre ++ skX7_13 t) (at' := .int) (ty := .int) (kd := 0) (N := 10) rfl (by decide) kw_1_46 (by decide) (by decide) (by decide) hz14 hsc15 (scl_cons (scv_ref (Or.inl (by omega))) scl_nil) (scl_cons (scv_ref (Or.inl (by omega))) scl_nil) (by omega) (by omega) (by omega) dX7_init_70 ap_push (fun loc16 ag16 hX16 => ?_)
  have ag16' := ag14'.tr ag16 (by omega)
  have hz16 : Zf (sI (sI (sI S t 0 (0 : Int32)) t 1 (0 : Int32)) t 2 (0 : Int32)) (t + 8) := Zf.mono hz14 (by omega)
  have es17 : (pre ++ skX7_13 t : Skel).set t (11, 0, [.int 0, .int 0, .int 0, .ref (t + 1), .ref (t + 2), .ref (t + 3), .ref (t + 4), .ref (t + 5), .ref (t + 6), .ref (t + 7), .null, .null, .null, .null, .null]) = pre ++ skX7_14 t := by rw [ap_set0 ht]; rfl
  have hsc17 : scs (t + 8) (pre ++ skX7_14 t) := scs_putR (b := t) (j := 9) (r := (t + 7)) hsc16 (by rw [ap_get0 ht]; rfl) (by omega) es17
  refine pr_X7_40 (pc := 72) hX16 hI (by rw [ap_get0 ht]; rfl) (Nat.le_of_ble_eq_true rfl) es17 dX7_init_72 ?_
  refine aw_aload_n (pc := 75) hX16 dX7_init_75 rfl 0 rfl ?_
  refine aw_bipush (v := (10 : Int32)) (pc := 76) hX16 dX7_init_76 (by decide) ?_
  have hsc18 : scs (t + 9) (pre ++ skX7_15 t) := scs_new hsc17 (by omega) (by simp) ap_push
  refine aw_newA' (pc := 78) hX16 (N0 := t + 8) (by rw [ap_len ht]; rfl) (sk' := pre ++ skX7_15 t) (at' := .int) (ty := .int) (kd := 0) (N := 10) rfl (by decide) kw_1_46 (by decide) (by decide) (by decide) hz16 hsc17 (scl_cons (scv_ref (Or.inl (by omega))) scl_nil) (scl_cons (scv_ref (Or.inl (by omega))) scl_nil) (by omega) (by omega) (by omega) dX7_init_78 ap_push (fun loc18 ag18 hX18 => ?_)
  have ag18' := ag16'.tr ag18 (by omega)
  have hz18 : Zf (sI (sI (sI S t 0 (0 : Int32)) t 1 (0 : Int32)) t 2 (0 : Int32)) (t + 9) := Zf.mono hz16 (by omega)
  have es19 : (pre ++ skX7_15 t : Skel).set t (11, 0, [.int 0, .int 0, .int 0, .ref (t + 1), .ref (t + 2), .ref (t + 3), .ref (t + 4), .ref (t + 5), .ref (t + 6), .ref (t + 7), .ref (t + 8), .null, .null, .null, .null]) = pre ++ skX7_16 t := by rw [ap_set0 ht]; rfl
  have hsc19 : scs (t + 9) (pre ++ skX7_16 t) := scs_putR (b := t) (j := 10) (r := (t + 8)) hsc18 (by rw [ap_get0 ht]; rfl) (by omega) es19
  refine pr_X7_43 (pc := 80) hX18 hI (by rw [ap_get0 ht]; rfl) (Nat.le_of_ble_eq_true rfl) es19 dX7_init_80 ?_
  refine aw_aload_n (pc := 83) hX18 dX7_init_83 rfl 0 rfl ?_
  refine aw_iconst (v := (2 : Int32)) (pc := 84) hX18 dX7_init_84 (by decide) ?_
  have hsc20 : scs (t + 10) (pre ++ skX7_17 t) := scs_new hsc19 (by omega) (by simp) ap_push
  refine aw_newA' (pc := 85) hX18 (N0 := t + 9) (by rw [ap_len ht]; rfl) (sk' := pre ++ skX7_17 t) (at' := .int) (ty := .int) (kd := 0) (N := 2) rfl (by decide) kw_1_46 (by decide) (by decide) (by decide) hz18 hsc19 (scl_cons (scv_ref (Or.inl (by omega))) scl_nil) (scl_cons (scv_ref (Or.inl (by omega))) scl_nil) (by omega) (by omega) (by omega) dX7_init_85 ap_push (fun loc20 ag20 hX20 => ?_)
  have ag20' := ag18'.tr ag20 (by omega)
  have hz20 : Zf (sI (sI (sI S t 0 (0 : Int32)) t 1 (0 : Int32)) t 2 (0 : Int32)) (t + 10) := Zf.mono hz18 (by omega)
  have es21 : (pre ++ skX7_17 t : Skel).set t (11, 0, [.int 0, .int 0, .int 0, .ref (t + 1), .ref (t + 2), .ref (t + 3), .ref (t + 4), .ref (t + 5), .ref (t + 6), .ref (t + 7), .ref (t + 8), .ref (t + 9), .null, .null, .null]) = pre ++ skX7_18 t := by rw [ap_set0 ht]; rfl
  have hsc21 : scs (t + 10) (pre ++ skX7_18 t) := scs_putR (b := t) (j := 11) (r := (t + 9)) hsc20 (by rw [ap_get0 ht]; rfl) (by omega) es21
  refine pr_X7_46 (pc := 87) hX20 hI (by rw [ap_get0 ht]; rfl) (Nat.le_of_ble_eq_true rfl) es21 dX7_init_87 ?_
  refine aw_aload_n (pc := 90) hX20 dX7_init_90 rfl 0 rfl ?_
  refine aw_iconst (v := (4 : Int32)) (pc := 91) hX20 dX7_init_91 (by decide) ?_
  have hsc22 : scs (t + 11) (pre ++ skX7_19 t) := scs_new hsc21 (by omega) (by simp) ap_push
  refine aw_newA' (pc := 92) hX20 (N0 := t + 10) (by rw [ap_len ht]; rfl) (sk' := pre ++ skX7_19 t) (at' := .int) (ty := .int) (kd := 0) (N := 4) rfl (by decide) kw_1_46 (by decide) (by decide) (by decide) hz20 hsc21 (scl_cons (scv_ref (Or.inl (by omega))) scl_nil) (scl_cons (scv_ref (Or.inl (by omega))) scl_nil) (by omega) (by omega) (by omega) dX7_init_92 ap_push (fun loc22 ag22 hX22 => ?_)
  have ag22' := ag20'.tr ag22 (by omega)
  have hz22 : Zf (sI (sI (sI S t 0 (0 : Int32)) t 1 (0 : Int32)) t 2 (0 : Int32)) (t + 11) := Zf.mono hz20 (by omega)
  have es23 : (pre ++ skX7_19 t : Skel).set t (11, 0, [.int 0, .int 0, .int 0, .ref (t + 1), .ref (t + 2), .ref (t + 3), .ref (t + 4), .ref (t + 5), .ref (t + 6), .ref (t + 7), .ref (t + 8), .ref (t + 9), .ref (t + 10), .null, .null]) = pre ++ skX7_20 t := by rw [ap_set0 ht]; rfl
  have hsc23 : scs (t + 11) (pre ++ skX7_20 t) := scs_putR (b := t) (j := 12) (r := (t + 10)) hsc22 (by rw [ap_get0 ht]; rfl) (by omega) es23
  refine pr_X7_49 (pc := 94) hX22 hI (by rw [ap_get0 ht]; rfl) (Nat.le_of_ble_eq_true rfl) es23 dX7_init_94 ?_
  refine aw_aload_n (pc := 97) hX22 dX7_init_97 rfl 0 rfl ?_
  refine aw_iconst (v := (4 : Int32)) (pc := 98) hX22 dX7_init_98 (by decide) ?_
  have hsc24 : scs (t + 12) (pre ++ skX7_21 t) := scs_new hsc23 (by omega) (by simp) ap_push
  refine aw_newA' (pc := 99) hX22 (N0 := t + 11) (by rw [ap_len ht]; rfl) (sk' := pre ++ skX7_21 t) (at' := .boolean) (ty := .boolean) (kd := 1) (N := 4) rfl (by decide) kw_1_103 (by decide) (by decide) (by decide) hz22 hsc23 (scl_cons (scv_ref (Or.inl (by omega))) scl_nil) (scl_cons (scv_ref (Or.inl (by omega))) scl_nil) (by omega) (by omega) (by omega) dX7_init_99 ap_push (fun loc24 ag24 hX24 => ?_)
  have ag24' := ag22'.tr ag24 (by omega)
  have hz24 : Zf (sI (sI (sI S t 0 (0 : Int32)) t 1 (0 : Int32)) t 2 (0 : Int32)) (t + 12) := Zf.mono hz22 (by omega)
  have es25 : (pre ++ skX7_21 t : Skel).set t (11, 0, [.int 0, .int 0, .int 0, .ref (t + 1), .ref (t + 2), .ref (t + 3), .ref (t + 4), .ref (t + 5), .ref (t + 6), .ref (t + 7), .ref (t + 8), .ref (t + 9), .ref (t + 10), .ref (t + 11), .null]) = pre ++ skX7_22 t := by rw [ap_set0 ht]; rfl
  have hsc25 : scs (t + 12) (pre ++ skX7_22 t) := scs_putR (b := t) (j := 13) (r := (t + 11)) hsc24 (by rw [ap_get0 ht]; rfl) (by omega) es25
  refine pr_X7_52 (pc := 101) hX24 hI (by rw [ap_get0 ht]; rfl) (Nat.le_of_ble_eq_true rfl) es25 dX7_init_101 ?_
  refine aw_aload_n (pc := 104) hX24 dX7_init_104 rfl 0 rfl ?_
  refine aw_iconst (v := (3 : Int32)) (pc := 105) hX24 dX7_init_105 (by decide) ?_
  have hsc26 : scs (t + 13) (pre ++ skX7_23 t) := scs_new hsc25 (by omega) (by simp) ap_push
  refine aw_newQ' (pc := 106) hX24 (N0 := t + 12) (by rw [ap_len ht]; rfl) (sk' := pre ++ skX7_23 t) (N := 3) (vs := [.null, .null, .null]) kw_1_81 (by simp) (by decide) (by decide) (by decide) hsc25 (scl_cons (scv_ref (Or.inl (by omega))) scl_nil) (scl_cons (scv_ref (Or.inl (by omega))) scl_nil) (by omega) (by omega) (by omega) dX7_init_106 ap_push (fun loc26 ag26 hX26 => ?_)
  have ag26' := ag24'.tr ag26 (by omega)
  have hz26 : Zf (sI (sI (sI S t 0 (0 : Int32)) t 1 (0 : Int32)) t 2 (0 : Int32)) (t + 13) := Zf.mono hz24 (by omega)
  have es27 : (pre ++ skX7_23 t : Skel).set t (11, 0, [.int 0, .int 0, .int 0, .ref (t + 1), .ref (t + 2), .ref (t + 3), .ref (t + 4), .ref (t + 5), .ref (t + 6), .ref (t + 7), .ref (t + 8), .ref (t + 9), .ref (t + 10), .ref (t + 11), .ref (t + 12)]) = pre ++ skX7_24 t := by rw [ap_set0 ht]; rfl
  have hsc27 : scs (t + 13) (pre ++ skX7_24 t) := scs_putR (b := t) (j := 14) (r := (t + 12)) hsc26 (by rw [ap_get0 ht]; rfl) (by omega) es27
  refine pr_X7_58 (pc := 109) hX26 hI (by rw [ap_get0 ht]; rfl) (Nat.le_of_ble_eq_true rfl) es27 dX7_init_109 ?_
  refine aw_iconst (v := (0 : Int32)) (pc := 112) hX26 dX7_init_112 (by decide) ?_
  refine aw_istore_n (ls' := [(1, .int (0 : Int32)), (0, .ref t)]) (pc := 113) hX26 dX7_init_113 rfl (by decide) rfl ?_
  refine aw_iload_n (pc := 114) hX26 dX7_init_114 rfl 0 rfl ?_
  refine aw_iconst (v := (3 : Int32)) (pc := 115) hX26 dX7_init_115 (by decide) ?_
  refine aw_icmp_ge (pc := 116) hX26 (tgt := 138) dX7_init_116 (by decide) (fun c => absurd c (by decide)) (fun _ => ?_)
  refine aw_aload_n (pc := 119) hX26 dX7_init_119 rfl 1 rfl ?_
  refine gf_X7_58 (pc := 120) hX26 (by rw [ap_get0 ht]; rfl) rfl dX7_init_120 ?_
  refine aw_iload_n (pc := 123) hX26 dX7_init_123 rfl 0 rfl ?_
  have hsc28 : scs (t + 14) (pre ++ skX7_25 t) := scs_new hsc27 (by omega) (by simp) ap_push
  refine aw_newO' (pc := 124) hX26 (N0 := t + 13) (by rw [ap_len ht]; rfl) (sk' := pre ++ skX7_25 t) (ci := 1) (T := TX1) (N := 4) (ty := tyX1) (fs := [.int 0, .int 0, .null, .null]) rfl inGX1 tyX1_ok kw_1_81 kw_1_83 kw_1_6 (by decide) (fun _ _ => rfl) hz26 hsc27 (scl_cons scv_int (scl_cons (scv_ref (Or.inl (by omega))) scl_nil)) (scl_cons scv_int (scl_cons (scv_ref (Or.inl (by omega))) scl_nil)) (by omega) (by omega) (by omega) dX7_init_124 ap_push (fun loc28 ag28 hX28 => ?_)
  have ag28' := ag26'.tr ag28 (by omega)
  have hz28 : Zf (sI (sI (sI S t 0 (0 : Int32)) t 1 (0 : Int32)) t 2 (0 : Int32)) (t + 14) := Zf.mono hz26 (by omega)
  refine aw_dup (pc := 127) hX28 dX7_init_127 rfl ?_
  have es29a : (pre ++ skX7_24 t) ++ bl_X1_init = pre ++ skX7_25 t := by rw [List.append_assoc]; rfl
  have es29b : (pre ++ skX7_24 t) ++ fin_X1_init (t + 13) = pre ++ skX7_26 t := by rw [List.append_assoc]; rfl
  have hM29 := ci_X1_init (pre := pre ++ skX7_24 t) (t := t + 13) (S := (sI (sI (sI S t 0 (0 : Int32)) t 1 (0 : Int32)) t 2 (0 : Int32))) (by rw [ap_len ht]; rfl) hz28 (by rw [es29a]; exact hsc28) (by omega)
  rw [es29a, es29b] at hM29
  have hz29 : Zf (iS_X1_init (t + 13) (sI (sI (sI S t 0 (0 : Int32)) t 1 (0 : Int32)) t 2 (0 : Int32))) (t + 16) := Zf.mono (cz_X1_init (t := t + 13) hz28) (by omega)
  have hsc29 : scs (t + 16) (pre ++ skX7_26 t) := by have h := cs_X1_init (pre := pre ++ skX7_24 t) (t := t + 13) (by rw [ap_len ht]; rfl) (by rw [es29a]; exact hsc28); rw [es29b] at h; exact h
  refine aw_cI' (pc := 128) hX28 (N0 := t + 14) (by rw [ap_len ht]; rfl) (sk' := pre ++ skX7_26 t) (S' := (iS_X1_init (t + 13) (sI (sI (sI S t 0 (0 : Int32)) t 1 (0 : Int32)) t 2 (0 : Int32)))) (As := []) (rest := [.ref (t + 13), .int (0 : Int32), .ref (t + 12)]) hM29 ok_X1_init (Or.inl ⟨"DollTruce", by decide⟩) im_X1_init rfl rfl (by decide) (Nat.le_of_ble_eq_true rfl) rfl (scl_cons scv_int (scl_cons (scv_ref (Or.inl (by omega))) scl_nil)) (scl_cons (scv_ref (Or.inl (by omega))) (scl_cons scv_int (scl_cons (scv_ref (Or.inl (by omega))) scl_nil))) dX7_init_128 (by omega) (by omega) (fun loc29 ag29 hX29 => ?_)
  have ag29' := ag28'.tr ag29 (by omega)
  have es30 : (pre ++ skX7_26 t : Skel).set (t + 12) (3, 3, [.ref (t + 13), .null, .null]) = pre ++ skX7_27 t := by rw [ap_set ht]; rfl
  have hsc30 : scs (t + 16) (pre ++ skX7_27 t) := scs_putR (b := (t + 12)) (j := 0) (r := (t + 13)) hsc29 (by rw [ap_get ht]; rfl) (by omega) es30
  refine aw_aast (pc := 131) hX29 (by rw [ap_get ht]; rfl) (by rw [ap_get ht]; rfl) (by decide) (Nat.le_of_ble_eq_true rfl) es30 dX7_init_131 ?_
  refine aw_iinc (v := (1 : Int32)) (ls' := [(1, .int (1 : Int32)), (0, .ref t)]) (pc := 132) hX29 dX7_init_132 (pos := 0) rfl (by decide) (by decide) rfl ?_
  refine aw_goto (tgt := 114) (pc := 135) hX29 dX7_init_135 (by decide) ?_
  refine aw_iload_n (pc := 114) hX29 dX7_init_114 rfl 0 rfl ?_
  refine aw_iconst (v := (3 : Int32)) (pc := 115) hX29 dX7_init_115 (by decide) ?_
  refine aw_icmp_ge (pc := 116) hX29 (tgt := 138) dX7_init_116 (by decide) (fun c => absurd c (by decide)) (fun _ => ?_)
  refine aw_aload_n (pc := 119) hX29 dX7_init_119 rfl 1 rfl ?_
  refine gf_X7_58 (pc := 120) hX29 (by rw [ap_get0 ht]; rfl) rfl dX7_init_120 ?_
  refine aw_iload_n (pc := 123) hX29 dX7_init_123 rfl 0 rfl ?_
  have hsc31 : scs (t + 17) (pre ++ skX7_28 t) := scs_new hsc30 (by omega) (by simp) ap_push
  refine aw_newO' (pc := 124) hX29 (N0 := t + 16) (by rw [ap_len ht]; rfl) (sk' := pre ++ skX7_28 t) (ci := 1) (T := TX1) (N := 4) (ty := tyX1) (fs := [.int 0, .int 0, .null, .null]) rfl inGX1 tyX1_ok kw_1_81 kw_1_83 kw_1_6 (by decide) (fun _ _ => rfl) hz29 hsc30 (scl_cons scv_int (scl_cons (scv_ref (Or.inl (by omega))) scl_nil)) (scl_cons scv_int (scl_cons (scv_ref (Or.inl (by omega))) scl_nil)) (by omega) (by omega) (by omega) dX7_init_124 ap_push (fun loc31 ag31 hX31 => ?_)
  have ag31' := ag29'.tr ag31 (by omega)
  have hz31 : Zf (iS_X1_init (t + 13) (sI (sI (sI S t 0 (0 : Int32)) t 1 (0 : Int32)) t 2 (0 : Int32))) (t + 17) := Zf.mono hz29 (by omega)
  refine aw_dup (pc := 127) hX31 dX7_init_127 rfl ?_
  have es32a : (pre ++ skX7_27 t) ++ bl_X1_init = pre ++ skX7_28 t := by rw [List.append_assoc]; rfl
  have es32b : (pre ++ skX7_27 t) ++ fin_X1_init (t + 16) = pre ++ skX7_29 t := by rw [List.append_assoc]; rfl
  have hM32 := ci_X1_init (pre := pre ++ skX7_27 t) (t := t + 16) (S := (iS_X1_init (t + 13) (sI (sI (sI S t 0 (0 : Int32)) t 1 (0 : Int32)) t 2 (0 : Int32)))) (by rw [ap_len ht]; rfl) hz31 (by rw [es32a]; exact hsc31) (by omega)
  rw [es32a, es32b] at hM32
  have hz32 : Zf (iS_X1_init (t + 16) (iS_X1_init (t + 13) (sI (sI (sI S t 0 (0 : Int32)) t 1 (0 : Int32)) t 2 (0 : Int32)))) (t + 19) := Zf.mono (cz_X1_init (t := t + 16) hz31) (by omega)
  have hsc32 : scs (t + 19) (pre ++ skX7_29 t) := by have h := cs_X1_init (pre := pre ++ skX7_27 t) (t := t + 16) (by rw [ap_len ht]; rfl) (by rw [es32a]; exact hsc31); rw [es32b] at h; exact h
  refine aw_cI' (pc := 128) hX31 (N0 := t + 17) (by rw [ap_len ht]; rfl) (sk' := pre ++ skX7_29 t) (S' := (iS_X1_init (t + 16) (iS_X1_init (t + 13) (sI (sI (sI S t 0 (0 : Int32)) t 1 (0 : Int32)) t 2 (0 : Int32))))) (As := []) (rest := [.ref (t + 16), .int (1 : Int32), .ref (t + 12)]) hM32 ok_X1_init (Or.inl ⟨"DollTruce", by decide⟩) im_X1_init rfl rfl (by decide) (Nat.le_of_ble_eq_true rfl) rfl (scl_cons scv_int (scl_cons (scv_ref (Or.inl (by omega))) scl_nil)) (scl_cons (scv_ref (Or.inl (by omega))) (scl_cons scv_int (scl_cons (scv_ref (Or.inl (by omega))) scl_nil))) dX7_init_128 (by omega) (by omega) (fun loc32 ag32 hX32 => ?_)
  have ag32' := ag31'.tr ag32 (by omega)
  have es33 : (pre ++ skX7_29 t : Skel).set (t + 12) (3, 3, [.ref (t + 13), .ref (t + 16), .null]) = pre ++ skX7_30 t := by rw [ap_set ht]; rfl
  have hsc33 : scs (t + 19) (pre ++ skX7_30 t) := scs_putR (b := (t + 12)) (j := 1) (r := (t + 16)) hsc32 (by rw [ap_get ht]; rfl) (by omega) es33
  refine aw_aast (pc := 131) hX32 (by rw [ap_get ht]; rfl) (by rw [ap_get ht]; rfl) (by decide) (Nat.le_of_ble_eq_true rfl) es33 dX7_init_131 ?_
  refine aw_iinc (v := (2 : Int32)) (ls' := [(1, .int (2 : Int32)), (0, .ref t)]) (pc := 132) hX32 dX7_init_132 (pos := 0) rfl (by decide) (by decide) rfl ?_
  refine aw_goto (tgt := 114) (pc := 135) hX32 dX7_init_135 (by decide) ?_
  refine aw_iload_n (pc := 114) hX32 dX7_init_114 rfl 0 rfl ?_
  refine aw_iconst (v := (3 : Int32)) (pc := 115) hX32 dX7_init_115 (by decide) ?_
  refine aw_icmp_ge (pc := 116) hX32 (tgt := 138) dX7_init_116 (by decide) (fun c => absurd c (by decide)) (fun _ => ?_)
  refine aw_aload_n (pc := 119) hX32 dX7_init_119 rfl 1 rfl ?_
  refine gf_X7_58 (pc := 120) hX32 (by rw [ap_get0 ht]; rfl) rfl dX7_init_120 ?_
  refine aw_iload_n (pc := 123) hX32 dX7_init_123 rfl 0 rfl ?_
  have hsc34 : scs (t + 20) (pre ++ skX7_31 t) := scs_new hsc33 (by omega) (by simp) ap_push
  refine aw_newO' (pc := 124) hX32 (N0 := t + 19) (by rw [ap_len ht]; rfl) (sk' := pre ++ skX7_31 t) (ci := 1) (T := TX1) (N := 4) (ty := tyX1) (fs := [.int 0, .int 0, .null, .null]) rfl inGX1 tyX1_ok kw_1_81 kw_1_83 kw_1_6 (by decide) (fun _ _ => rfl) hz32 hsc33 (scl_cons scv_int (scl_cons (scv_ref (Or.inl (by omega))) scl_nil)) (scl_cons scv_int (scl_cons (scv_ref (Or.inl (by omega))) scl_nil)) (by omega) (by omega) (by omega) dX7_init_124 ap_push (fun loc34 ag34 hX34 => ?_)
  have ag34' := ag32'.tr ag34 (by omega)
  have hz34 : Zf (iS_X1_init (t + 16) (iS_X1_init (t + 13) (sI (sI (sI S t 0 (0 : Int32)) t 1 (0 : Int32)) t 2 (0 : Int32)))) (t + 20) := Zf.mono hz32 (by omega)
  refine aw_dup (pc := 127) hX34 dX7_init_127 rfl ?_
  have es35a : (pre ++ skX7_30 t) ++ bl_X1_init = pre ++ skX7_31 t := by rw [List.append_assoc]; rfl
  have es35b : (pre ++ skX7_30 t) ++ fin_X1_init (t + 19) = pre ++ skX7_32 t := by rw [List.append_assoc]; rfl
  have hM35 := ci_X1_init (pre := pre ++ skX7_30 t) (t := t + 19) (S := (iS_X1_init (t + 16) (iS_X1_init (t + 13) (sI (sI (sI S t 0 (0 : Int32)) t 1 (0 : Int32)) t 2 (0 : Int32))))) (by rw [ap_len ht]; rfl) hz34 (by rw [es35a]; exact hsc34) (by omega)
  rw [es35a, es35b] at hM35
  have hz35 : Zf (iS_X1_init (t + 19) (iS_X1_init (t + 16) (iS_X1_init (t + 13) (sI (sI (sI S t 0 (0 : Int32)) t 1 (0 : Int32)) t 2 (0 : Int32))))) (t + 22) := Zf.mono (cz_X1_init (t := t + 19) hz34) (by omega)
  have hsc35 : scs (t + 22) (pre ++ skX7_32 t) := by have h := cs_X1_init (pre := pre ++ skX7_30 t) (t := t + 19) (by rw [ap_len ht]; rfl) (by rw [es35a]; exact hsc34); rw [es35b] at h; exact h
  refine aw_cI' (pc := 128) hX34 (N0 := t + 20) (by rw [ap_len ht]; rfl) (sk' := pre ++ skX7_32 t) (S' := (iS_X1_init (t + 19) (iS_X1_init (t + 16) (iS_X1_init (t + 13) (sI (sI (sI S t 0 (0 : Int32)) t 1 (0 : Int32)) t 2 (0 : Int32)))))) (As := []) (rest := [.ref (t + 19), .int (2 : Int32), .ref (t + 12)]) hM35 ok_X1_init (Or.inl ⟨"DollTruce", by decide⟩) im_X1_init rfl rfl (by decide) (Nat.le_of_ble_eq_true rfl) rfl (scl_cons scv_int (scl_cons (scv_ref (Or.inl (by omega))) scl_nil)) (scl_cons (scv_ref (Or.inl (by omega))) (scl_cons scv_int (scl_cons (scv_ref (Or.inl (by omega))) scl_nil))) dX7_init_128 (by omega) (by omega) (fun loc35 ag35 hX35 => ?_)
  have ag35' := ag34'.tr ag35 (by omega)
  have es36 : (pre ++ skX7_32 t : Skel).set (t + 12) (3, 3, [.ref (t + 13), .ref (t + 16), .ref (t + 19)]) = pre ++ skX7_33 t := by rw [ap_set ht]; rfl
  have hsc36 : scs (t + 22) (pre ++ skX7_33 t) := scs_putR (b := (t + 12)) (j := 2) (r := (t + 19)) hsc35 (by rw [ap_get ht]; rfl) (by omega) es36
  refine aw_aast (pc := 131) hX35 (by rw [ap_get ht]; rfl) (by rw [ap_get ht]; rfl) (by decide) (Nat.le_of_ble_eq_true rfl) es36 dX7_init_131 ?_
  refine aw_iinc (v := (3 : Int32)) (ls' := [(1, .int (3 : Int32)), (0, .ref t)]) (pc := 132) hX35 dX7_init_132 (pos := 0) rfl (by decide) (by decide) rfl ?_
  refine aw_goto (tgt := 114) (pc := 135) hX35 dX7_init_135 (by decide) ?_
  refine aw_iload_n (pc := 114) hX35 dX7_init_114 rfl 0 rfl ?_
  refine aw_iconst (v := (3 : Int32)) (pc := 115) hX35 dX7_init_115 (by decide) ?_
  refine aw_icmp_ge (pc := 116) hX35 (tgt := 138) dX7_init_116 (by decide) (fun _ => ?_) (fun c => absurd (by decide) c)
  refine aw_aload_n (pc := 138) hX35 dX7_init_138 rfl 1 rfl ?_
  have hsh : IsT (pre ++ skX7_33 t) t := by refine ⟨?_, ?_, ?_, ?_, ?_, ?_, ?_, ?_, ?_, ?_, ?_, ?_, ?_, ⟨?_, ?_, ?_⟩, ⟨?_, ?_, ?_⟩, ⟨?_, ?_, ?_⟩⟩ <;> first | (rw [ap_get0 ht]; rfl) | (rw [ap_get ht]; rfl) | (simp only [Nat.add_assoc, Nat.reduceAdd]; rw [ap_get ht]; rfl)
  have hz37 : Zf (clrS t (iS_X1_init (t + 19) (iS_X1_init (t + 16) (iS_X1_init (t + 13) (sI (sI (sI S t 0 (0 : Int32)) t 1 (0 : Int32)) t 2 (0 : Int32)))))) (t + 22) := clr_zf (Zf.mono hz35 (by omega)) (by omega)
  refine aw_cVV (pc := 139) hX35 (As := []) (rest := []) (c_X7_clear (sk := pre ++ skX7_33 t) hsh (clr_eq _ _)) ok_X7_clear kw_1_105 im_X7_clear se_X7_clear rfl hsh.1 rfl (by decide) (by decide) rfl dX7_init_139 (by omega) (by omega) ?_
  exact aw_vretC hX35 hQ ag35' rfl rfl dX7_init_142
