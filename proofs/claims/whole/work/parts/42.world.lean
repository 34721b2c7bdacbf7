def wALL (D : va_G) (q : Nat → Nat) (A I : Nat → Nat → Int32) : va_W := [(q 0, .inr (8, [.ref (q 1), .ref (q 7), .ref (q 13), .int (I 0 3), .ref (q 19), .ref (q 29), .ref (q 46), .ref (q 49), .ref (q 53), .ref (q 57), .ref (q 61), .ref (q 63), .int (I 0 12), .ref (q 64)])), (q 1, .inr (6, [.ref (q 2), .ref (q 3), .ref (q 4), .ref (q 5), .ref (q 6), .int (I 1 5), .int (I 1 6), .int (I 1 7)])), (q 2, .inl (D.1 100, 8, .inl (A 2))), (q 3, .inl (D.1 100, 8, .inl (A 3))), (q 4, .inl (D.1 100, 8, .inl (A 4))), (q 5, .inl (D.1 100, 8, .inl (A 5))), (q 6, .inl (D.1 100, 8, .inl (A 6))), (q 7, .inr (6, [.ref (q 8), .ref (q 9), .ref (q 10), .ref (q 11), .ref (q 12), .int (I 7 5), .int (I 7 6), .int (I 7 7)])), (q 8, .inl (D.1 100, 8, .inl (A 8))), (q 9, .inl (D.1 100, 8, .inl (A 9))), (q 10, .inl (D.1 100, 8, .inl (A 10))), (q 11, .inl (D.1 100, 8, .inl (A 11))), (q 12, .inl (D.1 100, 8, .inl (A 12))), (q 13, .inr (6, [.ref (q 14), .ref (q 15), .ref (q 16), .ref (q 17), .ref (q 18), .int (I 13 5), .int (I 13 6), .int (I 13 7)])), (q 14, .inl (D.1 100, 8, .inl (A 14))), (q 15, .inl (D.1 100, 8, .inl (A 15))), (q 16, .inl (D.1 100, 8, .inl (A 16))), (q 17, .inl (D.1 100, 8, .inl (A 17))), (q 18, .inl (D.1 100, 8, .inl (A 18))), (q 19, .inr (7, [.ref (q 20), .ref (q 26), .ref (q 27), .ref (q 28)])), (q 20, .inr (6, [.ref (q 21), .ref (q 22), .ref (q 23), .ref (q 24), .ref (q 25), .int (I 20 5), .int (I 20 6), .int (I 20 7)])), (q 21, .inl (D.1 100, 8, .inl (A 21))), (q 22, .inl (D.1 100, 8, .inl (A 22))), (q 23, .inl (D.1 100, 8, .inl (A 23))), (q 24, .inl (D.1 100, 8, .inl (A 24))), (q 25, .inl (D.1 100, 8, .inl (A 25))), (q 26, .inl (D.1 100, 8, .inl (A 26))), (q 27, .inl (D.1 100, 8, .inl (A 27))), (q 28, .inl (D.1 100, 36, .inl (A 28))), (q 29, .inr (5, [.ref (q 30), .ref (q 40), .ref (q 41), .int (I 29 3), .int (I 29 4), .int (I 29 5), .ref (q 42), .ref (q 43), .ref (q 44), .ref (q 45)])), (q 30, .inr (7, [.ref (q 31), .ref (q 37), .ref (q 38), .ref (q 39)])), (q 31, .inr (6, [.ref (q 32), .ref (q 33), .ref (q 34), .ref (q 35), .ref (q 36), .int (I 31 5), .int (I 31 6), .int (I 31 7)])), (q 32, .inl (D.1 100, 8, .inl (A 32))), (q 33, .inl (D.1 100, 8, .inl (A 33))), (q 34, .inl (D.1 100, 8, .inl (A 34))), (q 35, .inl (D.1 100, 8, .inl (A 35))), (q 36, .inl (D.1 100, 8, .inl (A 36))), (q 37, .inl (D.1 100, 8, .inl (A 37))), (q 38, .inl (D.1 100, 8, .inl (A 38))), (q 39, .inl (D.1 100, 36, .inl (A 39))), (q 40, .inl (D.1 100, 1536, .inl (A 40))), (q 41, .inl (D.1 100, 6, .inl (A 41))), (q 42, .inl (D.1 100, 64, .inl (A 42))), (q 43, .inl (D.1 100, 65, .inl (A 43))), (q 44, .inl (D.1 100, 64, .inl (A 44))), (q 45, .inl (D.1 101, 64, .inl (A 45))), (q 46, .inr (2, [.ref (q 47), .ref (q 48), .int (I 46 2)])), (q 47, .inl (D.1 100, 6, .inl (A 47))), (q 48, .inl (D.1 100, 6, .inl (A 48))), (q 49, .inr (4, [.ref (q 50), .ref (q 51), .int (I 49 2), .ref (q 52), .int (I 49 4)])), (q 50, .inl (D.1 100, 8, .inl (A 50))), (q 51, .inl (D.1 100, 32, .inl (A 51))), (q 52, .inl (D.1 100, 32, .inl (A 52))), (q 53, .inr (1, [.ref (q 54), .ref (q 55), .ref (q 56)])), (q 54, .inl (D.1 100, 8, .inl (A 54))), (q 55, .inl (D.1 100, 8, .inl (A 55))), (q 56, .inl (D.1 100, 256, .inl (A 56))), (q 57, .inr (0, [.ref (q 58), .ref (q 59), .int (I 57 2), .ref (q 60), .int (I 57 4), .int (I 57 5), .int (I 57 6), .int (I 57 7)])), (q 58, .inl (D.1 100, 3, .inl (A 58))), (q 59, .inl (D.1 100, 8, .inl (A 59))), (q 60, .inl (D.1 100, 8, .inl (A 60))), (q 61, .inr (3, [.ref (q 62), .int (I 61 1), .int (I 61 2)])), (q 62, .inl (D.1 100, 96, .inl (A 62))), (q 63, .inl (D.1 100, 32, .inl (A 63))), (q 64, .inl (D.1 100, 7, .inl (A 64))), (q 65, .inr (9, [.ref (q 66), .ref (q 67), .ref (q 68), .int (I 65 3), .ref (q 69), .ref (q 70), .int (I 65 6), .ref (q 71), .int (I 65 8), .ref (q 72), .ref (q 73), .ref (q 74), .int (I 65 12), .ref (q 75), .ref (q 76), .ref (q 77), .int (I 65 16), .ref (q 78), .ref (q 79), .ref (q 80), .ref (q 81), .ref (q 82), .ref (q 83), .int (I 65 23), .int (I 65 24), .int (I 65 25)])), (q 66, .inl (D.1 100, 50, .inl (A 66))), (q 67, .inl (D.1 100, 50, .inl (A 67))), (q 68, .inl (D.1 100, 50, .inl (A 68))), (q 69, .inl (D.1 100, 7, .inl (A 69))), (q 70, .inl (D.1 100, 32, .inl (A 70))), (q 71, .inl (D.1 100, 96, .inl (A 71))), (q 72, .inl (D.1 100, 36, .inl (A 72))), (q 73, .inl (D.1 100, 1536, .inl (A 73))), (q 74, .inl (D.1 100, 64, .inl (A 74))), (q 75, .inl (D.1 100, 6, .inl (A 75))), (q 76, .inl (D.1 100, 8, .inl (A 76))), (q 77, .inl (D.1 100, 26, .inl (A 77))), (q 78, .inl (D.1 100, 26, .inl (A 78))), (q 79, .inl (D.1 100, 6, .inl (A 79))), (q 80, .inl (D.1 100, 256, .inl (A 80))), (q 81, .inl (D.1 100, 3, .inl (A 81))), (q 82, .inl (D.1 100, 8, .inl (A 82))), (q 83, .inl (D.1 100, 8, .inl (A 83)))]
def aput (A : Nat → Nat → Int32) (k : Nat) (f : Nat → Int32) : Nat → Nat → Int32 := fun j => if j = k then f else A j
theorem aput_eq (A : Nat → Nat → Int32) (k : Nat) (f : Nat → Int32) : aput A k f k = f := if_pos rfl
theorem aput_ne (A : Nat → Nat → Int32) {k j : Nat} (f : Nat → Int32) (h : j ≠ k) : aput A k f j = A j := if_neg h
theorem wA_g0 {D : va_G} {q : Nat → Nat} {A I : Nat → Nat → Int32} : (wALL D q A I)[0]? = some (q 0, .inr (8, [.ref (q 1), .ref (q 7), .ref (q 13), .int (I 0 3), .ref (q 19), .ref (q 29), .ref (q 46), .ref (q 49), .ref (q 53), .ref (q 57), .ref (q 61), .ref (q 63), .int (I 0 12), .ref (q 64)])) := rfl
theorem wA_s0 {D : va_G} {q : Nat → Nat} {A I : Nat → Nat → Int32} {v3 v12 : Int32} : (wALL D q A I).set 0 (q 0, .inr (8, [.ref (q 1), .ref (q 7), .ref (q 13), .int v3, .ref (q 19), .ref (q 29), .ref (q 46), .ref (q 49), .ref (q 53), .ref (q 57), .ref (q 61), .ref (q 63), .int v12, .ref (q 64)])) = wALL D q A (aput I 0 (fun k => if k = 3 then v3 else if k = 12 then v12 else 0)) := rfl
theorem wA_g1 {D : va_G} {q : Nat → Nat} {A I : Nat → Nat → Int32} : (wALL D q A I)[1]? = some (q 1, .inr (6, [.ref (q 2), .ref (q 3), .ref (q 4), .ref (q 5), .ref (q 6), .int (I 1 5), .int (I 1 6), .int (I 1 7)])) := rfl
theorem wA_s1 {D : va_G} {q : Nat → Nat} {A I : Nat → Nat → Int32} {v5 v6 v7 : Int32} : (wALL D q A I).set 1 (q 1, .inr (6, [.ref (q 2), .ref (q 3), .ref (q 4), .ref (q 5), .ref (q 6), .int v5, .int v6, .int v7])) = wALL D q A (aput I 1 (fun k => if k = 5 then v5 else if k = 6 then v6 else if k = 7 then v7 else 0)) := rfl
theorem wA_g2 {D : va_G} {q : Nat → Nat} {A I : Nat → Nat → Int32} : (wALL D q A I)[2]? = some (q 2, .inl (D.1 100, 8, .inl (A 2))) := rfl
theorem wA_s2 {D : va_G} {q : Nat → Nat} {A I : Nat → Nat → Int32} {f : Nat → Int32} : (wALL D q A I).set 2 (q 2, .inl (D.1 100, 8, .inl f)) = wALL D q (aput A 2 f) I := rfl
theorem wA_g3 {D : va_G} {q : Nat → Nat} {A I : Nat → Nat → Int32} : (wALL D q A I)[3]? = some (q 3, .inl (D.1 100, 8, .inl (A 3))) := rfl
theorem wA_s3 {D : va_G} {q : Nat → Nat} {A I : Nat → Nat → Int32} {f : Nat → Int32} : (wALL D q A I).set 3 (q 3, .inl (D.1 100, 8, .inl f)) = wALL D q (aput A 3 f) I := rfl
theorem wA_g4 {D : va_G} {q : Nat → Nat} {A I : Nat → Nat → Int32} : (wALL D q A I)[4]? = some (q 4, .inl (D.1 100, 8, .inl (A 4))) := rfl
theorem wA_s4 {D : va_G} {q : Nat → Nat} {A I : Nat → Nat → Int32} {f : Nat → Int32} : (wALL D q A I).set 4 (q 4, .inl (D.1 100, 8, .inl f)) = wALL D q (aput A 4 f) I := rfl
theorem wA_g5 {D : va_G} {q : Nat → Nat} {A I : Nat → Nat → Int32} : (wALL D q A I)[5]? = some (q 5, .inl (D.1 100, 8, .inl (A 5))) := rfl
theorem wA_s5 {D : va_G} {q : Nat → Nat} {A I : Nat → Nat → Int32} {f : Nat → Int32} : (wALL D q A I).set 5 (q 5, .inl (D.1 100, 8, .inl f)) = wALL D q (aput A 5 f) I := rfl
theorem wA_g6 {D : va_G} {q : Nat → Nat} {A I : Nat → Nat → Int32} : (wALL D q A I)[6]? = some (q 6, .inl (D.1 100, 8, .inl (A 6))) := rfl
theorem wA_s6 {D : va_G} {q : Nat → Nat} {A I : Nat → Nat → Int32} {f : Nat → Int32} : (wALL D q A I).set 6 (q 6, .inl (D.1 100, 8, .inl f)) = wALL D q (aput A 6 f) I := rfl
theorem wA_g7 {D : va_G} {q : Nat → Nat} {A I : Nat → Nat → Int32} : (wALL D q A I)[7]? = some (q 7, .inr (6, [.ref (q 8), .ref (q 9), .ref (q 10), .ref (q 11), .ref (q 12), .int (I 7 5), .int (I 7 6), .int (I 7 7)])) := rfl
theorem wA_s7 {D : va_G} {q : Nat → Nat} {A I : Nat → Nat → Int32} {v5 v6 v7 : Int32} : (wALL D q A I).set 7 (q 7, .inr (6, [.ref (q 8), .ref (q 9), .ref (q 10), .ref (q 11), .ref (q 12), .int v5, .int v6, .int v7])) = wALL D q A (aput I 7 (fun k => if k = 5 then v5 else if k = 6 then v6 else if k = 7 then v7 else 0)) := rfl
theorem wA_g8 {D : va_G} {q : Nat → Nat} {A I : Nat → Nat → Int32} : (wALL D q A I)[8]? = some (q 8, .inl (D.1 100, 8, .inl (A 8))) := rfl
theorem wA_s8 {D : va_G} {q : Nat → Nat} {A I : Nat → Nat → Int32} {f : Nat → Int32} : (wALL D q A I).set 8 (q 8, .inl (D.1 100, 8, .inl f)) = wALL D q (aput A 8 f) I := rfl
theorem wA_g9 {D : va_G} {q : Nat → Nat} {A I : Nat → Nat → Int32} : (wALL D q A I)[9]? = some (q 9, .inl (D.1 100, 8, .inl (A 9))) := rfl
theorem wA_s9 {D : va_G} {q : Nat → Nat} {A I : Nat → Nat → Int32} {f : Nat → Int32} : (wALL D q A I).set 9 (q 9, .inl (D.1 100, 8, .inl f)) = wALL D q (aput A 9 f) I := rfl
theorem wA_g10 {D : va_G} {q : Nat → Nat} {A I : Nat → Nat → Int32} : (wALL D q A I)[10]? = some (q 10, .inl (D.1 100, 8, .inl (A 10))) := rfl
theorem wA_s10 {D : va_G} {q : Nat → Nat} {A I : Nat → Nat → Int32} {f : Nat → Int32} : (wALL D q A I).set 10 (q 10, .inl (D.1 100, 8, .inl f)) = wALL D q (aput A 10 f) I := rfl
theorem wA_g11 {D : va_G} {q : Nat → Nat} {A I : Nat → Nat → Int32} : (wALL D q A I)[11]? = some (q 11, .inl (D.1 100, 8, .inl (A 11))) := rfl
theorem wA_s11 {D : va_G} {q : Nat → Nat} {A I : Nat → Nat → Int32} {f : Nat → Int32} : (wALL D q A I).set 11 (q 11, .inl (D.1 100, 8, .inl f)) = wALL D q (aput A 11 f) I := rfl
theorem wA_g12 {D : va_G} {q : Nat → Nat} {A I : Nat → Nat → Int32} : (wALL D q A I)[12]? = some (q 12, .inl (D.1 100, 8, .inl (A 12))) := rfl
theorem wA_s12 {D : va_G} {q : Nat → Nat} {A I : Nat → Nat → Int32} {f : Nat → Int32} : (wALL D q A I).set 12 (q 12, .inl (D.1 100, 8, .inl f)) = wALL D q (aput A 12 f) I := rfl
theorem wA_g13 {D : va_G} {q : Nat → Nat} {A I : Nat → Nat → Int32} : (wALL D q A I)[13]? = some (q 13, .inr (6, [.ref (q 14), .ref (q 15), .ref (q 16), .ref (q 17), .ref (q 18), .int (I 13 5), .int (I 13 6), .int (I 13 7)])) := rfl
theorem wA_s13 {D : va_G} {q : Nat → Nat} {A I : Nat → Nat → Int32} {v5 v6 v7 : Int32} : (wALL D q A I).set 13 (q 13, .inr (6, [.ref (q 14), .ref (q 15), .ref (q 16), .ref (q 17), .ref (q 18), .int v5, .int v6, .int v7])) = wALL D q A (aput I 13 (fun k => if k = 5 then v5 else if k = 6 then v6 else if k = 7 then v7 else 0)) := rfl
theorem wA_g14 {D : va_G} {q : Nat → Nat} {A I : Nat → Nat → Int32} : (wALL D q A I)[14]? = some (q 14, .inl (D.1 100, 8, .inl (A 14))) := rfl
theorem wA_s14 {D : va_G} {q : Nat → Nat} {A I : Nat → Nat → Int32} {f : Nat → Int32} : (wALL D q A I).set 14 (q 14, .inl (D.1 100, 8, .inl f)) = wALL D q (aput A 14 f) I := rfl
theorem wA_g15 {D : va_G} {q : Nat → Nat} {A I : Nat → Nat → Int32} : (wALL D q A I)[15]? = some (q 15, .inl (D.1 100, 8, .inl (A 15))) := rfl
theorem wA_s15 {D : va_G} {q : Nat → Nat} {A I : Nat → Nat → Int32} {f : Nat → Int32} : (wALL D q A I).set 15 (q 15, .inl (D.1 100, 8, .inl f)) = wALL D q (aput A 15 f) I := rfl
theorem wA_g16 {D : va_G} {q : Nat → Nat} {A I : Nat → Nat → Int32} : (wALL D q A I)[16]? = some (q 16, .inl (D.1 100, 8, .inl (A 16))) := rfl
theorem wA_s16 {D : va_G} {q : Nat → Nat} {A I : Nat → Nat → Int32} {f : Nat → Int32} : (wALL D q A I).set 16 (q 16, .inl (D.1 100, 8, .inl f)) = wALL D q (aput A 16 f) I := rfl
theorem wA_g17 {D : va_G} {q : Nat → Nat} {A I : Nat → Nat → Int32} : (wALL D q A I)[17]? = some (q 17, .inl (D.1 100, 8, .inl (A 17))) := rfl
theorem wA_s17 {D : va_G} {q : Nat → Nat} {A I : Nat → Nat → Int32} {f : Nat → Int32} : (wALL D q A I).set 17 (q 17, .inl (D.1 100, 8, .inl f)) = wALL D q (aput A 17 f) I := rfl
theorem wA_g18 {D : va_G} {q : Nat → Nat} {A I : Nat → Nat → Int32} : (wALL D q A I)[18]? = some (q 18, .inl (D.1 100, 8, .inl (A 18))) := rfl
theorem wA_s18 {D : va_G} {q : Nat → Nat} {A I : Nat → Nat → Int32} {f : Nat → Int32} : (wALL D q A I).set 18 (q 18, .inl (D.1 100, 8, .inl f)) = wALL D q (aput A 18 f) I := rfl
theorem wA_g19 {D : va_G} {q : Nat → Nat} {A I : Nat → Nat → Int32} : (wALL D q A I)[19]? = some (q 19, .inr (7, [.ref (q 20), .ref (q 26), .ref (q 27), .ref (q 28)])) := rfl
theorem wA_s19 {D : va_G} {q : Nat → Nat} {A I : Nat → Nat → Int32} : (wALL D q A I).set 19 (q 19, .inr (7, [.ref (q 20), .ref (q 26), .ref (q 27), .ref (q 28)])) = wALL D q A I := rfl
theorem wA_g20 {D : va_G} {q : Nat → Nat} {A I : Nat → Nat → Int32} : (wALL D q A I)[20]? = some (q 20, .inr (6, [.ref (q 21), .ref (q 22), .ref (q 23), .ref (q 24), .ref (q 25), .int (I 20 5), .int (I 20 6), .int (I 20 7)])) := rfl
theorem wA_s20 {D : va_G} {q : Nat → Nat} {A I : Nat → Nat → Int32} {v5 v6 v7 : Int32} : (wALL D q A I).set 20 (q 20, .inr (6, [.ref (q 21), .ref (q 22), .ref (q 23), .ref (q 24), .ref (q 25), .int v5, .int v6, .int v7])) = wALL D q A (aput I 20 (fun k => if k = 5 then v5 else if k = 6 then v6 else if k = 7 then v7 else 0)) := rfl
theorem wA_g21 {D : va_G} {q : Nat → Nat} {A I : Nat → Nat → Int32} : (wALL D q A I)[21]? = some (q 21, .inl (D.1 100, 8, .inl (A 21))) := rfl
theorem wA_s21 {D : va_G} {q : Nat → Nat} {A I : Nat → Nat → Int32} {f : Nat → Int32} : (wALL D q A I).set 21 (q 21, .inl (D.1 100, 8, .inl f)) = wALL D q (aput A 21 f) I := rfl
theorem wA_g22 {D : va_G} {q : Nat → Nat} {A I : Nat → Nat → Int32} : (wALL D q A I)[22]? = some (q 22, .inl (D.1 100, 8, .inl (A 22))) := rfl
theorem wA_s22 {D : va_G} {q : Nat → Nat} {A I : Nat → Nat → Int32} {f : Nat → Int32} : (wALL D q A I).set 22 (q 22, .inl (D.1 100, 8, .inl f)) = wALL D q (aput A 22 f) I := rfl
theorem wA_g23 {D : va_G} {q : Nat → Nat} {A I : Nat → Nat → Int32} : (wALL D q A I)[23]? = some (q 23, .inl (D.1 100, 8, .inl (A 23))) := rfl
theorem wA_s23 {D : va_G} {q : Nat → Nat} {A I : Nat → Nat → Int32} {f : Nat → Int32} : (wALL D q A I).set 23 (q 23, .inl (D.1 100, 8, .inl f)) = wALL D q (aput A 23 f) I := rfl
theorem wA_g24 {D : va_G} {q : Nat → Nat} {A I : Nat → Nat → Int32} : (wALL D q A I)[24]? = some (q 24, .inl (D.1 100, 8, .inl (A 24))) := rfl
theorem wA_s24 {D : va_G} {q : Nat → Nat} {A I : Nat → Nat → Int32} {f : Nat → Int32} : (wALL D q A I).set 24 (q 24, .inl (D.1 100, 8, .inl f)) = wALL D q (aput A 24 f) I := rfl
theorem wA_g25 {D : va_G} {q : Nat → Nat} {A I : Nat → Nat → Int32} : (wALL D q A I)[25]? = some (q 25, .inl (D.1 100, 8, .inl (A 25))) := rfl
theorem wA_s25 {D : va_G} {q : Nat → Nat} {A I : Nat → Nat → Int32} {f : Nat → Int32} : (wALL D q A I).set 25 (q 25, .inl (D.1 100, 8, .inl f)) = wALL D q (aput A 25 f) I := rfl
theorem wA_g26 {D : va_G} {q : Nat → Nat} {A I : Nat → Nat → Int32} : (wALL D q A I)[26]? = some (q 26, .inl (D.1 100, 8, .inl (A 26))) := rfl
theorem wA_s26 {D : va_G} {q : Nat → Nat} {A I : Nat → Nat → Int32} {f : Nat → Int32} : (wALL D q A I).set 26 (q 26, .inl (D.1 100, 8, .inl f)) = wALL D q (aput A 26 f) I := rfl
theorem wA_g27 {D : va_G} {q : Nat → Nat} {A I : Nat → Nat → Int32} : (wALL D q A I)[27]? = some (q 27, .inl (D.1 100, 8, .inl (A 27))) := rfl
theorem wA_s27 {D : va_G} {q : Nat → Nat} {A I : Nat → Nat → Int32} {f : Nat → Int32} : (wALL D q A I).set 27 (q 27, .inl (D.1 100, 8, .inl f)) = wALL D q (aput A 27 f) I := rfl
theorem wA_g28 {D : va_G} {q : Nat → Nat} {A I : Nat → Nat → Int32} : (wALL D q A I)[28]? = some (q 28, .inl (D.1 100, 36, .inl (A 28))) := rfl
theorem wA_s28 {D : va_G} {q : Nat → Nat} {A I : Nat → Nat → Int32} {f : Nat → Int32} : (wALL D q A I).set 28 (q 28, .inl (D.1 100, 36, .inl f)) = wALL D q (aput A 28 f) I := rfl
theorem wA_g29 {D : va_G} {q : Nat → Nat} {A I : Nat → Nat → Int32} : (wALL D q A I)[29]? = some (q 29, .inr (5, [.ref (q 30), .ref (q 40), .ref (q 41), .int (I 29 3), .int (I 29 4), .int (I 29 5), .ref (q 42), .ref (q 43), .ref (q 44), .ref (q 45)])) := rfl
theorem wA_s29 {D : va_G} {q : Nat → Nat} {A I : Nat → Nat → Int32} {v3 v4 v5 : Int32} : (wALL D q A I).set 29 (q 29, .inr (5, [.ref (q 30), .ref (q 40), .ref (q 41), .int v3, .int v4, .int v5, .ref (q 42), .ref (q 43), .ref (q 44), .ref (q 45)])) = wALL D q A (aput I 29 (fun k => if k = 3 then v3 else if k = 4 then v4 else if k = 5 then v5 else 0)) := rfl
theorem wA_g30 {D : va_G} {q : Nat → Nat} {A I : Nat → Nat → Int32} : (wALL D q A I)[30]? = some (q 30, .inr (7, [.ref (q 31), .ref (q 37), .ref (q 38), .ref (q 39)])) := rfl
theorem wA_s30 {D : va_G} {q : Nat → Nat} {A I : Nat → Nat → Int32} : (wALL D q A I).set 30 (q 30, .inr (7, [.ref (q 31), .ref (q 37), .ref (q 38), .ref (q 39)])) = wALL D q A I := rfl
theorem wA_g31 {D : va_G} {q : Nat → Nat} {A I : Nat → Nat → Int32} : (wALL D q A I)[31]? = some (q 31, .inr (6, [.ref (q 32), .ref (q 33), .ref (q 34), .ref (q 35), .ref (q 36), .int (I 31 5), .int (I 31 6), .int (I 31 7)])) := rfl
theorem wA_s31 {D : va_G} {q : Nat → Nat} {A I : Nat → Nat → Int32} {v5 v6 v7 : Int32} : (wALL D q A I).set 31 (q 31, .inr (6, [.ref (q 32), .ref (q 33), .ref (q 34), .ref (q 35), .ref (q 36), .int v5, .int v6, .int v7])) = wALL D q A (aput I 31 (fun k => if k = 5 then v5 else if k = 6 then v6 else if k = 7 then v7 else 0)) := rfl
theorem wA_g32 {D : va_G} {q : Nat → Nat} {A I : Nat → Nat → Int32} : (wALL D q A I)[32]? = some (q 32, .inl (D.1 100, 8, .inl (A 32))) := rfl
theorem wA_s32 {D : va_G} {q : Nat → Nat} {A I : Nat → Nat → Int32} {f : Nat → Int32} : (wALL D q A I).set 32 (q 32, .inl (D.1 100, 8, .inl f)) = wALL D q (aput A 32 f) I := rfl
theorem wA_g33 {D : va_G} {q : Nat → Nat} {A I : Nat → Nat → Int32} : (wALL D q A I)[33]? = some (q 33, .inl (D.1 100, 8, .inl (A 33))) := rfl
theorem wA_s33 {D : va_G} {q : Nat → Nat} {A I : Nat → Nat → Int32} {f : Nat → Int32} : (wALL D q A I).set 33 (q 33, .inl (D.1 100, 8, .inl f)) = wALL D q (aput A 33 f) I := rfl
theorem wA_g34 {D : va_G} {q : Nat → Nat} {A I : Nat → Nat → Int32} : (wALL D q A I)[34]? = some (q 34, .inl (D.1 100, 8, .inl (A 34))) := rfl
theorem wA_s34 {D : va_G} {q : Nat → Nat} {A I : Nat → Nat → Int32} {f : Nat → Int32} : (wALL D q A I).set 34 (q 34, .inl (D.1 100, 8, .inl f)) = wALL D q (aput A 34 f) I := rfl
theorem wA_g35 {D : va_G} {q : Nat → Nat} {A I : Nat → Nat → Int32} : (wALL D q A I)[35]? = some (q 35, .inl (D.1 100, 8, .inl (A 35))) := rfl
theorem wA_s35 {D : va_G} {q : Nat → Nat} {A I : Nat → Nat → Int32} {f : Nat → Int32} : (wALL D q A I).set 35 (q 35, .inl (D.1 100, 8, .inl f)) = wALL D q (aput A 35 f) I := rfl
theorem wA_g36 {D : va_G} {q : Nat → Nat} {A I : Nat → Nat → Int32} : (wALL D q A I)[36]? = some (q 36, .inl (D.1 100, 8, .inl (A 36))) := rfl
theorem wA_s36 {D : va_G} {q : Nat → Nat} {A I : Nat → Nat → Int32} {f : Nat → Int32} : (wALL D q A I).set 36 (q 36, .inl (D.1 100, 8, .inl f)) = wALL D q (aput A 36 f) I := rfl
theorem wA_g37 {D : va_G} {q : Nat → Nat} {A I : Nat → Nat → Int32} : (wALL D q A I)[37]? = some (q 37, .inl (D.1 100, 8, .inl (A 37))) := rfl
theorem wA_s37 {D : va_G} {q : Nat → Nat} {A I : Nat → Nat → Int32} {f : Nat → Int32} : (wALL D q A I).set 37 (q 37, .inl (D.1 100, 8, .inl f)) = wALL D q (aput A 37 f) I := rfl
theorem wA_g38 {D : va_G} {q : Nat → Nat} {A I : Nat → Nat → Int32} : (wALL D q A I)[38]? = some (q 38, .inl (D.1 100, 8, .inl (A 38))) := rfl
theorem wA_s38 {D : va_G} {q : Nat → Nat} {A I : Nat → Nat → Int32} {f : Nat → Int32} : (wALL D q A I).set 38 (q 38, .inl (D.1 100, 8, .inl f)) = wALL D q (aput A 38 f) I := rfl
theorem wA_g39 {D : va_G} {q : Nat → Nat} {A I : Nat → Nat → Int32} : (wALL D q A I)[39]? = some (q 39, .inl (D.1 100, 36, .inl (A 39))) := rfl
theorem wA_s39 {D : va_G} {q : Nat → Nat} {A I : Nat → Nat → Int32} {f : Nat → Int32} : (wALL D q A I).set 39 (q 39, .inl (D.1 100, 36, .inl f)) = wALL D q (aput A 39 f) I := rfl
theorem wA_g40 {D : va_G} {q : Nat → Nat} {A I : Nat → Nat → Int32} : (wALL D q A I)[40]? = some (q 40, .inl (D.1 100, 1536, .inl (A 40))) := rfl
theorem wA_s40 {D : va_G} {q : Nat → Nat} {A I : Nat → Nat → Int32} {f : Nat → Int32} : (wALL D q A I).set 40 (q 40, .inl (D.1 100, 1536, .inl f)) = wALL D q (aput A 40 f) I := rfl
theorem wA_g41 {D : va_G} {q : Nat → Nat} {A I : Nat → Nat → Int32} : (wALL D q A I)[41]? = some (q 41, .inl (D.1 100, 6, .inl (A 41))) := rfl
theorem wA_s41 {D : va_G} {q : Nat → Nat} {A I : Nat → Nat → Int32} {f : Nat → Int32} : (wALL D q A I).set 41 (q 41, .inl (D.1 100, 6, .inl f)) = wALL D q (aput A 41 f) I := rfl
theorem wA_g42 {D : va_G} {q : Nat → Nat} {A I : Nat → Nat → Int32} : (wALL D q A I)[42]? = some (q 42, .inl (D.1 100, 64, .inl (A 42))) := rfl
theorem wA_s42 {D : va_G} {q : Nat → Nat} {A I : Nat → Nat → Int32} {f : Nat → Int32} : (wALL D q A I).set 42 (q 42, .inl (D.1 100, 64, .inl f)) = wALL D q (aput A 42 f) I := rfl
theorem wA_g43 {D : va_G} {q : Nat → Nat} {A I : Nat → Nat → Int32} : (wALL D q A I)[43]? = some (q 43, .inl (D.1 100, 65, .inl (A 43))) := rfl
theorem wA_s43 {D : va_G} {q : Nat → Nat} {A I : Nat → Nat → Int32} {f : Nat → Int32} : (wALL D q A I).set 43 (q 43, .inl (D.1 100, 65, .inl f)) = wALL D q (aput A 43 f) I := rfl
theorem wA_g44 {D : va_G} {q : Nat → Nat} {A I : Nat → Nat → Int32} : (wALL D q A I)[44]? = some (q 44, .inl (D.1 100, 64, .inl (A 44))) := rfl
theorem wA_s44 {D : va_G} {q : Nat → Nat} {A I : Nat → Nat → Int32} {f : Nat → Int32} : (wALL D q A I).set 44 (q 44, .inl (D.1 100, 64, .inl f)) = wALL D q (aput A 44 f) I := rfl
theorem wA_g45 {D : va_G} {q : Nat → Nat} {A I : Nat → Nat → Int32} : (wALL D q A I)[45]? = some (q 45, .inl (D.1 101, 64, .inl (A 45))) := rfl
theorem wA_s45 {D : va_G} {q : Nat → Nat} {A I : Nat → Nat → Int32} {f : Nat → Int32} : (wALL D q A I).set 45 (q 45, .inl (D.1 101, 64, .inl f)) = wALL D q (aput A 45 f) I := rfl
theorem wA_g46 {D : va_G} {q : Nat → Nat} {A I : Nat → Nat → Int32} : (wALL D q A I)[46]? = some (q 46, .inr (2, [.ref (q 47), .ref (q 48), .int (I 46 2)])) := rfl
theorem wA_s46 {D : va_G} {q : Nat → Nat} {A I : Nat → Nat → Int32} {v2 : Int32} : (wALL D q A I).set 46 (q 46, .inr (2, [.ref (q 47), .ref (q 48), .int v2])) = wALL D q A (aput I 46 (fun k => if k = 2 then v2 else 0)) := rfl
theorem wA_g47 {D : va_G} {q : Nat → Nat} {A I : Nat → Nat → Int32} : (wALL D q A I)[47]? = some (q 47, .inl (D.1 100, 6, .inl (A 47))) := rfl
theorem wA_s47 {D : va_G} {q : Nat → Nat} {A I : Nat → Nat → Int32} {f : Nat → Int32} : (wALL D q A I).set 47 (q 47, .inl (D.1 100, 6, .inl f)) = wALL D q (aput A 47 f) I := rfl
theorem wA_g48 {D : va_G} {q : Nat → Nat} {A I : Nat → Nat → Int32} : (wALL D q A I)[48]? = some (q 48, .inl (D.1 100, 6, .inl (A 48))) := rfl
theorem wA_s48 {D : va_G} {q : Nat → Nat} {A I : Nat → Nat → Int32} {f : Nat → Int32} : (wALL D q A I).set 48 (q 48, .inl (D.1 100, 6, .inl f)) = wALL D q (aput A 48 f) I := rfl
theorem wA_g49 {D : va_G} {q : Nat → Nat} {A I : Nat → Nat → Int32} : (wALL D q A I)[49]? = some (q 49, .inr (4, [.ref (q 50), .ref (q 51), .int (I 49 2), .ref (q 52), .int (I 49 4)])) := rfl
theorem wA_s49 {D : va_G} {q : Nat → Nat} {A I : Nat → Nat → Int32} {v2 v4 : Int32} : (wALL D q A I).set 49 (q 49, .inr (4, [.ref (q 50), .ref (q 51), .int v2, .ref (q 52), .int v4])) = wALL D q A (aput I 49 (fun k => if k = 2 then v2 else if k = 4 then v4 else 0)) := rfl
theorem wA_g50 {D : va_G} {q : Nat → Nat} {A I : Nat → Nat → Int32} : (wALL D q A I)[50]? = some (q 50, .inl (D.1 100, 8, .inl (A 50))) := rfl
theorem wA_s50 {D : va_G} {q : Nat → Nat} {A I : Nat → Nat → Int32} {f : Nat → Int32} : (wALL D q A I).set 50 (q 50, .inl (D.1 100, 8, .inl f)) = wALL D q (aput A 50 f) I := rfl
theorem wA_g51 {D : va_G} {q : Nat → Nat} {A I : Nat → Nat → Int32} : (wALL D q A I)[51]? = some (q 51, .inl (D.1 100, 32, .inl (A 51))) := rfl
theorem wA_s51 {D : va_G} {q : Nat → Nat} {A I : Nat → Nat → Int32} {f : Nat → Int32} : (wALL D q A I).set 51 (q 51, .inl (D.1 100, 32, .inl f)) = wALL D q (aput A 51 f) I := rfl
theorem wA_g52 {D : va_G} {q : Nat → Nat} {A I : Nat → Nat → Int32} : (wALL D q A I)[52]? = some (q 52, .inl (D.1 100, 32, .inl (A 52))) := rfl
theorem wA_s52 {D : va_G} {q : Nat → Nat} {A I : Nat → Nat → Int32} {f : Nat → Int32} : (wALL D q A I).set 52 (q 52, .inl (D.1 100, 32, .inl f)) = wALL D q (aput A 52 f) I := rfl
theorem wA_g53 {D : va_G} {q : Nat → Nat} {A I : Nat → Nat → Int32} : (wALL D q A I)[53]? = some (q 53, .inr (1, [.ref (q 54), .ref (q 55), .ref (q 56)])) := rfl
theorem wA_s53 {D : va_G} {q : Nat → Nat} {A I : Nat → Nat → Int32} : (wALL D q A I).set 53 (q 53, .inr (1, [.ref (q 54), .ref (q 55), .ref (q 56)])) = wALL D q A I := rfl
theorem wA_g54 {D : va_G} {q : Nat → Nat} {A I : Nat → Nat → Int32} : (wALL D q A I)[54]? = some (q 54, .inl (D.1 100, 8, .inl (A 54))) := rfl
theorem wA_s54 {D : va_G} {q : Nat → Nat} {A I : Nat → Nat → Int32} {f : Nat → Int32} : (wALL D q A I).set 54 (q 54, .inl (D.1 100, 8, .inl f)) = wALL D q (aput A 54 f) I := rfl
theorem wA_g55 {D : va_G} {q : Nat → Nat} {A I : Nat → Nat → Int32} : (wALL D q A I)[55]? = some (q 55, .inl (D.1 100, 8, .inl (A 55))) := rfl
theorem wA_s55 {D : va_G} {q : Nat → Nat} {A I : Nat → Nat → Int32} {f : Nat → Int32} : (wALL D q A I).set 55 (q 55, .inl (D.1 100, 8, .inl f)) = wALL D q (aput A 55 f) I := rfl
theorem wA_g56 {D : va_G} {q : Nat → Nat} {A I : Nat → Nat → Int32} : (wALL D q A I)[56]? = some (q 56, .inl (D.1 100, 256, .inl (A 56))) := rfl
theorem wA_s56 {D : va_G} {q : Nat → Nat} {A I : Nat → Nat → Int32} {f : Nat → Int32} : (wALL D q A I).set 56 (q 56, .inl (D.1 100, 256, .inl f)) = wALL D q (aput A 56 f) I := rfl
theorem wA_g57 {D : va_G} {q : Nat → Nat} {A I : Nat → Nat → Int32} : (wALL D q A I)[57]? = some (q 57, .inr (0, [.ref (q 58), .ref (q 59), .int (I 57 2), .ref (q 60), .int (I 57 4), .int (I 57 5), .int (I 57 6), .int (I 57 7)])) := rfl
theorem wA_s57 {D : va_G} {q : Nat → Nat} {A I : Nat → Nat → Int32} {v2 v4 v5 v6 v7 : Int32} : (wALL D q A I).set 57 (q 57, .inr (0, [.ref (q 58), .ref (q 59), .int v2, .ref (q 60), .int v4, .int v5, .int v6, .int v7])) = wALL D q A (aput I 57 (fun k => if k = 2 then v2 else if k = 4 then v4 else if k = 5 then v5 else if k = 6 then v6 else if k = 7 then v7 else 0)) := rfl
theorem wA_g58 {D : va_G} {q : Nat → Nat} {A I : Nat → Nat → Int32} : (wALL D q A I)[58]? = some (q 58, .inl (D.1 100, 3, .inl (A 58))) := rfl
theorem wA_s58 {D : va_G} {q : Nat → Nat} {A I : Nat → Nat → Int32} {f : Nat → Int32} : (wALL D q A I).set 58 (q 58, .inl (D.1 100, 3, .inl f)) = wALL D q (aput A 58 f) I := rfl
theorem wA_g59 {D : va_G} {q : Nat → Nat} {A I : Nat → Nat → Int32} : (wALL D q A I)[59]? = some (q 59, .inl (D.1 100, 8, .inl (A 59))) := rfl
theorem wA_s59 {D : va_G} {q : Nat → Nat} {A I : Nat → Nat → Int32} {f : Nat → Int32} : (wALL D q A I).set 59 (q 59, .inl (D.1 100, 8, .inl f)) = wALL D q (aput A 59 f) I := rfl
theorem wA_g60 {D : va_G} {q : Nat → Nat} {A I : Nat → Nat → Int32} : (wALL D q A I)[60]? = some (q 60, .inl (D.1 100, 8, .inl (A 60))) := rfl
theorem wA_s60 {D : va_G} {q : Nat → Nat} {A I : Nat → Nat → Int32} {f : Nat → Int32} : (wALL D q A I).set 60 (q 60, .inl (D.1 100, 8, .inl f)) = wALL D q (aput A 60 f) I := rfl
theorem wA_g61 {D : va_G} {q : Nat → Nat} {A I : Nat → Nat → Int32} : (wALL D q A I)[61]? = some (q 61, .inr (3, [.ref (q 62), .int (I 61 1), .int (I 61 2)])) := rfl
theorem wA_s61 {D : va_G} {q : Nat → Nat} {A I : Nat → Nat → Int32} {v1 v2 : Int32} : (wALL D q A I).set 61 (q 61, .inr (3, [.ref (q 62), .int v1, .int v2])) = wALL D q A (aput I 61 (fun k => if k = 1 then v1 else if k = 2 then v2 else 0)) := rfl
theorem wA_g62 {D : va_G} {q : Nat → Nat} {A I : Nat → Nat → Int32} : (wALL D q A I)[62]? = some (q 62, .inl (D.1 100, 96, .inl (A 62))) := rfl
theorem wA_s62 {D : va_G} {q : Nat → Nat} {A I : Nat → Nat → Int32} {f : Nat → Int32} : (wALL D q A I).set 62 (q 62, .inl (D.1 100, 96, .inl f)) = wALL D q (aput A 62 f) I := rfl
theorem wA_g63 {D : va_G} {q : Nat → Nat} {A I : Nat → Nat → Int32} : (wALL D q A I)[63]? = some (q 63, .inl (D.1 100, 32, .inl (A 63))) := rfl
theorem wA_s63 {D : va_G} {q : Nat → Nat} {A I : Nat → Nat → Int32} {f : Nat → Int32} : (wALL D q A I).set 63 (q 63, .inl (D.1 100, 32, .inl f)) = wALL D q (aput A 63 f) I := rfl
theorem wA_g64 {D : va_G} {q : Nat → Nat} {A I : Nat → Nat → Int32} : (wALL D q A I)[64]? = some (q 64, .inl (D.1 100, 7, .inl (A 64))) := rfl
theorem wA_s64 {D : va_G} {q : Nat → Nat} {A I : Nat → Nat → Int32} {f : Nat → Int32} : (wALL D q A I).set 64 (q 64, .inl (D.1 100, 7, .inl f)) = wALL D q (aput A 64 f) I := rfl
theorem wA_g65 {D : va_G} {q : Nat → Nat} {A I : Nat → Nat → Int32} : (wALL D q A I)[65]? = some (q 65, .inr (9, [.ref (q 66), .ref (q 67), .ref (q 68), .int (I 65 3), .ref (q 69), .ref (q 70), .int (I 65 6), .ref (q 71), .int (I 65 8), .ref (q 72), .ref (q 73), .ref (q 74), .int (I 65 12), .ref (q 75), .ref (q 76), .ref (q 77), .int (I 65 16), .ref (q 78), .ref (q 79), .ref (q 80), .ref (q 81), .ref (q 82), .ref (q 83), .int (I 65 23), .int (I 65 24), .int (I 65 25)])) := rfl
theorem wA_s65 {D : va_G} {q : Nat → Nat} {A I : Nat → Nat → Int32} {v3 v6 v8 v12 v16 v23 v24 v25 : Int32} : (wALL D q A I).set 65 (q 65, .inr (9, [.ref (q 66), .ref (q 67), .ref (q 68), .int v3, .ref (q 69), .ref (q 70), .int v6, .ref (q 71), .int v8, .ref (q 72), .ref (q 73), .ref (q 74), .int v12, .ref (q 75), .ref (q 76), .ref (q 77), .int v16, .ref (q 78), .ref (q 79), .ref (q 80), .ref (q 81), .ref (q 82), .ref (q 83), .int v23, .int v24, .int v25])) = wALL D q A (aput I 65 (fun k => if k = 3 then v3 else if k = 6 then v6 else if k = 8 then v8 else if k = 12 then v12 else if k = 16 then v16 else if k = 23 then v23 else if k = 24 then v24 else if k = 25 then v25 else 0)) := rfl
theorem wA_g66 {D : va_G} {q : Nat → Nat} {A I : Nat → Nat → Int32} : (wALL D q A I)[66]? = some (q 66, .inl (D.1 100, 50, .inl (A 66))) := rfl
theorem wA_s66 {D : va_G} {q : Nat → Nat} {A I : Nat → Nat → Int32} {f : Nat → Int32} : (wALL D q A I).set 66 (q 66, .inl (D.1 100, 50, .inl f)) = wALL D q (aput A 66 f) I := rfl
theorem wA_g67 {D : va_G} {q : Nat → Nat} {A I : Nat → Nat → Int32} : (wALL D q A I)[67]? = some (q 67, .inl (D.1 100, 50, .inl (A 67))) := rfl
theorem wA_s67 {D : va_G} {q : Nat → Nat} {A I : Nat → Nat → Int32} {f : Nat → Int32} : (wALL D q A I).set 67 (q 67, .inl (D.1 100, 50, .inl f)) = wALL D q (aput A 67 f) I := rfl
theorem wA_g68 {D : va_G} {q : Nat → Nat} {A I : Nat → Nat → Int32} : (wALL D q A I)[68]? = some (q 68, .inl (D.1 100, 50, .inl (A 68))) := rfl
theorem wA_s68 {D : va_G} {q : Nat → Nat} {A I : Nat → Nat → Int32} {f : Nat → Int32} : (wALL D q A I).set 68 (q 68, .inl (D.1 100, 50, .inl f)) = wALL D q (aput A 68 f) I := rfl
theorem wA_g69 {D : va_G} {q : Nat → Nat} {A I : Nat → Nat → Int32} : (wALL D q A I)[69]? = some (q 69, .inl (D.1 100, 7, .inl (A 69))) := rfl
theorem wA_s69 {D : va_G} {q : Nat → Nat} {A I : Nat → Nat → Int32} {f : Nat → Int32} : (wALL D q A I).set 69 (q 69, .inl (D.1 100, 7, .inl f)) = wALL D q (aput A 69 f) I := rfl
theorem wA_g70 {D : va_G} {q : Nat → Nat} {A I : Nat → Nat → Int32} : (wALL D q A I)[70]? = some (q 70, .inl (D.1 100, 32, .inl (A 70))) := rfl
theorem wA_s70 {D : va_G} {q : Nat → Nat} {A I : Nat → Nat → Int32} {f : Nat → Int32} : (wALL D q A I).set 70 (q 70, .inl (D.1 100, 32, .inl f)) = wALL D q (aput A 70 f) I := rfl
theorem wA_g71 {D : va_G} {q : Nat → Nat} {A I : Nat → Nat → Int32} : (wALL D q A I)[71]? = some (q 71, .inl (D.1 100, 96, .inl (A 71))) := rfl
theorem wA_s71 {D : va_G} {q : Nat → Nat} {A I : Nat → Nat → Int32} {f : Nat → Int32} : (wALL D q A I).set 71 (q 71, .inl (D.1 100, 96, .inl f)) = wALL D q (aput A 71 f) I := rfl
theorem wA_g72 {D : va_G} {q : Nat → Nat} {A I : Nat → Nat → Int32} : (wALL D q A I)[72]? = some (q 72, .inl (D.1 100, 36, .inl (A 72))) := rfl
theorem wA_s72 {D : va_G} {q : Nat → Nat} {A I : Nat → Nat → Int32} {f : Nat → Int32} : (wALL D q A I).set 72 (q 72, .inl (D.1 100, 36, .inl f)) = wALL D q (aput A 72 f) I := rfl
theorem wA_g73 {D : va_G} {q : Nat → Nat} {A I : Nat → Nat → Int32} : (wALL D q A I)[73]? = some (q 73, .inl (D.1 100, 1536, .inl (A 73))) := rfl
theorem wA_s73 {D : va_G} {q : Nat → Nat} {A I : Nat → Nat → Int32} {f : Nat → Int32} : (wALL D q A I).set 73 (q 73, .inl (D.1 100, 1536, .inl f)) = wALL D q (aput A 73 f) I := rfl
theorem wA_g74 {D : va_G} {q : Nat → Nat} {A I : Nat → Nat → Int32} : (wALL D q A I)[74]? = some (q 74, .inl (D.1 100, 64, .inl (A 74))) := rfl
theorem wA_s74 {D : va_G} {q : Nat → Nat} {A I : Nat → Nat → Int32} {f : Nat → Int32} : (wALL D q A I).set 74 (q 74, .inl (D.1 100, 64, .inl f)) = wALL D q (aput A 74 f) I := rfl
theorem wA_g75 {D : va_G} {q : Nat → Nat} {A I : Nat → Nat → Int32} : (wALL D q A I)[75]? = some (q 75, .inl (D.1 100, 6, .inl (A 75))) := rfl
theorem wA_s75 {D : va_G} {q : Nat → Nat} {A I : Nat → Nat → Int32} {f : Nat → Int32} : (wALL D q A I).set 75 (q 75, .inl (D.1 100, 6, .inl f)) = wALL D q (aput A 75 f) I := rfl
theorem wA_g76 {D : va_G} {q : Nat → Nat} {A I : Nat → Nat → Int32} : (wALL D q A I)[76]? = some (q 76, .inl (D.1 100, 8, .inl (A 76))) := rfl
theorem wA_s76 {D : va_G} {q : Nat → Nat} {A I : Nat → Nat → Int32} {f : Nat → Int32} : (wALL D q A I).set 76 (q 76, .inl (D.1 100, 8, .inl f)) = wALL D q (aput A 76 f) I := rfl
theorem wA_g77 {D : va_G} {q : Nat → Nat} {A I : Nat → Nat → Int32} : (wALL D q A I)[77]? = some (q 77, .inl (D.1 100, 26, .inl (A 77))) := rfl
theorem wA_s77 {D : va_G} {q : Nat → Nat} {A I : Nat → Nat → Int32} {f : Nat → Int32} : (wALL D q A I).set 77 (q 77, .inl (D.1 100, 26, .inl f)) = wALL D q (aput A 77 f) I := rfl
theorem wA_g78 {D : va_G} {q : Nat → Nat} {A I : Nat → Nat → Int32} : (wALL D q A I)[78]? = some (q 78, .inl (D.1 100, 26, .inl (A 78))) := rfl
theorem wA_s78 {D : va_G} {q : Nat → Nat} {A I : Nat → Nat → Int32} {f : Nat → Int32} : (wALL D q A I).set 78 (q 78, .inl (D.1 100, 26, .inl f)) = wALL D q (aput A 78 f) I := rfl
theorem wA_g79 {D : va_G} {q : Nat → Nat} {A I : Nat → Nat → Int32} : (wALL D q A I)[79]? = some (q 79, .inl (D.1 100, 6, .inl (A 79))) := rfl
theorem wA_s79 {D : va_G} {q : Nat → Nat} {A I : Nat → Nat → Int32} {f : Nat → Int32} : (wALL D q A I).set 79 (q 79, .inl (D.1 100, 6, .inl f)) = wALL D q (aput A 79 f) I := rfl
theorem wA_g80 {D : va_G} {q : Nat → Nat} {A I : Nat → Nat → Int32} : (wALL D q A I)[80]? = some (q 80, .inl (D.1 100, 256, .inl (A 80))) := rfl
theorem wA_s80 {D : va_G} {q : Nat → Nat} {A I : Nat → Nat → Int32} {f : Nat → Int32} : (wALL D q A I).set 80 (q 80, .inl (D.1 100, 256, .inl f)) = wALL D q (aput A 80 f) I := rfl
theorem wA_g81 {D : va_G} {q : Nat → Nat} {A I : Nat → Nat → Int32} : (wALL D q A I)[81]? = some (q 81, .inl (D.1 100, 3, .inl (A 81))) := rfl
theorem wA_s81 {D : va_G} {q : Nat → Nat} {A I : Nat → Nat → Int32} {f : Nat → Int32} : (wALL D q A I).set 81 (q 81, .inl (D.1 100, 3, .inl f)) = wALL D q (aput A 81 f) I := rfl
theorem wA_g82 {D : va_G} {q : Nat → Nat} {A I : Nat → Nat → Int32} : (wALL D q A I)[82]? = some (q 82, .inl (D.1 100, 8, .inl (A 82))) := rfl
theorem wA_s82 {D : va_G} {q : Nat → Nat} {A I : Nat → Nat → Int32} {f : Nat → Int32} : (wALL D q A I).set 82 (q 82, .inl (D.1 100, 8, .inl f)) = wALL D q (aput A 82 f) I := rfl
theorem wA_g83 {D : va_G} {q : Nat → Nat} {A I : Nat → Nat → Int32} : (wALL D q A I)[83]? = some (q 83, .inl (D.1 100, 8, .inl (A 83))) := rfl
theorem wA_s83 {D : va_G} {q : Nat → Nat} {A I : Nat → Nat → Int32} {f : Nat → Int32} : (wALL D q A I).set 83 (q 83, .inl (D.1 100, 8, .inl f)) = wALL D q (aput A 83 f) I := rfl
theorem wA_a {D : va_G} {q : Nat → Nat} {A I : Nat → Nat → Int32} : (wALL D q A I).map (fun x => x.1) = (List.range 84).map q := rfl
theorem wA_l {D : va_G} {q : Nat → Nat} {A I : Nat → Nat → Int32} : (wALL D q A I).length = 84 := rfl
theorem CT.lift {l : Launch} {D : va_G} {y : MethodName} {b : ByteArray} {n : Nat} {ret : Option FieldType} {k : Nat} {As : List Value} {W1 W2 W W' : va_W} {ro : Option Value} (K : CT l D y b n ret k As W1 W2 ro) (is : List Nat) (hC : is.map (fun i => W[i]?) = W1.map some) (hnd : va_nd is = true) (hsm : W2.map (fun q => q.1) = W1.map (fun q => q.1)) (hw : wput W is W2 = W') : CT l D y b n ret k As W W' ro := by
  intro sz p e ha hc hk s m args below hf happ hP hK
  obtain ⟨rfl, h1, h2, h3, h4, h5⟩ := hP
  have hsub : ∀ q, va_A W1 sz q → va_A W sz q := by
    intro q hq
    rcases hq with ⟨k2, e2, hq⟩ | hq
    · have h6 : (is.map (fun i => W[i]?))[k2]? = some (some (q, e2)) := by rw [hC, List.getElem?_map, hq]; rfl
      rw [List.getElem?_map] at h6
      cases hi : is[k2]? with
      | none => rw [hi] at h6; cases h6
      | some i => rw [hi] at h6; exact Or.inl ⟨i, e2, Option.some.inj h6⟩
    · exact Or.inr hq
  have hP1 : va_P D vwCl W1 s.heap := by
    refine h2.sub is ?_
    have h7 : is.filterMap (fun i => W[i]?) = (is.map (fun i => W[i]?)).filterMap id := by rw [List.filterMap_map]; rfl
    rw [h7, hC, List.filterMap_map]
    show W1.filterMap (fun q => id (some q)) = W1
    exact List.filterMap_some
  obtain ⟨n9, o9, g1, g2, g3, ⟨g4, g5, g6⟩, L, g7, g8⟩ := K sz p e ha hc hk s m As.toArray below hf happ ⟨rfl, h1, hP1, h3, h4.sub is hnd hC, SF.kept (fun _ _ _ => rfl) hsub h5⟩ hK
  subst h1
  refine ⟨n9, o9, g1, g2, g3, ⟨g4, ?_, g6.1, fun q hq hn => g6.2 q hq (fun z => hn (hsub q z))⟩, L, g7, fun q hq => hsub _ (g8 q hq)⟩
  rw [← hw]
  exact wput_P h2 h4 hC hsm g6.2 g5
/-- the contract of a method that may draw which NaN -/
def CTD (l : Launch) (D : va_G) (y : MethodName) (b : ByteArray) (n : Nat) (ret : Option FieldType) (k : Nat) (As : List Value) (W1 W2 : va_W) (ro : Option Value) : Prop :=
  ∀ sz : Nat, MetD lw_cs l y (wsU y b n ret) (rmk k) (va_Pc As (fun U => U.heap.size = sz ∧ va_P D vwCl W1 U.heap ∧ va_K D vwCl (jty D) U ∧ va_D (fun _ => True) W1 ∧ SF D (va_A W1 sz) U U.heap))
    (fun _ st oc t => oc = .returned ro ∧ va_P D vwCl W2 t.heap ∧ va_F (va_A W1 sz) st t) 0 0 (va_A W1 sz)
theorem CTD.lift {l : Launch} {D : va_G} {y : MethodName} {b : ByteArray} {n : Nat} {ret : Option FieldType} {k : Nat} {As : List Value} {W1 W2 W W' : va_W} {ro : Option Value} (K : CTD l D y b n ret k As W1 W2 ro) (is : List Nat) (hC : is.map (fun i => W[i]?) = W1.map some) (hnd : va_nd is = true) (hsm : W2.map (fun q => q.1) = W1.map (fun q => q.1)) (hw : wput W is W2 = W') : CTD l D y b n ret k As W W' ro := by
  intro sz p e ha hc hk s m args below hf happ hP hK
  obtain ⟨rfl, h1, h2, h3, h4, h5⟩ := hP
  have hsub : ∀ q, va_A W1 sz q → va_A W sz q := by
    intro q hq
    rcases hq with ⟨k2, e2, hq⟩ | hq
    · have h6 : (is.map (fun i => W[i]?))[k2]? = some (some (q, e2)) := by rw [hC, List.getElem?_map, hq]; rfl
      rw [List.getElem?_map] at h6
      cases hi : is[k2]? with
      | none => rw [hi] at h6; cases h6
      | some i => rw [hi] at h6; exact Or.inl ⟨i, e2, Option.some.inj h6⟩
    · exact Or.inr hq
  have hP1 : va_P D vwCl W1 s.heap := by
    refine h2.sub is ?_
    have h7 : is.filterMap (fun i => W[i]?) = (is.map (fun i => W[i]?)).filterMap id := by rw [List.filterMap_map]; rfl
    rw [h7, hC, List.filterMap_map]
    show W1.filterMap (fun q => id (some q)) = W1
    exact List.filterMap_some
  obtain ⟨n9, o9, g1, g2, g3, d, hd, ⟨g4, g5, g6⟩, L, g7, g8⟩ := K sz p e ha hc hk s m As.toArray below hf happ ⟨rfl, h1, hP1, h3, h4.sub is hnd hC, SF.kept (fun _ _ _ => rfl) hsub h5⟩ hK
  subst h1
  refine ⟨n9, o9, g1, g2, g3, d, hd, ⟨g4, ?_, g6.1, fun q hq hn => g6.2 q hq (fun z => hn (hsub q z))⟩, L, g7, fun q hq => hsub _ (g8 q hq)⟩
  rw [← hw]
  exact wput_P h2 h4 hC hsm g6.2 g5
theorem CTD.of {l : Launch} {D : va_G} {y : MethodName} {b : ByteArray} {n : Nat} {ret : Option FieldType} {k : Nat} {As : List Value} {W1 W2 : va_W} {ro : Option Value} (K : CT l D y b n ret k As W1 W2 ro) : CTD l D y b n ret k As W1 W2 ro := fun sz => MetD.of_met (K sz)
