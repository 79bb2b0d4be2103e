def cw (g : WG) (σ : Sg) : va_W := [(g.2.2 0, .inr (10, [.ref (g.2.2 1), .int (σ 0 1), .ref (g.2.2 2), .ref (g.2.2 12), .ref (g.2.2 21), .ref (g.2.2 34), .int (σ 0 6), .ref (g.2.2 47), .ref (g.2.2 50), .ref (g.2.2 53), .ref (g.2.2 55), .ref (g.2.2 63), .ref (g.2.2 64)])),
  (g.2.2 1, .inl (g.2.1 1, 700, .inl (σ 1))),
  (g.2.2 2, .inr (3, [.ref (g.2.2 3), .int (σ 2 1), .int (σ 2 2), .ref (g.2.2 1), .int (σ 2 4), .ref (g.2.2 (300 + (σ 2 5).toNatClampNeg)), .int (σ 2 6), .int (σ 2 7), .int (σ 2 8), .int (σ 2 9), .int (σ 2 10), .int (σ 2 11), .int (σ 2 12)])),
  (g.2.2 3, .inr (8, [.int (σ 3 0), .ref (g.2.2 4), .ref (g.2.2 5), .ref (g.2.2 6), .ref (g.2.2 7), .int (σ 3 5), .int (σ 3 6), .int (σ 3 7), .int (σ 3 8), .ref (g.2.2 8), .ref (g.2.2 9)])),
  (g.2.2 4, .inl (g.2.1 0, 9, .inl (σ 4))),
  (g.2.2 5, .inl (g.2.1 0, 9, .inl (σ 5))),
  (g.2.2 6, .inl (g.2.1 0, 9, .inl (σ 6))),
  (g.2.2 7, .inl (g.2.1 0, 9, .inl (σ 7))),
  (g.2.2 8, .inl (g.2.1 0, 8, .inl (σ 8))),
  (g.2.2 9, .inr (4, [.int (σ 9 0), .ref (g.2.2 10), .ref (g.2.2 11)])),
  (g.2.2 10, .inl (g.2.1 0, 700, .inl (σ 10))),
  (g.2.2 11, .inl (g.2.1 0, 31, .inl (σ 11))),
  (g.2.2 12, .inr (8, [.int (σ 12 0), .ref (g.2.2 13), .ref (g.2.2 14), .ref (g.2.2 15), .ref (g.2.2 16), .int (σ 12 5), .int (σ 12 6), .int (σ 12 7), .int (σ 12 8), .ref (g.2.2 17), .ref (g.2.2 18)])),
  (g.2.2 13, .inl (g.2.1 0, 9, .inl (σ 13))),
  (g.2.2 14, .inl (g.2.1 0, 9, .inl (σ 14))),
  (g.2.2 15, .inl (g.2.1 0, 9, .inl (σ 15))),
  (g.2.2 16, .inl (g.2.1 0, 9, .inl (σ 16))),
  (g.2.2 17, .inl (g.2.1 0, 8, .inl (σ 17))),
  (g.2.2 18, .inr (4, [.int (σ 18 0), .ref (g.2.2 19), .ref (g.2.2 20)])),
  (g.2.2 19, .inl (g.2.1 0, 700, .inl (σ 19))),
  (g.2.2 20, .inl (g.2.1 0, 31, .inl (σ 20))),
  (g.2.2 21, .inr (1, [.ref (g.2.2 22), .ref (g.2.2 27), .ref (g.2.2 29), .ref (g.2.2 33)])),
  (g.2.2 22, .inr (7, [.int (σ 22 0), .int (σ 22 1), .ref (g.2.2 23), .ref (g.2.2 24), .ref (g.2.2 25), .ref (g.2.2 26)])),
  (g.2.2 23, .inl (g.2.1 0, 9, .inl (σ 23))),
  (g.2.2 24, .inl (g.2.1 0, 9, .inl (σ 24))),
  (g.2.2 25, .inl (g.2.1 0, 9, .inl (σ 25))),
  (g.2.2 26, .inl (g.2.1 0, 9, .inl (σ 26))),
  (g.2.2 27, .inr (0, [.int (σ 27 0), .int (σ 27 1), .ref (g.2.2 28)])),
  (g.2.2 28, .inl (g.2.1 0, 1520, .inl (σ 28))),
  (g.2.2 29, .inr (5, [.int (σ 29 0), .ref (g.2.2 30), .ref (g.2.2 31), .ref (g.2.2 32)])),
  (g.2.2 30, .inl (g.2.1 0, 8, .inl (σ 30))),
  (g.2.2 31, .inl (g.2.1 0, 8, .inl (σ 31))),
  (g.2.2 32, .inl (g.2.1 0, 8, .inl (σ 32))),
  (g.2.2 33, .inl (g.2.1 0, 3, .inl (σ 33))),
  (g.2.2 34, .inr (1, [.ref (g.2.2 35), .ref (g.2.2 40), .ref (g.2.2 42), .ref (g.2.2 46)])),
  (g.2.2 35, .inr (7, [.int (σ 35 0), .int (σ 35 1), .ref (g.2.2 36), .ref (g.2.2 37), .ref (g.2.2 38), .ref (g.2.2 39)])),
  (g.2.2 36, .inl (g.2.1 0, 9, .inl (σ 36))),
  (g.2.2 37, .inl (g.2.1 0, 9, .inl (σ 37))),
  (g.2.2 38, .inl (g.2.1 0, 9, .inl (σ 38))),
  (g.2.2 39, .inl (g.2.1 0, 9, .inl (σ 39))),
  (g.2.2 40, .inr (0, [.int (σ 40 0), .int (σ 40 1), .ref (g.2.2 41)])),
  (g.2.2 41, .inl (g.2.1 0, 1520, .inl (σ 41))),
  (g.2.2 42, .inr (5, [.int (σ 42 0), .ref (g.2.2 43), .ref (g.2.2 44), .ref (g.2.2 45)])),
  (g.2.2 43, .inl (g.2.1 0, 8, .inl (σ 43))),
  (g.2.2 44, .inl (g.2.1 0, 8, .inl (σ 44))),
  (g.2.2 45, .inl (g.2.1 0, 8, .inl (σ 45))),
  (g.2.2 46, .inl (g.2.1 0, 3, .inl (σ 46))),
  (g.2.2 47, .inr (6, [.ref (g.2.2 48), .ref (g.2.2 12), .ref (g.2.2 49)])),
  (g.2.2 48, .inl (g.2.1 0, 9, .inl (σ 48))),
  (g.2.2 49, .inl (g.2.1 0, 90, .inl (σ 49))),
  (g.2.2 50, .inr (6, [.ref (g.2.2 51), .ref (g.2.2 12), .ref (g.2.2 52)])),
  (g.2.2 51, .inl (g.2.1 0, 9, .inl (σ 51))),
  (g.2.2 52, .inl (g.2.1 0, 90, .inl (σ 52))),
  (g.2.2 53, .inr (9, [.ref (g.2.2 12), .ref (g.2.2 54)])),
  (g.2.2 54, .inl (g.2.1 0, 9, .inl (σ 54))),
  (g.2.2 55, .inr (2, [.ref (g.2.2 56), .ref (g.2.2 61), .int (σ 55 2), .ref (g.2.2 12), .ref (g.2.2 47), .ref (g.2.2 62)])),
  (g.2.2 56, .inr (7, [.int (σ 56 0), .int (σ 56 1), .ref (g.2.2 57), .ref (g.2.2 58), .ref (g.2.2 59), .ref (g.2.2 60)])),
  (g.2.2 57, .inl (g.2.1 0, 9, .inl (σ 57))),
  (g.2.2 58, .inl (g.2.1 0, 9, .inl (σ 58))),
  (g.2.2 59, .inl (g.2.1 0, 9, .inl (σ 59))),
  (g.2.2 60, .inl (g.2.1 0, 9, .inl (σ 60))),
  (g.2.2 61, .inl (g.2.1 0, 9, .inl (σ 61))),
  (g.2.2 62, .inl (g.2.1 0, 6, .inl (σ 62))),
  (g.2.2 63, .inl (g.2.1 0, 200, .inl (σ 63))),
  (g.2.2 64, .inl (g.2.1 0, 8, .inl (σ 64)))]
theorem cw_p0_1 (g : WG) (σ : Sg) (v : Int32) : (cw g σ).set 0 (g.2.2 0, .inr (10, ([.ref (g.2.2 1), .int (σ 0 1), .ref (g.2.2 2), .ref (g.2.2 12), .ref (g.2.2 21), .ref (g.2.2 34), .int (σ 0 6), .ref (g.2.2 47), .ref (g.2.2 50), .ref (g.2.2 53), .ref (g.2.2 55), .ref (g.2.2 63), .ref (g.2.2 64)] : List Value).set 1 (.int v))) = cw g (wr σ 0 1 v) := rfl
theorem cw_p0_6 (g : WG) (σ : Sg) (v : Int32) : (cw g σ).set 0 (g.2.2 0, .inr (10, ([.ref (g.2.2 1), .int (σ 0 1), .ref (g.2.2 2), .ref (g.2.2 12), .ref (g.2.2 21), .ref (g.2.2 34), .int (σ 0 6), .ref (g.2.2 47), .ref (g.2.2 50), .ref (g.2.2 53), .ref (g.2.2 55), .ref (g.2.2 63), .ref (g.2.2 64)] : List Value).set 6 (.int v))) = cw g (wr σ 0 6 v) := rfl
theorem cw_r1 (g : WG) (σ : Sg) (f : Nat → Int32) : (cw g σ).set 1 (g.2.2 1, .inl (g.2.1 1, 700, .inl f)) = cw g (wrR σ 1 f) := rfl
theorem cw_a1 (g : WG) (σ : Sg) (j : Nat) (v : Int32) : (cw g σ).set 1 (g.2.2 1, .inl (g.2.1 1, 700, .inl (upd (σ 1) j v))) = cw g (wr σ 1 j v) := rfl
theorem cw_p2_1 (g : WG) (σ : Sg) (v : Int32) : (cw g σ).set 2 (g.2.2 2, .inr (3, ([.ref (g.2.2 3), .int (σ 2 1), .int (σ 2 2), .ref (g.2.2 1), .int (σ 2 4), .ref (g.2.2 (300 + (σ 2 5).toNatClampNeg)), .int (σ 2 6), .int (σ 2 7), .int (σ 2 8), .int (σ 2 9), .int (σ 2 10), .int (σ 2 11), .int (σ 2 12)] : List Value).set 1 (.int v))) = cw g (wr σ 2 1 v) := rfl
theorem cw_p2_2 (g : WG) (σ : Sg) (v : Int32) : (cw g σ).set 2 (g.2.2 2, .inr (3, ([.ref (g.2.2 3), .int (σ 2 1), .int (σ 2 2), .ref (g.2.2 1), .int (σ 2 4), .ref (g.2.2 (300 + (σ 2 5).toNatClampNeg)), .int (σ 2 6), .int (σ 2 7), .int (σ 2 8), .int (σ 2 9), .int (σ 2 10), .int (σ 2 11), .int (σ 2 12)] : List Value).set 2 (.int v))) = cw g (wr σ 2 2 v) := rfl
theorem cw_p2_4 (g : WG) (σ : Sg) (v : Int32) : (cw g σ).set 2 (g.2.2 2, .inr (3, ([.ref (g.2.2 3), .int (σ 2 1), .int (σ 2 2), .ref (g.2.2 1), .int (σ 2 4), .ref (g.2.2 (300 + (σ 2 5).toNatClampNeg)), .int (σ 2 6), .int (σ 2 7), .int (σ 2 8), .int (σ 2 9), .int (σ 2 10), .int (σ 2 11), .int (σ 2 12)] : List Value).set 4 (.int v))) = cw g (wr σ 2 4 v) := rfl
theorem cw_p2_5 (g : WG) (σ : Sg) (v : Int32) : (cw g σ).set 2 (g.2.2 2, .inr (3, ([.ref (g.2.2 3), .int (σ 2 1), .int (σ 2 2), .ref (g.2.2 1), .int (σ 2 4), .ref (g.2.2 (300 + (σ 2 5).toNatClampNeg)), .int (σ 2 6), .int (σ 2 7), .int (σ 2 8), .int (σ 2 9), .int (σ 2 10), .int (σ 2 11), .int (σ 2 12)] : List Value).set 5 (.ref (g.2.2 (300 + v.toNatClampNeg))))) = cw g (wr σ 2 5 v) := rfl
theorem cw_p2_6 (g : WG) (σ : Sg) (v : Int32) : (cw g σ).set 2 (g.2.2 2, .inr (3, ([.ref (g.2.2 3), .int (σ 2 1), .int (σ 2 2), .ref (g.2.2 1), .int (σ 2 4), .ref (g.2.2 (300 + (σ 2 5).toNatClampNeg)), .int (σ 2 6), .int (σ 2 7), .int (σ 2 8), .int (σ 2 9), .int (σ 2 10), .int (σ 2 11), .int (σ 2 12)] : List Value).set 6 (.int v))) = cw g (wr σ 2 6 v) := rfl
theorem cw_p2_7 (g : WG) (σ : Sg) (v : Int32) : (cw g σ).set 2 (g.2.2 2, .inr (3, ([.ref (g.2.2 3), .int (σ 2 1), .int (σ 2 2), .ref (g.2.2 1), .int (σ 2 4), .ref (g.2.2 (300 + (σ 2 5).toNatClampNeg)), .int (σ 2 6), .int (σ 2 7), .int (σ 2 8), .int (σ 2 9), .int (σ 2 10), .int (σ 2 11), .int (σ 2 12)] : List Value).set 7 (.int v))) = cw g (wr σ 2 7 v) := rfl
theorem cw_p2_8 (g : WG) (σ : Sg) (v : Int32) : (cw g σ).set 2 (g.2.2 2, .inr (3, ([.ref (g.2.2 3), .int (σ 2 1), .int (σ 2 2), .ref (g.2.2 1), .int (σ 2 4), .ref (g.2.2 (300 + (σ 2 5).toNatClampNeg)), .int (σ 2 6), .int (σ 2 7), .int (σ 2 8), .int (σ 2 9), .int (σ 2 10), .int (σ 2 11), .int (σ 2 12)] : List Value).set 8 (.int v))) = cw g (wr σ 2 8 v) := rfl
theorem cw_p2_9 (g : WG) (σ : Sg) (v : Int32) : (cw g σ).set 2 (g.2.2 2, .inr (3, ([.ref (g.2.2 3), .int (σ 2 1), .int (σ 2 2), .ref (g.2.2 1), .int (σ 2 4), .ref (g.2.2 (300 + (σ 2 5).toNatClampNeg)), .int (σ 2 6), .int (σ 2 7), .int (σ 2 8), .int (σ 2 9), .int (σ 2 10), .int (σ 2 11), .int (σ 2 12)] : List Value).set 9 (.int v))) = cw g (wr σ 2 9 v) := rfl
theorem cw_p2_10 (g : WG) (σ : Sg) (v : Int32) : (cw g σ).set 2 (g.2.2 2, .inr (3, ([.ref (g.2.2 3), .int (σ 2 1), .int (σ 2 2), .ref (g.2.2 1), .int (σ 2 4), .ref (g.2.2 (300 + (σ 2 5).toNatClampNeg)), .int (σ 2 6), .int (σ 2 7), .int (σ 2 8), .int (σ 2 9), .int (σ 2 10), .int (σ 2 11), .int (σ 2 12)] : List Value).set 10 (.int v))) = cw g (wr σ 2 10 v) := rfl
theorem cw_p2_11 (g : WG) (σ : Sg) (v : Int32) : (cw g σ).set 2 (g.2.2 2, .inr (3, ([.ref (g.2.2 3), .int (σ 2 1), .int (σ 2 2), .ref (g.2.2 1), .int (σ 2 4), .ref (g.2.2 (300 + (σ 2 5).toNatClampNeg)), .int (σ 2 6), .int (σ 2 7), .int (σ 2 8), .int (σ 2 9), .int (σ 2 10), .int (σ 2 11), .int (σ 2 12)] : List Value).set 11 (.int v))) = cw g (wr σ 2 11 v) := rfl
theorem cw_p2_12 (g : WG) (σ : Sg) (v : Int32) : (cw g σ).set 2 (g.2.2 2, .inr (3, ([.ref (g.2.2 3), .int (σ 2 1), .int (σ 2 2), .ref (g.2.2 1), .int (σ 2 4), .ref (g.2.2 (300 + (σ 2 5).toNatClampNeg)), .int (σ 2 6), .int (σ 2 7), .int (σ 2 8), .int (σ 2 9), .int (σ 2 10), .int (σ 2 11), .int (σ 2 12)] : List Value).set 12 (.int v))) = cw g (wr σ 2 12 v) := rfl
theorem cw_p3_0 (g : WG) (σ : Sg) (v : Int32) : (cw g σ).set 3 (g.2.2 3, .inr (8, ([.int (σ 3 0), .ref (g.2.2 4), .ref (g.2.2 5), .ref (g.2.2 6), .ref (g.2.2 7), .int (σ 3 5), .int (σ 3 6), .int (σ 3 7), .int (σ 3 8), .ref (g.2.2 8), .ref (g.2.2 9)] : List Value).set 0 (.int v))) = cw g (wr σ 3 0 v) := rfl
theorem cw_p3_5 (g : WG) (σ : Sg) (v : Int32) : (cw g σ).set 3 (g.2.2 3, .inr (8, ([.int (σ 3 0), .ref (g.2.2 4), .ref (g.2.2 5), .ref (g.2.2 6), .ref (g.2.2 7), .int (σ 3 5), .int (σ 3 6), .int (σ 3 7), .int (σ 3 8), .ref (g.2.2 8), .ref (g.2.2 9)] : List Value).set 5 (.int v))) = cw g (wr σ 3 5 v) := rfl
theorem cw_p3_6 (g : WG) (σ : Sg) (v : Int32) : (cw g σ).set 3 (g.2.2 3, .inr (8, ([.int (σ 3 0), .ref (g.2.2 4), .ref (g.2.2 5), .ref (g.2.2 6), .ref (g.2.2 7), .int (σ 3 5), .int (σ 3 6), .int (σ 3 7), .int (σ 3 8), .ref (g.2.2 8), .ref (g.2.2 9)] : List Value).set 6 (.int v))) = cw g (wr σ 3 6 v) := rfl
theorem cw_p3_7 (g : WG) (σ : Sg) (v : Int32) : (cw g σ).set 3 (g.2.2 3, .inr (8, ([.int (σ 3 0), .ref (g.2.2 4), .ref (g.2.2 5), .ref (g.2.2 6), .ref (g.2.2 7), .int (σ 3 5), .int (σ 3 6), .int (σ 3 7), .int (σ 3 8), .ref (g.2.2 8), .ref (g.2.2 9)] : List Value).set 7 (.int v))) = cw g (wr σ 3 7 v) := rfl
theorem cw_p3_8 (g : WG) (σ : Sg) (v : Int32) : (cw g σ).set 3 (g.2.2 3, .inr (8, ([.int (σ 3 0), .ref (g.2.2 4), .ref (g.2.2 5), .ref (g.2.2 6), .ref (g.2.2 7), .int (σ 3 5), .int (σ 3 6), .int (σ 3 7), .int (σ 3 8), .ref (g.2.2 8), .ref (g.2.2 9)] : List Value).set 8 (.int v))) = cw g (wr σ 3 8 v) := rfl
theorem cw_r4 (g : WG) (σ : Sg) (f : Nat → Int32) : (cw g σ).set 4 (g.2.2 4, .inl (g.2.1 0, 9, .inl f)) = cw g (wrR σ 4 f) := rfl
theorem cw_a4 (g : WG) (σ : Sg) (j : Nat) (v : Int32) : (cw g σ).set 4 (g.2.2 4, .inl (g.2.1 0, 9, .inl (upd (σ 4) j v))) = cw g (wr σ 4 j v) := rfl
theorem cw_r5 (g : WG) (σ : Sg) (f : Nat → Int32) : (cw g σ).set 5 (g.2.2 5, .inl (g.2.1 0, 9, .inl f)) = cw g (wrR σ 5 f) := rfl
theorem cw_a5 (g : WG) (σ : Sg) (j : Nat) (v : Int32) : (cw g σ).set 5 (g.2.2 5, .inl (g.2.1 0, 9, .inl (upd (σ 5) j v))) = cw g (wr σ 5 j v) := rfl
theorem cw_r6 (g : WG) (σ : Sg) (f : Nat → Int32) : (cw g σ).set 6 (g.2.2 6, .inl (g.2.1 0, 9, .inl f)) = cw g (wrR σ 6 f) := rfl
theorem cw_a6 (g : WG) (σ : Sg) (j : Nat) (v : Int32) : (cw g σ).set 6 (g.2.2 6, .inl (g.2.1 0, 9, .inl (upd (σ 6) j v))) = cw g (wr σ 6 j v) := rfl
theorem cw_r7 (g : WG) (σ : Sg) (f : Nat → Int32) : (cw g σ).set 7 (g.2.2 7, .inl (g.2.1 0, 9, .inl f)) = cw g (wrR σ 7 f) := rfl
theorem cw_a7 (g : WG) (σ : Sg) (j : Nat) (v : Int32) : (cw g σ).set 7 (g.2.2 7, .inl (g.2.1 0, 9, .inl (upd (σ 7) j v))) = cw g (wr σ 7 j v) := rfl
theorem cw_r8 (g : WG) (σ : Sg) (f : Nat → Int32) : (cw g σ).set 8 (g.2.2 8, .inl (g.2.1 0, 8, .inl f)) = cw g (wrR σ 8 f) := rfl
theorem cw_a8 (g : WG) (σ : Sg) (j : Nat) (v : Int32) : (cw g σ).set 8 (g.2.2 8, .inl (g.2.1 0, 8, .inl (upd (σ 8) j v))) = cw g (wr σ 8 j v) := rfl
theorem cw_p9_0 (g : WG) (σ : Sg) (v : Int32) : (cw g σ).set 9 (g.2.2 9, .inr (4, ([.int (σ 9 0), .ref (g.2.2 10), .ref (g.2.2 11)] : List Value).set 0 (.int v))) = cw g (wr σ 9 0 v) := rfl
theorem cw_r10 (g : WG) (σ : Sg) (f : Nat → Int32) : (cw g σ).set 10 (g.2.2 10, .inl (g.2.1 0, 700, .inl f)) = cw g (wrR σ 10 f) := rfl
theorem cw_a10 (g : WG) (σ : Sg) (j : Nat) (v : Int32) : (cw g σ).set 10 (g.2.2 10, .inl (g.2.1 0, 700, .inl (upd (σ 10) j v))) = cw g (wr σ 10 j v) := rfl
theorem cw_r11 (g : WG) (σ : Sg) (f : Nat → Int32) : (cw g σ).set 11 (g.2.2 11, .inl (g.2.1 0, 31, .inl f)) = cw g (wrR σ 11 f) := rfl
theorem cw_a11 (g : WG) (σ : Sg) (j : Nat) (v : Int32) : (cw g σ).set 11 (g.2.2 11, .inl (g.2.1 0, 31, .inl (upd (σ 11) j v))) = cw g (wr σ 11 j v) := rfl
theorem cw_p12_0 (g : WG) (σ : Sg) (v : Int32) : (cw g σ).set 12 (g.2.2 12, .inr (8, ([.int (σ 12 0), .ref (g.2.2 13), .ref (g.2.2 14), .ref (g.2.2 15), .ref (g.2.2 16), .int (σ 12 5), .int (σ 12 6), .int (σ 12 7), .int (σ 12 8), .ref (g.2.2 17), .ref (g.2.2 18)] : List Value).set 0 (.int v))) = cw g (wr σ 12 0 v) := rfl
theorem cw_p12_5 (g : WG) (σ : Sg) (v : Int32) : (cw g σ).set 12 (g.2.2 12, .inr (8, ([.int (σ 12 0), .ref (g.2.2 13), .ref (g.2.2 14), .ref (g.2.2 15), .ref (g.2.2 16), .int (σ 12 5), .int (σ 12 6), .int (σ 12 7), .int (σ 12 8), .ref (g.2.2 17), .ref (g.2.2 18)] : List Value).set 5 (.int v))) = cw g (wr σ 12 5 v) := rfl
theorem cw_p12_6 (g : WG) (σ : Sg) (v : Int32) : (cw g σ).set 12 (g.2.2 12, .inr (8, ([.int (σ 12 0), .ref (g.2.2 13), .ref (g.2.2 14), .ref (g.2.2 15), .ref (g.2.2 16), .int (σ 12 5), .int (σ 12 6), .int (σ 12 7), .int (σ 12 8), .ref (g.2.2 17), .ref (g.2.2 18)] : List Value).set 6 (.int v))) = cw g (wr σ 12 6 v) := rfl
theorem cw_p12_7 (g : WG) (σ : Sg) (v : Int32) : (cw g σ).set 12 (g.2.2 12, .inr (8, ([.int (σ 12 0), .ref (g.2.2 13), .ref (g.2.2 14), .ref (g.2.2 15), .ref (g.2.2 16), .int (σ 12 5), .int (σ 12 6), .int (σ 12 7), .int (σ 12 8), .ref (g.2.2 17), .ref (g.2.2 18)] : List Value).set 7 (.int v))) = cw g (wr σ 12 7 v) := rfl
theorem cw_p12_8 (g : WG) (σ : Sg) (v : Int32) : (cw g σ).set 12 (g.2.2 12, .inr (8, ([.int (σ 12 0), .ref (g.2.2 13), .ref (g.2.2 14), .ref (g.2.2 15), .ref (g.2.2 16), .int (σ 12 5), .int (σ 12 6), .int (σ 12 7), .int (σ 12 8), .ref (g.2.2 17), .ref (g.2.2 18)] : List Value).set 8 (.int v))) = cw g (wr σ 12 8 v) := rfl
theorem cw_r13 (g : WG) (σ : Sg) (f : Nat → Int32) : (cw g σ).set 13 (g.2.2 13, .inl (g.2.1 0, 9, .inl f)) = cw g (wrR σ 13 f) := rfl
theorem cw_a13 (g : WG) (σ : Sg) (j : Nat) (v : Int32) : (cw g σ).set 13 (g.2.2 13, .inl (g.2.1 0, 9, .inl (upd (σ 13) j v))) = cw g (wr σ 13 j v) := rfl
theorem cw_r14 (g : WG) (σ : Sg) (f : Nat → Int32) : (cw g σ).set 14 (g.2.2 14, .inl (g.2.1 0, 9, .inl f)) = cw g (wrR σ 14 f) := rfl
theorem cw_a14 (g : WG) (σ : Sg) (j : Nat) (v : Int32) : (cw g σ).set 14 (g.2.2 14, .inl (g.2.1 0, 9, .inl (upd (σ 14) j v))) = cw g (wr σ 14 j v) := rfl
theorem cw_r15 (g : WG) (σ : Sg) (f : Nat → Int32) : (cw g σ).set 15 (g.2.2 15, .inl (g.2.1 0, 9, .inl f)) = cw g (wrR σ 15 f) := rfl
theorem cw_a15 (g : WG) (σ : Sg) (j : Nat) (v : Int32) : (cw g σ).set 15 (g.2.2 15, .inl (g.2.1 0, 9, .inl (upd (σ 15) j v))) = cw g (wr σ 15 j v) := rfl
theorem cw_r16 (g : WG) (σ : Sg) (f : Nat → Int32) : (cw g σ).set 16 (g.2.2 16, .inl (g.2.1 0, 9, .inl f)) = cw g (wrR σ 16 f) := rfl
theorem cw_a16 (g : WG) (σ : Sg) (j : Nat) (v : Int32) : (cw g σ).set 16 (g.2.2 16, .inl (g.2.1 0, 9, .inl (upd (σ 16) j v))) = cw g (wr σ 16 j v) := rfl
theorem cw_r17 (g : WG) (σ : Sg) (f : Nat → Int32) : (cw g σ).set 17 (g.2.2 17, .inl (g.2.1 0, 8, .inl f)) = cw g (wrR σ 17 f) := rfl
theorem cw_a17 (g : WG) (σ : Sg) (j : Nat) (v : Int32) : (cw g σ).set 17 (g.2.2 17, .inl (g.2.1 0, 8, .inl (upd (σ 17) j v))) = cw g (wr σ 17 j v) := rfl
theorem cw_p18_0 (g : WG) (σ : Sg) (v : Int32) : (cw g σ).set 18 (g.2.2 18, .inr (4, ([.int (σ 18 0), .ref (g.2.2 19), .ref (g.2.2 20)] : List Value).set 0 (.int v))) = cw g (wr σ 18 0 v) := rfl
theorem cw_r19 (g : WG) (σ : Sg) (f : Nat → Int32) : (cw g σ).set 19 (g.2.2 19, .inl (g.2.1 0, 700, .inl f)) = cw g (wrR σ 19 f) := rfl
theorem cw_a19 (g : WG) (σ : Sg) (j : Nat) (v : Int32) : (cw g σ).set 19 (g.2.2 19, .inl (g.2.1 0, 700, .inl (upd (σ 19) j v))) = cw g (wr σ 19 j v) := rfl
theorem cw_r20 (g : WG) (σ : Sg) (f : Nat → Int32) : (cw g σ).set 20 (g.2.2 20, .inl (g.2.1 0, 31, .inl f)) = cw g (wrR σ 20 f) := rfl
theorem cw_a20 (g : WG) (σ : Sg) (j : Nat) (v : Int32) : (cw g σ).set 20 (g.2.2 20, .inl (g.2.1 0, 31, .inl (upd (σ 20) j v))) = cw g (wr σ 20 j v) := rfl
theorem cw_p22_0 (g : WG) (σ : Sg) (v : Int32) : (cw g σ).set 22 (g.2.2 22, .inr (7, ([.int (σ 22 0), .int (σ 22 1), .ref (g.2.2 23), .ref (g.2.2 24), .ref (g.2.2 25), .ref (g.2.2 26)] : List Value).set 0 (.int v))) = cw g (wr σ 22 0 v) := rfl
theorem cw_p22_1 (g : WG) (σ : Sg) (v : Int32) : (cw g σ).set 22 (g.2.2 22, .inr (7, ([.int (σ 22 0), .int (σ 22 1), .ref (g.2.2 23), .ref (g.2.2 24), .ref (g.2.2 25), .ref (g.2.2 26)] : List Value).set 1 (.int v))) = cw g (wr σ 22 1 v) := rfl
theorem cw_r23 (g : WG) (σ : Sg) (f : Nat → Int32) : (cw g σ).set 23 (g.2.2 23, .inl (g.2.1 0, 9, .inl f)) = cw g (wrR σ 23 f) := rfl
theorem cw_a23 (g : WG) (σ : Sg) (j : Nat) (v : Int32) : (cw g σ).set 23 (g.2.2 23, .inl (g.2.1 0, 9, .inl (upd (σ 23) j v))) = cw g (wr σ 23 j v) := rfl
theorem cw_r24 (g : WG) (σ : Sg) (f : Nat → Int32) : (cw g σ).set 24 (g.2.2 24, .inl (g.2.1 0, 9, .inl f)) = cw g (wrR σ 24 f) := rfl
theorem cw_a24 (g : WG) (σ : Sg) (j : Nat) (v : Int32) : (cw g σ).set 24 (g.2.2 24, .inl (g.2.1 0, 9, .inl (upd (σ 24) j v))) = cw g (wr σ 24 j v) := rfl
theorem cw_r25 (g : WG) (σ : Sg) (f : Nat → Int32) : (cw g σ).set 25 (g.2.2 25, .inl (g.2.1 0, 9, .inl f)) = cw g (wrR σ 25 f) := rfl
theorem cw_a25 (g : WG) (σ : Sg) (j : Nat) (v : Int32) : (cw g σ).set 25 (g.2.2 25, .inl (g.2.1 0, 9, .inl (upd (σ 25) j v))) = cw g (wr σ 25 j v) := rfl
theorem cw_r26 (g : WG) (σ : Sg) (f : Nat → Int32) : (cw g σ).set 26 (g.2.2 26, .inl (g.2.1 0, 9, .inl f)) = cw g (wrR σ 26 f) := rfl
theorem cw_a26 (g : WG) (σ : Sg) (j : Nat) (v : Int32) : (cw g σ).set 26 (g.2.2 26, .inl (g.2.1 0, 9, .inl (upd (σ 26) j v))) = cw g (wr σ 26 j v) := rfl
theorem cw_p27_0 (g : WG) (σ : Sg) (v : Int32) : (cw g σ).set 27 (g.2.2 27, .inr (0, ([.int (σ 27 0), .int (σ 27 1), .ref (g.2.2 28)] : List Value).set 0 (.int v))) = cw g (wr σ 27 0 v) := rfl
theorem cw_p27_1 (g : WG) (σ : Sg) (v : Int32) : (cw g σ).set 27 (g.2.2 27, .inr (0, ([.int (σ 27 0), .int (σ 27 1), .ref (g.2.2 28)] : List Value).set 1 (.int v))) = cw g (wr σ 27 1 v) := rfl
theorem cw_r28 (g : WG) (σ : Sg) (f : Nat → Int32) : (cw g σ).set 28 (g.2.2 28, .inl (g.2.1 0, 1520, .inl f)) = cw g (wrR σ 28 f) := rfl
theorem cw_a28 (g : WG) (σ : Sg) (j : Nat) (v : Int32) : (cw g σ).set 28 (g.2.2 28, .inl (g.2.1 0, 1520, .inl (upd (σ 28) j v))) = cw g (wr σ 28 j v) := rfl
theorem cw_p29_0 (g : WG) (σ : Sg) (v : Int32) : (cw g σ).set 29 (g.2.2 29, .inr (5, ([.int (σ 29 0), .ref (g.2.2 30), .ref (g.2.2 31), .ref (g.2.2 32)] : List Value).set 0 (.int v))) = cw g (wr σ 29 0 v) := rfl
theorem cw_r30 (g : WG) (σ : Sg) (f : Nat → Int32) : (cw g σ).set 30 (g.2.2 30, .inl (g.2.1 0, 8, .inl f)) = cw g (wrR σ 30 f) := rfl
theorem cw_a30 (g : WG) (σ : Sg) (j : Nat) (v : Int32) : (cw g σ).set 30 (g.2.2 30, .inl (g.2.1 0, 8, .inl (upd (σ 30) j v))) = cw g (wr σ 30 j v) := rfl
theorem cw_r31 (g : WG) (σ : Sg) (f : Nat → Int32) : (cw g σ).set 31 (g.2.2 31, .inl (g.2.1 0, 8, .inl f)) = cw g (wrR σ 31 f) := rfl
theorem cw_a31 (g : WG) (σ : Sg) (j : Nat) (v : Int32) : (cw g σ).set 31 (g.2.2 31, .inl (g.2.1 0, 8, .inl (upd (σ 31) j v))) = cw g (wr σ 31 j v) := rfl
theorem cw_r32 (g : WG) (σ : Sg) (f : Nat → Int32) : (cw g σ).set 32 (g.2.2 32, .inl (g.2.1 0, 8, .inl f)) = cw g (wrR σ 32 f) := rfl
theorem cw_a32 (g : WG) (σ : Sg) (j : Nat) (v : Int32) : (cw g σ).set 32 (g.2.2 32, .inl (g.2.1 0, 8, .inl (upd (σ 32) j v))) = cw g (wr σ 32 j v) := rfl
theorem cw_r33 (g : WG) (σ : Sg) (f : Nat → Int32) : (cw g σ).set 33 (g.2.2 33, .inl (g.2.1 0, 3, .inl f)) = cw g (wrR σ 33 f) := rfl
theorem cw_a33 (g : WG) (σ : Sg) (j : Nat) (v : Int32) : (cw g σ).set 33 (g.2.2 33, .inl (g.2.1 0, 3, .inl (upd (σ 33) j v))) = cw g (wr σ 33 j v) := rfl
theorem cw_p35_0 (g : WG) (σ : Sg) (v : Int32) : (cw g σ).set 35 (g.2.2 35, .inr (7, ([.int (σ 35 0), .int (σ 35 1), .ref (g.2.2 36), .ref (g.2.2 37), .ref (g.2.2 38), .ref (g.2.2 39)] : List Value).set 0 (.int v))) = cw g (wr σ 35 0 v) := rfl
theorem cw_p35_1 (g : WG) (σ : Sg) (v : Int32) : (cw g σ).set 35 (g.2.2 35, .inr (7, ([.int (σ 35 0), .int (σ 35 1), .ref (g.2.2 36), .ref (g.2.2 37), .ref (g.2.2 38), .ref (g.2.2 39)] : List Value).set 1 (.int v))) = cw g (wr σ 35 1 v) := rfl
theorem cw_r36 (g : WG) (σ : Sg) (f : Nat → Int32) : (cw g σ).set 36 (g.2.2 36, .inl (g.2.1 0, 9, .inl f)) = cw g (wrR σ 36 f) := rfl
theorem cw_a36 (g : WG) (σ : Sg) (j : Nat) (v : Int32) : (cw g σ).set 36 (g.2.2 36, .inl (g.2.1 0, 9, .inl (upd (σ 36) j v))) = cw g (wr σ 36 j v) := rfl
theorem cw_r37 (g : WG) (σ : Sg) (f : Nat → Int32) : (cw g σ).set 37 (g.2.2 37, .inl (g.2.1 0, 9, .inl f)) = cw g (wrR σ 37 f) := rfl
theorem cw_a37 (g : WG) (σ : Sg) (j : Nat) (v : Int32) : (cw g σ).set 37 (g.2.2 37, .inl (g.2.1 0, 9, .inl (upd (σ 37) j v))) = cw g (wr σ 37 j v) := rfl
theorem cw_r38 (g : WG) (σ : Sg) (f : Nat → Int32) : (cw g σ).set 38 (g.2.2 38, .inl (g.2.1 0, 9, .inl f)) = cw g (wrR σ 38 f) := rfl
theorem cw_a38 (g : WG) (σ : Sg) (j : Nat) (v : Int32) : (cw g σ).set 38 (g.2.2 38, .inl (g.2.1 0, 9, .inl (upd (σ 38) j v))) = cw g (wr σ 38 j v) := rfl
theorem cw_r39 (g : WG) (σ : Sg) (f : Nat → Int32) : (cw g σ).set 39 (g.2.2 39, .inl (g.2.1 0, 9, .inl f)) = cw g (wrR σ 39 f) := rfl
theorem cw_a39 (g : WG) (σ : Sg) (j : Nat) (v : Int32) : (cw g σ).set 39 (g.2.2 39, .inl (g.2.1 0, 9, .inl (upd (σ 39) j v))) = cw g (wr σ 39 j v) := rfl
theorem cw_p40_0 (g : WG) (σ : Sg) (v : Int32) : (cw g σ).set 40 (g.2.2 40, .inr (0, ([.int (σ 40 0), .int (σ 40 1), .ref (g.2.2 41)] : List Value).set 0 (.int v))) = cw g (wr σ 40 0 v) := rfl
theorem cw_p40_1 (g : WG) (σ : Sg) (v : Int32) : (cw g σ).set 40 (g.2.2 40, .inr (0, ([.int (σ 40 0), .int (σ 40 1), .ref (g.2.2 41)] : List Value).set 1 (.int v))) = cw g (wr σ 40 1 v) := rfl
theorem cw_r41 (g : WG) (σ : Sg) (f : Nat → Int32) : (cw g σ).set 41 (g.2.2 41, .inl (g.2.1 0, 1520, .inl f)) = cw g (wrR σ 41 f) := rfl
theorem cw_a41 (g : WG) (σ : Sg) (j : Nat) (v : Int32) : (cw g σ).set 41 (g.2.2 41, .inl (g.2.1 0, 1520, .inl (upd (σ 41) j v))) = cw g (wr σ 41 j v) := rfl
theorem cw_p42_0 (g : WG) (σ : Sg) (v : Int32) : (cw g σ).set 42 (g.2.2 42, .inr (5, ([.int (σ 42 0), .ref (g.2.2 43), .ref (g.2.2 44), .ref (g.2.2 45)] : List Value).set 0 (.int v))) = cw g (wr σ 42 0 v) := rfl
theorem cw_r43 (g : WG) (σ : Sg) (f : Nat → Int32) : (cw g σ).set 43 (g.2.2 43, .inl (g.2.1 0, 8, .inl f)) = cw g (wrR σ 43 f) := rfl
theorem cw_a43 (g : WG) (σ : Sg) (j : Nat) (v : Int32) : (cw g σ).set 43 (g.2.2 43, .inl (g.2.1 0, 8, .inl (upd (σ 43) j v))) = cw g (wr σ 43 j v) := rfl
theorem cw_r44 (g : WG) (σ : Sg) (f : Nat → Int32) : (cw g σ).set 44 (g.2.2 44, .inl (g.2.1 0, 8, .inl f)) = cw g (wrR σ 44 f) := rfl
theorem cw_a44 (g : WG) (σ : Sg) (j : Nat) (v : Int32) : (cw g σ).set 44 (g.2.2 44, .inl (g.2.1 0, 8, .inl (upd (σ 44) j v))) = cw g (wr σ 44 j v) := rfl
theorem cw_r45 (g : WG) (σ : Sg) (f : Nat → Int32) : (cw g σ).set 45 (g.2.2 45, .inl (g.2.1 0, 8, .inl f)) = cw g (wrR σ 45 f) := rfl
theorem cw_a45 (g : WG) (σ : Sg) (j : Nat) (v : Int32) : (cw g σ).set 45 (g.2.2 45, .inl (g.2.1 0, 8, .inl (upd (σ 45) j v))) = cw g (wr σ 45 j v) := rfl
theorem cw_r46 (g : WG) (σ : Sg) (f : Nat → Int32) : (cw g σ).set 46 (g.2.2 46, .inl (g.2.1 0, 3, .inl f)) = cw g (wrR σ 46 f) := rfl
theorem cw_a46 (g : WG) (σ : Sg) (j : Nat) (v : Int32) : (cw g σ).set 46 (g.2.2 46, .inl (g.2.1 0, 3, .inl (upd (σ 46) j v))) = cw g (wr σ 46 j v) := rfl
theorem cw_r48 (g : WG) (σ : Sg) (f : Nat → Int32) : (cw g σ).set 48 (g.2.2 48, .inl (g.2.1 0, 9, .inl f)) = cw g (wrR σ 48 f) := rfl
theorem cw_a48 (g : WG) (σ : Sg) (j : Nat) (v : Int32) : (cw g σ).set 48 (g.2.2 48, .inl (g.2.1 0, 9, .inl (upd (σ 48) j v))) = cw g (wr σ 48 j v) := rfl
theorem cw_r49 (g : WG) (σ : Sg) (f : Nat → Int32) : (cw g σ).set 49 (g.2.2 49, .inl (g.2.1 0, 90, .inl f)) = cw g (wrR σ 49 f) := rfl
theorem cw_a49 (g : WG) (σ : Sg) (j : Nat) (v : Int32) : (cw g σ).set 49 (g.2.2 49, .inl (g.2.1 0, 90, .inl (upd (σ 49) j v))) = cw g (wr σ 49 j v) := rfl
theorem cw_r51 (g : WG) (σ : Sg) (f : Nat → Int32) : (cw g σ).set 51 (g.2.2 51, .inl (g.2.1 0, 9, .inl f)) = cw g (wrR σ 51 f) := rfl
theorem cw_a51 (g : WG) (σ : Sg) (j : Nat) (v : Int32) : (cw g σ).set 51 (g.2.2 51, .inl (g.2.1 0, 9, .inl (upd (σ 51) j v))) = cw g (wr σ 51 j v) := rfl
theorem cw_r52 (g : WG) (σ : Sg) (f : Nat → Int32) : (cw g σ).set 52 (g.2.2 52, .inl (g.2.1 0, 90, .inl f)) = cw g (wrR σ 52 f) := rfl
theorem cw_a52 (g : WG) (σ : Sg) (j : Nat) (v : Int32) : (cw g σ).set 52 (g.2.2 52, .inl (g.2.1 0, 90, .inl (upd (σ 52) j v))) = cw g (wr σ 52 j v) := rfl
theorem cw_r54 (g : WG) (σ : Sg) (f : Nat → Int32) : (cw g σ).set 54 (g.2.2 54, .inl (g.2.1 0, 9, .inl f)) = cw g (wrR σ 54 f) := rfl
theorem cw_a54 (g : WG) (σ : Sg) (j : Nat) (v : Int32) : (cw g σ).set 54 (g.2.2 54, .inl (g.2.1 0, 9, .inl (upd (σ 54) j v))) = cw g (wr σ 54 j v) := rfl
theorem cw_p55_2 (g : WG) (σ : Sg) (v : Int32) : (cw g σ).set 55 (g.2.2 55, .inr (2, ([.ref (g.2.2 56), .ref (g.2.2 61), .int (σ 55 2), .ref (g.2.2 12), .ref (g.2.2 47), .ref (g.2.2 62)] : List Value).set 2 (.int v))) = cw g (wr σ 55 2 v) := rfl
theorem cw_p56_0 (g : WG) (σ : Sg) (v : Int32) : (cw g σ).set 56 (g.2.2 56, .inr (7, ([.int (σ 56 0), .int (σ 56 1), .ref (g.2.2 57), .ref (g.2.2 58), .ref (g.2.2 59), .ref (g.2.2 60)] : List Value).set 0 (.int v))) = cw g (wr σ 56 0 v) := rfl
theorem cw_p56_1 (g : WG) (σ : Sg) (v : Int32) : (cw g σ).set 56 (g.2.2 56, .inr (7, ([.int (σ 56 0), .int (σ 56 1), .ref (g.2.2 57), .ref (g.2.2 58), .ref (g.2.2 59), .ref (g.2.2 60)] : List Value).set 1 (.int v))) = cw g (wr σ 56 1 v) := rfl
theorem cw_r57 (g : WG) (σ : Sg) (f : Nat → Int32) : (cw g σ).set 57 (g.2.2 57, .inl (g.2.1 0, 9, .inl f)) = cw g (wrR σ 57 f) := rfl
theorem cw_a57 (g : WG) (σ : Sg) (j : Nat) (v : Int32) : (cw g σ).set 57 (g.2.2 57, .inl (g.2.1 0, 9, .inl (upd (σ 57) j v))) = cw g (wr σ 57 j v) := rfl
theorem cw_r58 (g : WG) (σ : Sg) (f : Nat → Int32) : (cw g σ).set 58 (g.2.2 58, .inl (g.2.1 0, 9, .inl f)) = cw g (wrR σ 58 f) := rfl
theorem cw_a58 (g : WG) (σ : Sg) (j : Nat) (v : Int32) : (cw g σ).set 58 (g.2.2 58, .inl (g.2.1 0, 9, .inl (upd (σ 58) j v))) = cw g (wr σ 58 j v) := rfl
theorem cw_r59 (g : WG) (σ : Sg) (f : Nat → Int32) : (cw g σ).set 59 (g.2.2 59, .inl (g.2.1 0, 9, .inl f)) = cw g (wrR σ 59 f) := rfl
theorem cw_a59 (g : WG) (σ : Sg) (j : Nat) (v : Int32) : (cw g σ).set 59 (g.2.2 59, .inl (g.2.1 0, 9, .inl (upd (σ 59) j v))) = cw g (wr σ 59 j v) := rfl
theorem cw_r60 (g : WG) (σ : Sg) (f : Nat → Int32) : (cw g σ).set 60 (g.2.2 60, .inl (g.2.1 0, 9, .inl f)) = cw g (wrR σ 60 f) := rfl
theorem cw_a60 (g : WG) (σ : Sg) (j : Nat) (v : Int32) : (cw g σ).set 60 (g.2.2 60, .inl (g.2.1 0, 9, .inl (upd (σ 60) j v))) = cw g (wr σ 60 j v) := rfl
theorem cw_r61 (g : WG) (σ : Sg) (f : Nat → Int32) : (cw g σ).set 61 (g.2.2 61, .inl (g.2.1 0, 9, .inl f)) = cw g (wrR σ 61 f) := rfl
theorem cw_a61 (g : WG) (σ : Sg) (j : Nat) (v : Int32) : (cw g σ).set 61 (g.2.2 61, .inl (g.2.1 0, 9, .inl (upd (σ 61) j v))) = cw g (wr σ 61 j v) := rfl
theorem cw_r62 (g : WG) (σ : Sg) (f : Nat → Int32) : (cw g σ).set 62 (g.2.2 62, .inl (g.2.1 0, 6, .inl f)) = cw g (wrR σ 62 f) := rfl
theorem cw_a62 (g : WG) (σ : Sg) (j : Nat) (v : Int32) : (cw g σ).set 62 (g.2.2 62, .inl (g.2.1 0, 6, .inl (upd (σ 62) j v))) = cw g (wr σ 62 j v) := rfl
theorem cw_r63 (g : WG) (σ : Sg) (f : Nat → Int32) : (cw g σ).set 63 (g.2.2 63, .inl (g.2.1 0, 200, .inl f)) = cw g (wrR σ 63 f) := rfl
theorem cw_a63 (g : WG) (σ : Sg) (j : Nat) (v : Int32) : (cw g σ).set 63 (g.2.2 63, .inl (g.2.1 0, 200, .inl (upd (σ 63) j v))) = cw g (wr σ 63 j v) := rfl
theorem cw_r64 (g : WG) (σ : Sg) (f : Nat → Int32) : (cw g σ).set 64 (g.2.2 64, .inl (g.2.1 0, 8, .inl f)) = cw g (wrR σ 64 f) := rfl
theorem cw_a64 (g : WG) (σ : Sg) (j : Nat) (v : Int32) : (cw g σ).set 64 (g.2.2 64, .inl (g.2.1 0, 8, .inl (upd (σ 64) j v))) = cw g (wr σ 64 j v) := rfl
