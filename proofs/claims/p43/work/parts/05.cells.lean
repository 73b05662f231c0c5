/-! THE WORLDS: the cells of the class and of the reference, by their places -/
def WC (ad : Nat → Nat) (cy : Nat → ClassId) (h : Hp) : va_W := [(ad 0, .inr (9, [.ref (ad 1), .ref (ad 6), .ref (ad 11), .ref (ad 13), .ref (ad 18), .ref (ad 20), .ref (ad 23), .ref (ad 28), .ref (ad 32)])),
  (ad 1, .inr (8, [.int (h.1 1 0), .int (h.1 1 1), .ref (ad 2), .ref (ad 3), .ref (ad 4), .ref (ad 5)])),
  (ad 2, .inl (cy 0, 24, .inl (h.1 2))),
  (ad 3, .inl (cy 0, 24, .inl (h.1 3))),
  (ad 4, .inl (cy 0, 24, .inl (h.1 4))),
  (ad 5, .inl (cy 0, 6, .inl (h.1 5))),
  (ad 6, .inr (8, [.int (h.1 6 0), .int (h.1 6 1), .ref (ad 7), .ref (ad 8), .ref (ad 9), .ref (ad 10)])),
  (ad 7, .inl (cy 0, 24, .inl (h.1 7))),
  (ad 8, .inl (cy 0, 24, .inl (h.1 8))),
  (ad 9, .inl (cy 0, 24, .inl (h.1 9))),
  (ad 10, .inl (cy 0, 6, .inl (h.1 10))),
  (ad 11, .inr (7, [.ref (ad 12), .int (h.1 11 1)])),
  (ad 12, .inl (cy 4, 40, .inl (h.1 12))),
  (ad 13, .inr (4, [.ref (ad 14), .ref (ad 15), .ref (ad 16)])),
  (ad 14, .inl (cy 1, 6, .inr (.inl (h.2 14)))),
  (ad 15, .inl (cy 1, 6, .inr (.inl (h.2 15)))),
  (ad 16, .inr (2, [.ref (ad 17)])),
  (ad 17, .inl (cy 0, 64, .inl (h.1 17))),
  (ad 18, .inr (3, [.ref (ad 19), .int (h.1 18 1)])),
  (ad 19, .inl (cy 1, 72, .inr (.inl (h.2 19)))),
  (ad 20, .inr (6, [.ref (ad 21), .ref (ad 22), .int (h.1 20 2)])),
  (ad 21, .inl (cy 0, 720, .inl (h.1 21))),
  (ad 22, .inl (cy 2, 720, .inl (h.1 22))),
  (ad 23, .inr (1, [.ref (ad 24), .ref (ad 25), .ref (ad 26), .ref (ad 27), .int (h.1 23 4)])),
  (ad 24, .inl (cy 0, 6, .inl (h.1 24))),
  (ad 25, .inl (cy 0, 6, .inl (h.1 25))),
  (ad 26, .inl (cy 0, 6, .inl (h.1 26))),
  (ad 27, .inl (cy 3, 24, .inl (h.1 27))),
  (ad 28, .inr (5, [.ref (ad 29), .ref (ad 30), .ref (ad 31), .int (h.1 28 3)])),
  (ad 29, .inl (cy 2, 3488, .inl (h.1 29))),
  (ad 30, .inl (cy 0, 720, .inl (h.1 30))),
  (ad 31, .inl (cy 0, 35, .inl (h.1 31))),
  (ad 32, .inr (0, [.long (h.2 32 0), .ref (ad 33)])),
  (ad 33, .inr (2, [.ref (ad 34)])),
  (ad 34, .inl (cy 0, 64, .inl (h.1 34)))]
theorem wC_0 (ad : Nat → Nat) (cy : Nat → ClassId) (h : Hp) : (WC ad cy h)[0]? = some (ad 0, .inr (9, [.ref (ad 1), .ref (ad 6), .ref (ad 11), .ref (ad 13), .ref (ad 18), .ref (ad 20), .ref (ad 23), .ref (ad 28), .ref (ad 32)])) := rfl
theorem wC_1 (ad : Nat → Nat) (cy : Nat → ClassId) (h : Hp) : (WC ad cy h)[1]? = some (ad 1, .inr (8, [.int (h.1 1 0), .int (h.1 1 1), .ref (ad 2), .ref (ad 3), .ref (ad 4), .ref (ad 5)])) := rfl
theorem wC_2 (ad : Nat → Nat) (cy : Nat → ClassId) (h : Hp) : (WC ad cy h)[2]? = some (ad 2, .inl (cy 0, 24, .inl (h.1 2))) := rfl
theorem vC_2 (ad : Nat → Nat) (cy : Nat → ClassId) (h : Hp) (f : Nat → Int32) : (WC ad cy h).set 2 (ad 2, .inl (cy 0, 24, .inl f)) = WC ad cy (hI h 2 f) := rfl
theorem wC_3 (ad : Nat → Nat) (cy : Nat → ClassId) (h : Hp) : (WC ad cy h)[3]? = some (ad 3, .inl (cy 0, 24, .inl (h.1 3))) := rfl
theorem vC_3 (ad : Nat → Nat) (cy : Nat → ClassId) (h : Hp) (f : Nat → Int32) : (WC ad cy h).set 3 (ad 3, .inl (cy 0, 24, .inl f)) = WC ad cy (hI h 3 f) := rfl
theorem wC_4 (ad : Nat → Nat) (cy : Nat → ClassId) (h : Hp) : (WC ad cy h)[4]? = some (ad 4, .inl (cy 0, 24, .inl (h.1 4))) := rfl
theorem vC_4 (ad : Nat → Nat) (cy : Nat → ClassId) (h : Hp) (f : Nat → Int32) : (WC ad cy h).set 4 (ad 4, .inl (cy 0, 24, .inl f)) = WC ad cy (hI h 4 f) := rfl
theorem wC_5 (ad : Nat → Nat) (cy : Nat → ClassId) (h : Hp) : (WC ad cy h)[5]? = some (ad 5, .inl (cy 0, 6, .inl (h.1 5))) := rfl
theorem vC_5 (ad : Nat → Nat) (cy : Nat → ClassId) (h : Hp) (f : Nat → Int32) : (WC ad cy h).set 5 (ad 5, .inl (cy 0, 6, .inl f)) = WC ad cy (hI h 5 f) := rfl
theorem wC_6 (ad : Nat → Nat) (cy : Nat → ClassId) (h : Hp) : (WC ad cy h)[6]? = some (ad 6, .inr (8, [.int (h.1 6 0), .int (h.1 6 1), .ref (ad 7), .ref (ad 8), .ref (ad 9), .ref (ad 10)])) := rfl
theorem wC_7 (ad : Nat → Nat) (cy : Nat → ClassId) (h : Hp) : (WC ad cy h)[7]? = some (ad 7, .inl (cy 0, 24, .inl (h.1 7))) := rfl
theorem vC_7 (ad : Nat → Nat) (cy : Nat → ClassId) (h : Hp) (f : Nat → Int32) : (WC ad cy h).set 7 (ad 7, .inl (cy 0, 24, .inl f)) = WC ad cy (hI h 7 f) := rfl
theorem wC_8 (ad : Nat → Nat) (cy : Nat → ClassId) (h : Hp) : (WC ad cy h)[8]? = some (ad 8, .inl (cy 0, 24, .inl (h.1 8))) := rfl
theorem vC_8 (ad : Nat → Nat) (cy : Nat → ClassId) (h : Hp) (f : Nat → Int32) : (WC ad cy h).set 8 (ad 8, .inl (cy 0, 24, .inl f)) = WC ad cy (hI h 8 f) := rfl
theorem wC_9 (ad : Nat → Nat) (cy : Nat → ClassId) (h : Hp) : (WC ad cy h)[9]? = some (ad 9, .inl (cy 0, 24, .inl (h.1 9))) := rfl
theorem vC_9 (ad : Nat → Nat) (cy : Nat → ClassId) (h : Hp) (f : Nat → Int32) : (WC ad cy h).set 9 (ad 9, .inl (cy 0, 24, .inl f)) = WC ad cy (hI h 9 f) := rfl
theorem wC_10 (ad : Nat → Nat) (cy : Nat → ClassId) (h : Hp) : (WC ad cy h)[10]? = some (ad 10, .inl (cy 0, 6, .inl (h.1 10))) := rfl
theorem vC_10 (ad : Nat → Nat) (cy : Nat → ClassId) (h : Hp) (f : Nat → Int32) : (WC ad cy h).set 10 (ad 10, .inl (cy 0, 6, .inl f)) = WC ad cy (hI h 10 f) := rfl
theorem wC_11 (ad : Nat → Nat) (cy : Nat → ClassId) (h : Hp) : (WC ad cy h)[11]? = some (ad 11, .inr (7, [.ref (ad 12), .int (h.1 11 1)])) := rfl
theorem wC_12 (ad : Nat → Nat) (cy : Nat → ClassId) (h : Hp) : (WC ad cy h)[12]? = some (ad 12, .inl (cy 4, 40, .inl (h.1 12))) := rfl
theorem vC_12 (ad : Nat → Nat) (cy : Nat → ClassId) (h : Hp) (f : Nat → Int32) : (WC ad cy h).set 12 (ad 12, .inl (cy 4, 40, .inl f)) = WC ad cy (hI h 12 f) := rfl
theorem wC_13 (ad : Nat → Nat) (cy : Nat → ClassId) (h : Hp) : (WC ad cy h)[13]? = some (ad 13, .inr (4, [.ref (ad 14), .ref (ad 15), .ref (ad 16)])) := rfl
theorem wC_14 (ad : Nat → Nat) (cy : Nat → ClassId) (h : Hp) : (WC ad cy h)[14]? = some (ad 14, .inl (cy 1, 6, .inr (.inl (h.2 14)))) := rfl
theorem vC_14 (ad : Nat → Nat) (cy : Nat → ClassId) (h : Hp) (f : Nat → Int64) : (WC ad cy h).set 14 (ad 14, .inl (cy 1, 6, .inr (.inl f))) = WC ad cy (hL h 14 f) := rfl
theorem wC_15 (ad : Nat → Nat) (cy : Nat → ClassId) (h : Hp) : (WC ad cy h)[15]? = some (ad 15, .inl (cy 1, 6, .inr (.inl (h.2 15)))) := rfl
theorem vC_15 (ad : Nat → Nat) (cy : Nat → ClassId) (h : Hp) (f : Nat → Int64) : (WC ad cy h).set 15 (ad 15, .inl (cy 1, 6, .inr (.inl f))) = WC ad cy (hL h 15 f) := rfl
theorem wC_16 (ad : Nat → Nat) (cy : Nat → ClassId) (h : Hp) : (WC ad cy h)[16]? = some (ad 16, .inr (2, [.ref (ad 17)])) := rfl
theorem wC_17 (ad : Nat → Nat) (cy : Nat → ClassId) (h : Hp) : (WC ad cy h)[17]? = some (ad 17, .inl (cy 0, 64, .inl (h.1 17))) := rfl
theorem vC_17 (ad : Nat → Nat) (cy : Nat → ClassId) (h : Hp) (f : Nat → Int32) : (WC ad cy h).set 17 (ad 17, .inl (cy 0, 64, .inl f)) = WC ad cy (hI h 17 f) := rfl
theorem wC_18 (ad : Nat → Nat) (cy : Nat → ClassId) (h : Hp) : (WC ad cy h)[18]? = some (ad 18, .inr (3, [.ref (ad 19), .int (h.1 18 1)])) := rfl
theorem wC_19 (ad : Nat → Nat) (cy : Nat → ClassId) (h : Hp) : (WC ad cy h)[19]? = some (ad 19, .inl (cy 1, 72, .inr (.inl (h.2 19)))) := rfl
theorem vC_19 (ad : Nat → Nat) (cy : Nat → ClassId) (h : Hp) (f : Nat → Int64) : (WC ad cy h).set 19 (ad 19, .inl (cy 1, 72, .inr (.inl f))) = WC ad cy (hL h 19 f) := rfl
theorem wC_20 (ad : Nat → Nat) (cy : Nat → ClassId) (h : Hp) : (WC ad cy h)[20]? = some (ad 20, .inr (6, [.ref (ad 21), .ref (ad 22), .int (h.1 20 2)])) := rfl
theorem wC_21 (ad : Nat → Nat) (cy : Nat → ClassId) (h : Hp) : (WC ad cy h)[21]? = some (ad 21, .inl (cy 0, 720, .inl (h.1 21))) := rfl
theorem vC_21 (ad : Nat → Nat) (cy : Nat → ClassId) (h : Hp) (f : Nat → Int32) : (WC ad cy h).set 21 (ad 21, .inl (cy 0, 720, .inl f)) = WC ad cy (hI h 21 f) := rfl
theorem wC_22 (ad : Nat → Nat) (cy : Nat → ClassId) (h : Hp) : (WC ad cy h)[22]? = some (ad 22, .inl (cy 2, 720, .inl (h.1 22))) := rfl
theorem vC_22 (ad : Nat → Nat) (cy : Nat → ClassId) (h : Hp) (f : Nat → Int32) : (WC ad cy h).set 22 (ad 22, .inl (cy 2, 720, .inl f)) = WC ad cy (hI h 22 f) := rfl
theorem wC_23 (ad : Nat → Nat) (cy : Nat → ClassId) (h : Hp) : (WC ad cy h)[23]? = some (ad 23, .inr (1, [.ref (ad 24), .ref (ad 25), .ref (ad 26), .ref (ad 27), .int (h.1 23 4)])) := rfl
theorem wC_24 (ad : Nat → Nat) (cy : Nat → ClassId) (h : Hp) : (WC ad cy h)[24]? = some (ad 24, .inl (cy 0, 6, .inl (h.1 24))) := rfl
theorem vC_24 (ad : Nat → Nat) (cy : Nat → ClassId) (h : Hp) (f : Nat → Int32) : (WC ad cy h).set 24 (ad 24, .inl (cy 0, 6, .inl f)) = WC ad cy (hI h 24 f) := rfl
theorem wC_25 (ad : Nat → Nat) (cy : Nat → ClassId) (h : Hp) : (WC ad cy h)[25]? = some (ad 25, .inl (cy 0, 6, .inl (h.1 25))) := rfl
theorem vC_25 (ad : Nat → Nat) (cy : Nat → ClassId) (h : Hp) (f : Nat → Int32) : (WC ad cy h).set 25 (ad 25, .inl (cy 0, 6, .inl f)) = WC ad cy (hI h 25 f) := rfl
theorem wC_26 (ad : Nat → Nat) (cy : Nat → ClassId) (h : Hp) : (WC ad cy h)[26]? = some (ad 26, .inl (cy 0, 6, .inl (h.1 26))) := rfl
theorem vC_26 (ad : Nat → Nat) (cy : Nat → ClassId) (h : Hp) (f : Nat → Int32) : (WC ad cy h).set 26 (ad 26, .inl (cy 0, 6, .inl f)) = WC ad cy (hI h 26 f) := rfl
theorem wC_27 (ad : Nat → Nat) (cy : Nat → ClassId) (h : Hp) : (WC ad cy h)[27]? = some (ad 27, .inl (cy 3, 24, .inl (h.1 27))) := rfl
theorem vC_27 (ad : Nat → Nat) (cy : Nat → ClassId) (h : Hp) (f : Nat → Int32) : (WC ad cy h).set 27 (ad 27, .inl (cy 3, 24, .inl f)) = WC ad cy (hI h 27 f) := rfl
theorem wC_28 (ad : Nat → Nat) (cy : Nat → ClassId) (h : Hp) : (WC ad cy h)[28]? = some (ad 28, .inr (5, [.ref (ad 29), .ref (ad 30), .ref (ad 31), .int (h.1 28 3)])) := rfl
theorem wC_29 (ad : Nat → Nat) (cy : Nat → ClassId) (h : Hp) : (WC ad cy h)[29]? = some (ad 29, .inl (cy 2, 3488, .inl (h.1 29))) := rfl
theorem vC_29 (ad : Nat → Nat) (cy : Nat → ClassId) (h : Hp) (f : Nat → Int32) : (WC ad cy h).set 29 (ad 29, .inl (cy 2, 3488, .inl f)) = WC ad cy (hI h 29 f) := rfl
theorem wC_30 (ad : Nat → Nat) (cy : Nat → ClassId) (h : Hp) : (WC ad cy h)[30]? = some (ad 30, .inl (cy 0, 720, .inl (h.1 30))) := rfl
theorem vC_30 (ad : Nat → Nat) (cy : Nat → ClassId) (h : Hp) (f : Nat → Int32) : (WC ad cy h).set 30 (ad 30, .inl (cy 0, 720, .inl f)) = WC ad cy (hI h 30 f) := rfl
theorem wC_31 (ad : Nat → Nat) (cy : Nat → ClassId) (h : Hp) : (WC ad cy h)[31]? = some (ad 31, .inl (cy 0, 35, .inl (h.1 31))) := rfl
theorem vC_31 (ad : Nat → Nat) (cy : Nat → ClassId) (h : Hp) (f : Nat → Int32) : (WC ad cy h).set 31 (ad 31, .inl (cy 0, 35, .inl f)) = WC ad cy (hI h 31 f) := rfl
theorem wC_32 (ad : Nat → Nat) (cy : Nat → ClassId) (h : Hp) : (WC ad cy h)[32]? = some (ad 32, .inr (0, [.long (h.2 32 0), .ref (ad 33)])) := rfl
theorem wC_33 (ad : Nat → Nat) (cy : Nat → ClassId) (h : Hp) : (WC ad cy h)[33]? = some (ad 33, .inr (2, [.ref (ad 34)])) := rfl
theorem wC_34 (ad : Nat → Nat) (cy : Nat → ClassId) (h : Hp) : (WC ad cy h)[34]? = some (ad 34, .inl (cy 0, 64, .inl (h.1 34))) := rfl
theorem vC_34 (ad : Nat → Nat) (cy : Nat → ClassId) (h : Hp) (f : Nat → Int32) : (WC ad cy h).set 34 (ad 34, .inl (cy 0, 64, .inl f)) = WC ad cy (hI h 34 f) := rfl
