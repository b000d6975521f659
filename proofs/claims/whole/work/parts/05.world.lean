/-- the cells of the class -/
def wC (ad : Nat → Nat) (cI : ClassId) (σ : St) : va_W := [(ad 0, .inr (6, [.ref (ad 1), .ref (ad 2), .ref (ad 3), .ref (ad 4), .ref (ad 5), .ref (ad 6), .int (σ 0 6)])), (ad 1, .inr (1, [.int (σ 1 0), .ref (ad 7), .ref (ad 8), .ref (ad 9), .ref (ad 10), .ref (ad 11), .ref (ad 12), .ref (ad 13)])), (ad 2, .inr (3, [.ref (ad 14), .ref (ad 15)])), (ad 3, .inr (2, [.int (σ 3 0), .ref (ad 16), .ref (ad 17), .ref (ad 18), .ref (ad 19), .ref (ad 20)])), (ad 4, .inr (4, [.ref (ad 1), .ref (ad 3)])), (ad 5, .inr (5, [.ref (ad 1), .ref (ad 3), .ref (ad 4), .int (σ 5 3), .ref (ad 21), .ref (ad 22), .ref (ad 23), .ref (ad 24), .ref (ad 25), .ref (ad 26), .int (σ 5 10)])), (ad 6, .inr (0, [.ref (ad 1), .ref (ad 2), .ref (ad 5), .int (σ 6 3), .ref (ad 27), .ref (ad 28), .ref (ad 29), .ref (ad 30), .ref (ad 31), .ref (ad 32), .ref (ad 33)])), (ad 7, .inl (cI, 24, .inl (σ 7))), (ad 8, .inl (cI, 24, .inl (σ 8))), (ad 9, .inl (cI, 24, .inl (σ 9))), (ad 10, .inl (cI, 24, .inl (σ 10))), (ad 11, .inl (cI, 24, .inl (σ 11))), (ad 12, .inl (cI, 24, .inl (σ 12))), (ad 13, .inl (cI, 24, .inl (σ 13))), (ad 14, .inl (cI, 48, .inl (σ 14))), (ad 15, .inl (cI, 48, .inl (σ 15))), (ad 16, .inl (cI, 12, .inl (σ 16))), (ad 17, .inl (cI, 12, .inl (σ 17))), (ad 18, .inl (cI, 12, .inl (σ 18))), (ad 19, .inl (cI, 12, .inl (σ 19))), (ad 20, .inl (cI, 12, .inl (σ 20))), (ad 21, .inl (cI, 24, .inl (σ 21))), (ad 22, .inl (cI, 24, .inl (σ 22))), (ad 23, .inl (cI, 24, .inl (σ 23))), (ad 24, .inl (cI, 24, .inl (σ 24))), (ad 25, .inl (cI, 24, .inl (σ 25))), (ad 26, .inl (cI, 24, .inl (σ 26))), (ad 27, .inl (cI, 24, .inl (σ 27))), (ad 28, .inl (cI, 24, .inl (σ 28))), (ad 29, .inl (cI, 24, .inl (σ 29))), (ad 30, .inl (cI, 24, .inl (σ 30))), (ad 31, .inl (cI, 24, .inl (σ 31))), (ad 32, .inl (cI, 24, .inl (σ 32))), (ad 33, .inl (cI, 24, .inl (σ 33)))]
theorem wC_ad {ad : Nat → Nat} {cI : ClassId} {σ : St} : (wC ad cI σ).map (fun q => q.1) = (List.range 34).map ad := rfl
theorem wC_D {ad : Nat → Nat} {cI : ClassId} {σ : St} (hN : nj ad 34) : va_D (aw ad 34) (wC ad cI σ) := wd_D hN wC_ad
theorem wC_7 {ad : Nat → Nat} {cI : ClassId} {σ : St} : (wC ad cI σ)[7]? = some (ad 7, .inl (cI, 24, .inl (σ 7))) := rfl
theorem wC_s7 {ad : Nat → Nat} {cI : ClassId} {σ : St} {k : Nat} {v : Int32} : (wC ad cI σ).set 7 (ad 7, .inl (cI, 24, .inl (upd (σ 7) k v))) = wC ad cI (ss σ 7 k v) := rfl
theorem wC_8 {ad : Nat → Nat} {cI : ClassId} {σ : St} : (wC ad cI σ)[8]? = some (ad 8, .inl (cI, 24, .inl (σ 8))) := rfl
theorem wC_s8 {ad : Nat → Nat} {cI : ClassId} {σ : St} {k : Nat} {v : Int32} : (wC ad cI σ).set 8 (ad 8, .inl (cI, 24, .inl (upd (σ 8) k v))) = wC ad cI (ss σ 8 k v) := rfl
theorem wC_9 {ad : Nat → Nat} {cI : ClassId} {σ : St} : (wC ad cI σ)[9]? = some (ad 9, .inl (cI, 24, .inl (σ 9))) := rfl
theorem wC_s9 {ad : Nat → Nat} {cI : ClassId} {σ : St} {k : Nat} {v : Int32} : (wC ad cI σ).set 9 (ad 9, .inl (cI, 24, .inl (upd (σ 9) k v))) = wC ad cI (ss σ 9 k v) := rfl
theorem wC_10 {ad : Nat → Nat} {cI : ClassId} {σ : St} : (wC ad cI σ)[10]? = some (ad 10, .inl (cI, 24, .inl (σ 10))) := rfl
theorem wC_s10 {ad : Nat → Nat} {cI : ClassId} {σ : St} {k : Nat} {v : Int32} : (wC ad cI σ).set 10 (ad 10, .inl (cI, 24, .inl (upd (σ 10) k v))) = wC ad cI (ss σ 10 k v) := rfl
theorem wC_11 {ad : Nat → Nat} {cI : ClassId} {σ : St} : (wC ad cI σ)[11]? = some (ad 11, .inl (cI, 24, .inl (σ 11))) := rfl
theorem wC_s11 {ad : Nat → Nat} {cI : ClassId} {σ : St} {k : Nat} {v : Int32} : (wC ad cI σ).set 11 (ad 11, .inl (cI, 24, .inl (upd (σ 11) k v))) = wC ad cI (ss σ 11 k v) := rfl
theorem wC_12 {ad : Nat → Nat} {cI : ClassId} {σ : St} : (wC ad cI σ)[12]? = some (ad 12, .inl (cI, 24, .inl (σ 12))) := rfl
theorem wC_s12 {ad : Nat → Nat} {cI : ClassId} {σ : St} {k : Nat} {v : Int32} : (wC ad cI σ).set 12 (ad 12, .inl (cI, 24, .inl (upd (σ 12) k v))) = wC ad cI (ss σ 12 k v) := rfl
theorem wC_13 {ad : Nat → Nat} {cI : ClassId} {σ : St} : (wC ad cI σ)[13]? = some (ad 13, .inl (cI, 24, .inl (σ 13))) := rfl
theorem wC_s13 {ad : Nat → Nat} {cI : ClassId} {σ : St} {k : Nat} {v : Int32} : (wC ad cI σ).set 13 (ad 13, .inl (cI, 24, .inl (upd (σ 13) k v))) = wC ad cI (ss σ 13 k v) := rfl
theorem wC_14 {ad : Nat → Nat} {cI : ClassId} {σ : St} : (wC ad cI σ)[14]? = some (ad 14, .inl (cI, 48, .inl (σ 14))) := rfl
theorem wC_s14 {ad : Nat → Nat} {cI : ClassId} {σ : St} {k : Nat} {v : Int32} : (wC ad cI σ).set 14 (ad 14, .inl (cI, 48, .inl (upd (σ 14) k v))) = wC ad cI (ss σ 14 k v) := rfl
theorem wC_15 {ad : Nat → Nat} {cI : ClassId} {σ : St} : (wC ad cI σ)[15]? = some (ad 15, .inl (cI, 48, .inl (σ 15))) := rfl
theorem wC_s15 {ad : Nat → Nat} {cI : ClassId} {σ : St} {k : Nat} {v : Int32} : (wC ad cI σ).set 15 (ad 15, .inl (cI, 48, .inl (upd (σ 15) k v))) = wC ad cI (ss σ 15 k v) := rfl
theorem wC_16 {ad : Nat → Nat} {cI : ClassId} {σ : St} : (wC ad cI σ)[16]? = some (ad 16, .inl (cI, 12, .inl (σ 16))) := rfl
theorem wC_s16 {ad : Nat → Nat} {cI : ClassId} {σ : St} {k : Nat} {v : Int32} : (wC ad cI σ).set 16 (ad 16, .inl (cI, 12, .inl (upd (σ 16) k v))) = wC ad cI (ss σ 16 k v) := rfl
theorem wC_17 {ad : Nat → Nat} {cI : ClassId} {σ : St} : (wC ad cI σ)[17]? = some (ad 17, .inl (cI, 12, .inl (σ 17))) := rfl
theorem wC_s17 {ad : Nat → Nat} {cI : ClassId} {σ : St} {k : Nat} {v : Int32} : (wC ad cI σ).set 17 (ad 17, .inl (cI, 12, .inl (upd (σ 17) k v))) = wC ad cI (ss σ 17 k v) := rfl
theorem wC_18 {ad : Nat → Nat} {cI : ClassId} {σ : St} : (wC ad cI σ)[18]? = some (ad 18, .inl (cI, 12, .inl (σ 18))) := rfl
theorem wC_s18 {ad : Nat → Nat} {cI : ClassId} {σ : St} {k : Nat} {v : Int32} : (wC ad cI σ).set 18 (ad 18, .inl (cI, 12, .inl (upd (σ 18) k v))) = wC ad cI (ss σ 18 k v) := rfl
theorem wC_19 {ad : Nat → Nat} {cI : ClassId} {σ : St} : (wC ad cI σ)[19]? = some (ad 19, .inl (cI, 12, .inl (σ 19))) := rfl
theorem wC_s19 {ad : Nat → Nat} {cI : ClassId} {σ : St} {k : Nat} {v : Int32} : (wC ad cI σ).set 19 (ad 19, .inl (cI, 12, .inl (upd (σ 19) k v))) = wC ad cI (ss σ 19 k v) := rfl
theorem wC_20 {ad : Nat → Nat} {cI : ClassId} {σ : St} : (wC ad cI σ)[20]? = some (ad 20, .inl (cI, 12, .inl (σ 20))) := rfl
theorem wC_s20 {ad : Nat → Nat} {cI : ClassId} {σ : St} {k : Nat} {v : Int32} : (wC ad cI σ).set 20 (ad 20, .inl (cI, 12, .inl (upd (σ 20) k v))) = wC ad cI (ss σ 20 k v) := rfl
theorem wC_21 {ad : Nat → Nat} {cI : ClassId} {σ : St} : (wC ad cI σ)[21]? = some (ad 21, .inl (cI, 24, .inl (σ 21))) := rfl
theorem wC_s21 {ad : Nat → Nat} {cI : ClassId} {σ : St} {k : Nat} {v : Int32} : (wC ad cI σ).set 21 (ad 21, .inl (cI, 24, .inl (upd (σ 21) k v))) = wC ad cI (ss σ 21 k v) := rfl
theorem wC_22 {ad : Nat → Nat} {cI : ClassId} {σ : St} : (wC ad cI σ)[22]? = some (ad 22, .inl (cI, 24, .inl (σ 22))) := rfl
theorem wC_s22 {ad : Nat → Nat} {cI : ClassId} {σ : St} {k : Nat} {v : Int32} : (wC ad cI σ).set 22 (ad 22, .inl (cI, 24, .inl (upd (σ 22) k v))) = wC ad cI (ss σ 22 k v) := rfl
theorem wC_23 {ad : Nat → Nat} {cI : ClassId} {σ : St} : (wC ad cI σ)[23]? = some (ad 23, .inl (cI, 24, .inl (σ 23))) := rfl
theorem wC_s23 {ad : Nat → Nat} {cI : ClassId} {σ : St} {k : Nat} {v : Int32} : (wC ad cI σ).set 23 (ad 23, .inl (cI, 24, .inl (upd (σ 23) k v))) = wC ad cI (ss σ 23 k v) := rfl
theorem wC_24 {ad : Nat → Nat} {cI : ClassId} {σ : St} : (wC ad cI σ)[24]? = some (ad 24, .inl (cI, 24, .inl (σ 24))) := rfl
theorem wC_s24 {ad : Nat → Nat} {cI : ClassId} {σ : St} {k : Nat} {v : Int32} : (wC ad cI σ).set 24 (ad 24, .inl (cI, 24, .inl (upd (σ 24) k v))) = wC ad cI (ss σ 24 k v) := rfl
theorem wC_25 {ad : Nat → Nat} {cI : ClassId} {σ : St} : (wC ad cI σ)[25]? = some (ad 25, .inl (cI, 24, .inl (σ 25))) := rfl
theorem wC_s25 {ad : Nat → Nat} {cI : ClassId} {σ : St} {k : Nat} {v : Int32} : (wC ad cI σ).set 25 (ad 25, .inl (cI, 24, .inl (upd (σ 25) k v))) = wC ad cI (ss σ 25 k v) := rfl
theorem wC_26 {ad : Nat → Nat} {cI : ClassId} {σ : St} : (wC ad cI σ)[26]? = some (ad 26, .inl (cI, 24, .inl (σ 26))) := rfl
theorem wC_s26 {ad : Nat → Nat} {cI : ClassId} {σ : St} {k : Nat} {v : Int32} : (wC ad cI σ).set 26 (ad 26, .inl (cI, 24, .inl (upd (σ 26) k v))) = wC ad cI (ss σ 26 k v) := rfl
theorem wC_27 {ad : Nat → Nat} {cI : ClassId} {σ : St} : (wC ad cI σ)[27]? = some (ad 27, .inl (cI, 24, .inl (σ 27))) := rfl
theorem wC_s27 {ad : Nat → Nat} {cI : ClassId} {σ : St} {k : Nat} {v : Int32} : (wC ad cI σ).set 27 (ad 27, .inl (cI, 24, .inl (upd (σ 27) k v))) = wC ad cI (ss σ 27 k v) := rfl
theorem wC_28 {ad : Nat → Nat} {cI : ClassId} {σ : St} : (wC ad cI σ)[28]? = some (ad 28, .inl (cI, 24, .inl (σ 28))) := rfl
theorem wC_s28 {ad : Nat → Nat} {cI : ClassId} {σ : St} {k : Nat} {v : Int32} : (wC ad cI σ).set 28 (ad 28, .inl (cI, 24, .inl (upd (σ 28) k v))) = wC ad cI (ss σ 28 k v) := rfl
theorem wC_29 {ad : Nat → Nat} {cI : ClassId} {σ : St} : (wC ad cI σ)[29]? = some (ad 29, .inl (cI, 24, .inl (σ 29))) := rfl
theorem wC_s29 {ad : Nat → Nat} {cI : ClassId} {σ : St} {k : Nat} {v : Int32} : (wC ad cI σ).set 29 (ad 29, .inl (cI, 24, .inl (upd (σ 29) k v))) = wC ad cI (ss σ 29 k v) := rfl
theorem wC_30 {ad : Nat → Nat} {cI : ClassId} {σ : St} : (wC ad cI σ)[30]? = some (ad 30, .inl (cI, 24, .inl (σ 30))) := rfl
theorem wC_s30 {ad : Nat → Nat} {cI : ClassId} {σ : St} {k : Nat} {v : Int32} : (wC ad cI σ).set 30 (ad 30, .inl (cI, 24, .inl (upd (σ 30) k v))) = wC ad cI (ss σ 30 k v) := rfl
theorem wC_31 {ad : Nat → Nat} {cI : ClassId} {σ : St} : (wC ad cI σ)[31]? = some (ad 31, .inl (cI, 24, .inl (σ 31))) := rfl
theorem wC_s31 {ad : Nat → Nat} {cI : ClassId} {σ : St} {k : Nat} {v : Int32} : (wC ad cI σ).set 31 (ad 31, .inl (cI, 24, .inl (upd (σ 31) k v))) = wC ad cI (ss σ 31 k v) := rfl
theorem wC_32 {ad : Nat → Nat} {cI : ClassId} {σ : St} : (wC ad cI σ)[32]? = some (ad 32, .inl (cI, 24, .inl (σ 32))) := rfl
theorem wC_s32 {ad : Nat → Nat} {cI : ClassId} {σ : St} {k : Nat} {v : Int32} : (wC ad cI σ).set 32 (ad 32, .inl (cI, 24, .inl (upd (σ 32) k v))) = wC ad cI (ss σ 32 k v) := rfl
theorem wC_33 {ad : Nat → Nat} {cI : ClassId} {σ : St} : (wC ad cI σ)[33]? = some (ad 33, .inl (cI, 24, .inl (σ 33))) := rfl
theorem wC_s33 {ad : Nat → Nat} {cI : ClassId} {σ : St} {k : Nat} {v : Int32} : (wC ad cI σ).set 33 (ad 33, .inl (cI, 24, .inl (upd (σ 33) k v))) = wC ad cI (ss σ 33 k v) := rfl
/-- the cells of the reference -/
def wM (ad : Nat → Nat) (cI cZ : ClassId) (σ : St) : va_W := [(ad 0, .inr (7, [.int (σ 0 0), .ref (ad 1), .ref (ad 2), .ref (ad 3), .ref (ad 4), .ref (ad 5), .ref (ad 6), .ref (ad 7), .ref (ad 8), .ref (ad 9), .int (σ 0 10), .ref (ad 10), .ref (ad 11), .ref (ad 12), .ref (ad 13), .ref (ad 14), .ref (ad 15), .ref (ad 16), .ref (ad 17), .ref (ad 18), .ref (ad 19), .int (σ 0 21), .ref (ad 20), .ref (ad 21), .ref (ad 22), .ref (ad 23), .ref (ad 24), .ref (ad 25), .int (σ 0 28), .ref (ad 26), .ref (ad 27), .ref (ad 28), .ref (ad 29), .int (σ 0 33)])), (ad 1, .inl (cI, 24, .inl (σ 1))), (ad 2, .inl (cI, 24, .inl (σ 2))), (ad 3, .inl (cI, 24, .inl (σ 3))), (ad 4, .inl (cI, 24, .inl (σ 4))), (ad 5, .inl (cI, 24, .inl (σ 5))), (ad 6, .inl (cI, 24, .inl (σ 6))), (ad 7, .inl (cI, 24, .inl (σ 7))), (ad 8, .inl (cI, 48, .inl (σ 8))), (ad 9, .inl (cI, 48, .inl (σ 9))), (ad 10, .inl (cI, 12, .inl (σ 10))), (ad 11, .inl (cI, 12, .inl (σ 11))), (ad 12, .inl (cI, 12, .inl (σ 12))), (ad 13, .inl (cI, 12, .inl (σ 13))), (ad 14, .inl (cI, 12, .inl (σ 14))), (ad 15, .inl (cI, 24, .inl (σ 15))), (ad 16, .inl (cI, 24, .inl (σ 16))), (ad 17, .inl (cI, 24, .inl (σ 17))), (ad 18, .inl (cI, 24, .inl (σ 18))), (ad 19, .inl (cI, 576, .inl (σ 19))), (ad 20, .inl (cI, 24, .inl (σ 20))), (ad 21, .inl (cI, 24, .inl (σ 21))), (ad 22, .inl (cZ, 24, .inl (σ 22))), (ad 23, .inl (cI, 24, .inl (σ 23))), (ad 24, .inl (cI, 24, .inl (σ 24))), (ad 25, .inl (cI, 24, .inl (σ 25))), (ad 26, .inl (cI, 25, .inl (σ 26))), (ad 27, .inl (cZ, 24, .inl (σ 27))), (ad 28, .inl (cI, 24, .inl (σ 28))), (ad 29, .inl (cI, 24, .inl (σ 29)))]
theorem wM_ad {ad : Nat → Nat} {cI cZ : ClassId} {σ : St} : (wM ad cI cZ σ).map (fun q => q.1) = (List.range 30).map ad := rfl
theorem wM_D {ad : Nat → Nat} {cI cZ : ClassId} {σ : St} (hN : nj ad 30) : va_D (aw ad 30) (wM ad cI cZ σ) := wd_D hN wM_ad
theorem wM_1 {ad : Nat → Nat} {cI cZ : ClassId} {σ : St} : (wM ad cI cZ σ)[1]? = some (ad 1, .inl (cI, 24, .inl (σ 1))) := rfl
theorem wM_s1 {ad : Nat → Nat} {cI cZ : ClassId} {σ : St} {k : Nat} {v : Int32} : (wM ad cI cZ σ).set 1 (ad 1, .inl (cI, 24, .inl (upd (σ 1) k v))) = wM ad cI cZ (ss σ 1 k v) := rfl
theorem wM_2 {ad : Nat → Nat} {cI cZ : ClassId} {σ : St} : (wM ad cI cZ σ)[2]? = some (ad 2, .inl (cI, 24, .inl (σ 2))) := rfl
theorem wM_s2 {ad : Nat → Nat} {cI cZ : ClassId} {σ : St} {k : Nat} {v : Int32} : (wM ad cI cZ σ).set 2 (ad 2, .inl (cI, 24, .inl (upd (σ 2) k v))) = wM ad cI cZ (ss σ 2 k v) := rfl
theorem wM_3 {ad : Nat → Nat} {cI cZ : ClassId} {σ : St} : (wM ad cI cZ σ)[3]? = some (ad 3, .inl (cI, 24, .inl (σ 3))) := rfl
theorem wM_s3 {ad : Nat → Nat} {cI cZ : ClassId} {σ : St} {k : Nat} {v : Int32} : (wM ad cI cZ σ).set 3 (ad 3, .inl (cI, 24, .inl (upd (σ 3) k v))) = wM ad cI cZ (ss σ 3 k v) := rfl
theorem wM_4 {ad : Nat → Nat} {cI cZ : ClassId} {σ : St} : (wM ad cI cZ σ)[4]? = some (ad 4, .inl (cI, 24, .inl (σ 4))) := rfl
theorem wM_s4 {ad : Nat → Nat} {cI cZ : ClassId} {σ : St} {k : Nat} {v : Int32} : (wM ad cI cZ σ).set 4 (ad 4, .inl (cI, 24, .inl (upd (σ 4) k v))) = wM ad cI cZ (ss σ 4 k v) := rfl
theorem wM_5 {ad : Nat → Nat} {cI cZ : ClassId} {σ : St} : (wM ad cI cZ σ)[5]? = some (ad 5, .inl (cI, 24, .inl (σ 5))) := rfl
theorem wM_s5 {ad : Nat → Nat} {cI cZ : ClassId} {σ : St} {k : Nat} {v : Int32} : (wM ad cI cZ σ).set 5 (ad 5, .inl (cI, 24, .inl (upd (σ 5) k v))) = wM ad cI cZ (ss σ 5 k v) := rfl
theorem wM_6 {ad : Nat → Nat} {cI cZ : ClassId} {σ : St} : (wM ad cI cZ σ)[6]? = some (ad 6, .inl (cI, 24, .inl (σ 6))) := rfl
theorem wM_s6 {ad : Nat → Nat} {cI cZ : ClassId} {σ : St} {k : Nat} {v : Int32} : (wM ad cI cZ σ).set 6 (ad 6, .inl (cI, 24, .inl (upd (σ 6) k v))) = wM ad cI cZ (ss σ 6 k v) := rfl
theorem wM_7 {ad : Nat → Nat} {cI cZ : ClassId} {σ : St} : (wM ad cI cZ σ)[7]? = some (ad 7, .inl (cI, 24, .inl (σ 7))) := rfl
theorem wM_s7 {ad : Nat → Nat} {cI cZ : ClassId} {σ : St} {k : Nat} {v : Int32} : (wM ad cI cZ σ).set 7 (ad 7, .inl (cI, 24, .inl (upd (σ 7) k v))) = wM ad cI cZ (ss σ 7 k v) := rfl
theorem wM_8 {ad : Nat → Nat} {cI cZ : ClassId} {σ : St} : (wM ad cI cZ σ)[8]? = some (ad 8, .inl (cI, 48, .inl (σ 8))) := rfl
theorem wM_s8 {ad : Nat → Nat} {cI cZ : ClassId} {σ : St} {k : Nat} {v : Int32} : (wM ad cI cZ σ).set 8 (ad 8, .inl (cI, 48, .inl (upd (σ 8) k v))) = wM ad cI cZ (ss σ 8 k v) := rfl
theorem wM_9 {ad : Nat → Nat} {cI cZ : ClassId} {σ : St} : (wM ad cI cZ σ)[9]? = some (ad 9, .inl (cI, 48, .inl (σ 9))) := rfl
theorem wM_s9 {ad : Nat → Nat} {cI cZ : ClassId} {σ : St} {k : Nat} {v : Int32} : (wM ad cI cZ σ).set 9 (ad 9, .inl (cI, 48, .inl (upd (σ 9) k v))) = wM ad cI cZ (ss σ 9 k v) := rfl
theorem wM_10 {ad : Nat → Nat} {cI cZ : ClassId} {σ : St} : (wM ad cI cZ σ)[10]? = some (ad 10, .inl (cI, 12, .inl (σ 10))) := rfl
theorem wM_s10 {ad : Nat → Nat} {cI cZ : ClassId} {σ : St} {k : Nat} {v : Int32} : (wM ad cI cZ σ).set 10 (ad 10, .inl (cI, 12, .inl (upd (σ 10) k v))) = wM ad cI cZ (ss σ 10 k v) := rfl
theorem wM_11 {ad : Nat → Nat} {cI cZ : ClassId} {σ : St} : (wM ad cI cZ σ)[11]? = some (ad 11, .inl (cI, 12, .inl (σ 11))) := rfl
theorem wM_s11 {ad : Nat → Nat} {cI cZ : ClassId} {σ : St} {k : Nat} {v : Int32} : (wM ad cI cZ σ).set 11 (ad 11, .inl (cI, 12, .inl (upd (σ 11) k v))) = wM ad cI cZ (ss σ 11 k v) := rfl
theorem wM_12 {ad : Nat → Nat} {cI cZ : ClassId} {σ : St} : (wM ad cI cZ σ)[12]? = some (ad 12, .inl (cI, 12, .inl (σ 12))) := rfl
theorem wM_s12 {ad : Nat → Nat} {cI cZ : ClassId} {σ : St} {k : Nat} {v : Int32} : (wM ad cI cZ σ).set 12 (ad 12, .inl (cI, 12, .inl (upd (σ 12) k v))) = wM ad cI cZ (ss σ 12 k v) := rfl
theorem wM_13 {ad : Nat → Nat} {cI cZ : ClassId} {σ : St} : (wM ad cI cZ σ)[13]? = some (ad 13, .inl (cI, 12, .inl (σ 13))) := rfl
theorem wM_s13 {ad : Nat → Nat} {cI cZ : ClassId} {σ : St} {k : Nat} {v : Int32} : (wM ad cI cZ σ).set 13 (ad 13, .inl (cI, 12, .inl (upd (σ 13) k v))) = wM ad cI cZ (ss σ 13 k v) := rfl
theorem wM_14 {ad : Nat → Nat} {cI cZ : ClassId} {σ : St} : (wM ad cI cZ σ)[14]? = some (ad 14, .inl (cI, 12, .inl (σ 14))) := rfl
theorem wM_s14 {ad : Nat → Nat} {cI cZ : ClassId} {σ : St} {k : Nat} {v : Int32} : (wM ad cI cZ σ).set 14 (ad 14, .inl (cI, 12, .inl (upd (σ 14) k v))) = wM ad cI cZ (ss σ 14 k v) := rfl
theorem wM_15 {ad : Nat → Nat} {cI cZ : ClassId} {σ : St} : (wM ad cI cZ σ)[15]? = some (ad 15, .inl (cI, 24, .inl (σ 15))) := rfl
theorem wM_s15 {ad : Nat → Nat} {cI cZ : ClassId} {σ : St} {k : Nat} {v : Int32} : (wM ad cI cZ σ).set 15 (ad 15, .inl (cI, 24, .inl (upd (σ 15) k v))) = wM ad cI cZ (ss σ 15 k v) := rfl
theorem wM_16 {ad : Nat → Nat} {cI cZ : ClassId} {σ : St} : (wM ad cI cZ σ)[16]? = some (ad 16, .inl (cI, 24, .inl (σ 16))) := rfl
theorem wM_s16 {ad : Nat → Nat} {cI cZ : ClassId} {σ : St} {k : Nat} {v : Int32} : (wM ad cI cZ σ).set 16 (ad 16, .inl (cI, 24, .inl (upd (σ 16) k v))) = wM ad cI cZ (ss σ 16 k v) := rfl
theorem wM_17 {ad : Nat → Nat} {cI cZ : ClassId} {σ : St} : (wM ad cI cZ σ)[17]? = some (ad 17, .inl (cI, 24, .inl (σ 17))) := rfl
theorem wM_s17 {ad : Nat → Nat} {cI cZ : ClassId} {σ : St} {k : Nat} {v : Int32} : (wM ad cI cZ σ).set 17 (ad 17, .inl (cI, 24, .inl (upd (σ 17) k v))) = wM ad cI cZ (ss σ 17 k v) := rfl
theorem wM_18 {ad : Nat → Nat} {cI cZ : ClassId} {σ : St} : (wM ad cI cZ σ)[18]? = some (ad 18, .inl (cI, 24, .inl (σ 18))) := rfl
theorem wM_s18 {ad : Nat → Nat} {cI cZ : ClassId} {σ : St} {k : Nat} {v : Int32} : (wM ad cI cZ σ).set 18 (ad 18, .inl (cI, 24, .inl (upd (σ 18) k v))) = wM ad cI cZ (ss σ 18 k v) := rfl
theorem wM_19 {ad : Nat → Nat} {cI cZ : ClassId} {σ : St} : (wM ad cI cZ σ)[19]? = some (ad 19, .inl (cI, 576, .inl (σ 19))) := rfl
theorem wM_s19 {ad : Nat → Nat} {cI cZ : ClassId} {σ : St} {k : Nat} {v : Int32} : (wM ad cI cZ σ).set 19 (ad 19, .inl (cI, 576, .inl (upd (σ 19) k v))) = wM ad cI cZ (ss σ 19 k v) := rfl
theorem wM_20 {ad : Nat → Nat} {cI cZ : ClassId} {σ : St} : (wM ad cI cZ σ)[20]? = some (ad 20, .inl (cI, 24, .inl (σ 20))) := rfl
theorem wM_s20 {ad : Nat → Nat} {cI cZ : ClassId} {σ : St} {k : Nat} {v : Int32} : (wM ad cI cZ σ).set 20 (ad 20, .inl (cI, 24, .inl (upd (σ 20) k v))) = wM ad cI cZ (ss σ 20 k v) := rfl
theorem wM_21 {ad : Nat → Nat} {cI cZ : ClassId} {σ : St} : (wM ad cI cZ σ)[21]? = some (ad 21, .inl (cI, 24, .inl (σ 21))) := rfl
theorem wM_s21 {ad : Nat → Nat} {cI cZ : ClassId} {σ : St} {k : Nat} {v : Int32} : (wM ad cI cZ σ).set 21 (ad 21, .inl (cI, 24, .inl (upd (σ 21) k v))) = wM ad cI cZ (ss σ 21 k v) := rfl
theorem wM_22 {ad : Nat → Nat} {cI cZ : ClassId} {σ : St} : (wM ad cI cZ σ)[22]? = some (ad 22, .inl (cZ, 24, .inl (σ 22))) := rfl
theorem wM_s22 {ad : Nat → Nat} {cI cZ : ClassId} {σ : St} {k : Nat} {v : Int32} : (wM ad cI cZ σ).set 22 (ad 22, .inl (cZ, 24, .inl (upd (σ 22) k v))) = wM ad cI cZ (ss σ 22 k v) := rfl
theorem wM_23 {ad : Nat → Nat} {cI cZ : ClassId} {σ : St} : (wM ad cI cZ σ)[23]? = some (ad 23, .inl (cI, 24, .inl (σ 23))) := rfl
theorem wM_s23 {ad : Nat → Nat} {cI cZ : ClassId} {σ : St} {k : Nat} {v : Int32} : (wM ad cI cZ σ).set 23 (ad 23, .inl (cI, 24, .inl (upd (σ 23) k v))) = wM ad cI cZ (ss σ 23 k v) := rfl
theorem wM_24 {ad : Nat → Nat} {cI cZ : ClassId} {σ : St} : (wM ad cI cZ σ)[24]? = some (ad 24, .inl (cI, 24, .inl (σ 24))) := rfl
theorem wM_s24 {ad : Nat → Nat} {cI cZ : ClassId} {σ : St} {k : Nat} {v : Int32} : (wM ad cI cZ σ).set 24 (ad 24, .inl (cI, 24, .inl (upd (σ 24) k v))) = wM ad cI cZ (ss σ 24 k v) := rfl
theorem wM_25 {ad : Nat → Nat} {cI cZ : ClassId} {σ : St} : (wM ad cI cZ σ)[25]? = some (ad 25, .inl (cI, 24, .inl (σ 25))) := rfl
theorem wM_s25 {ad : Nat → Nat} {cI cZ : ClassId} {σ : St} {k : Nat} {v : Int32} : (wM ad cI cZ σ).set 25 (ad 25, .inl (cI, 24, .inl (upd (σ 25) k v))) = wM ad cI cZ (ss σ 25 k v) := rfl
theorem wM_26 {ad : Nat → Nat} {cI cZ : ClassId} {σ : St} : (wM ad cI cZ σ)[26]? = some (ad 26, .inl (cI, 25, .inl (σ 26))) := rfl
theorem wM_s26 {ad : Nat → Nat} {cI cZ : ClassId} {σ : St} {k : Nat} {v : Int32} : (wM ad cI cZ σ).set 26 (ad 26, .inl (cI, 25, .inl (upd (σ 26) k v))) = wM ad cI cZ (ss σ 26 k v) := rfl
theorem wM_27 {ad : Nat → Nat} {cI cZ : ClassId} {σ : St} : (wM ad cI cZ σ)[27]? = some (ad 27, .inl (cZ, 24, .inl (σ 27))) := rfl
theorem wM_s27 {ad : Nat → Nat} {cI cZ : ClassId} {σ : St} {k : Nat} {v : Int32} : (wM ad cI cZ σ).set 27 (ad 27, .inl (cZ, 24, .inl (upd (σ 27) k v))) = wM ad cI cZ (ss σ 27 k v) := rfl
theorem wM_28 {ad : Nat → Nat} {cI cZ : ClassId} {σ : St} : (wM ad cI cZ σ)[28]? = some (ad 28, .inl (cI, 24, .inl (σ 28))) := rfl
theorem wM_s28 {ad : Nat → Nat} {cI cZ : ClassId} {σ : St} {k : Nat} {v : Int32} : (wM ad cI cZ σ).set 28 (ad 28, .inl (cI, 24, .inl (upd (σ 28) k v))) = wM ad cI cZ (ss σ 28 k v) := rfl
theorem wM_29 {ad : Nat → Nat} {cI cZ : ClassId} {σ : St} : (wM ad cI cZ σ)[29]? = some (ad 29, .inl (cI, 24, .inl (σ 29))) := rfl
theorem wM_s29 {ad : Nat → Nat} {cI cZ : ClassId} {σ : St} {k : Nat} {v : Int32} : (wM ad cI cZ σ).set 29 (ad 29, .inl (cI, 24, .inl (upd (σ 29) k v))) = wM ad cI cZ (ss σ 29 k v) := rfl
abbrev rm_X3_pageOf : Room := { frames := 0, cells := 0, slots := 0, locals := 0 }
abbrev rm_X3_has : Room := { frames := 1, cells := 0, slots := 0, locals := 22 }
abbrev rm_X0_lastOnward : Room := { frames := 2, cells := 0, slots := 0, locals := 44 }
abbrev rm_X3_wordOf : Room := { frames := 0, cells := 0, slots := 0, locals := 0 }
abbrev rm_X0_aimOf : Room := { frames := 1, cells := 0, slots := 0, locals := 22 }
abbrev rm_X0_linkToAim : Room := { frames := 2, cells := 0, slots := 0, locals := 47 }
abbrev rm_X0_addFrom : Room := { frames := 0, cells := 0, slots := 0, locals := 0 }
abbrev rm_X0_build : Room := { frames := 3, cells := 0, slots := 0, locals := 69 }
abbrev rm_X0_has : Room := { frames := 0, cells := 0, slots := 0, locals := 0 }
abbrev rm_X0_isBroken : Room := { frames := 0, cells := 0, slots := 0, locals := 0 }
abbrev rm_X0_isRing : Room := { frames := 0, cells := 0, slots := 0, locals := 0 }
abbrev rm_X0_isReadIn : Room := { frames := 0, cells := 0, slots := 0, locals := 0 }
abbrev rm_X0_textsOf : Room := { frames := 1, cells := 0, slots := 0, locals := 23 }
abbrev rm_X0_wordsOf : Room := { frames := 1, cells := 0, slots := 0, locals := 23 }
abbrev rm_X0_pagesOf : Room := { frames := 1, cells := 0, slots := 0, locals := 23 }
abbrev rm_X5_headOf : Room := { frames := 0, cells := 0, slots := 0, locals := 0 }
abbrev rm_X5_textAt : Room := { frames := 0, cells := 0, slots := 0, locals := 0 }
abbrev rm_X5_textsOf : Room := { frames := 0, cells := 0, slots := 0, locals := 0 }
abbrev rm_X0_blockAt : Room := { frames := 1, cells := 0, slots := 0, locals := 24 }
abbrev rm_X0_manyRings : Room := { frames := 1, cells := 0, slots := 0, locals := 21 }
abbrev rm_X0_manyBroken : Room := { frames := 1, cells := 0, slots := 0, locals := 21 }
abbrev rm_X0_manyIdleFrom : Room := { frames := 2, cells := 0, slots := 0, locals := 44 }
abbrev rm_X1_has : Room := { frames := 0, cells := 0, slots := 0, locals := 0 }
abbrev rm_X1_add : Room := { frames := 0, cells := 0, slots := 0, locals := 0 }
abbrev rm_X1_firstIn : Room := { frames := 0, cells := 0, slots := 0, locals := 0 }
abbrev rm_X1_meets : Room := { frames := 1, cells := 0, slots := 0, locals := 28 }
abbrev rm_X1_turnAbout : Room := { frames := 0, cells := 0, slots := 0, locals := 0 }
abbrev rm_X1_manyOf : Room := { frames := 0, cells := 0, slots := 0, locals := 0 }
abbrev rm_X1_headBelow : Room := { frames := 1, cells := 0, slots := 0, locals := 21 }
abbrev rm_X1_isAhead : Room := { frames := 0, cells := 0, slots := 0, locals := 0 }
abbrev rm_X2_has : Room := { frames := 0, cells := 0, slots := 0, locals := 0 }
abbrev rm_X2_add : Room := { frames := 0, cells := 0, slots := 0, locals := 0 }
abbrev rm_X2_turnAbout : Room := { frames := 0, cells := 0, slots := 0, locals := 0 }
abbrev rm_X2_hasUpright : Room := { frames := 0, cells := 0, slots := 0, locals := 0 }
abbrev rm_X2_flatBelow : Room := { frames := 1, cells := 0, slots := 0, locals := 21 }
abbrev rm_X3_put : Room := { frames := 0, cells := 0, slots := 0, locals := 0 }
abbrev rm_X3_forget : Room := { frames := 1, cells := 0, slots := 0, locals := 24 }
abbrev rm_X3_forgetAllOf : Room := { frames := 2, cells := 0, slots := 0, locals := 46 }
abbrev rm_X4_lastColumn : Room := { frames := 1, cells := 0, slots := 0, locals := 26 }
abbrev rm_X4_lastRow : Room := { frames := 2, cells := 0, slots := 0, locals := 49 }
abbrev rm_X4_headOver : Room := { frames := 3, cells := 0, slots := 0, locals := 74 }
abbrev rm_X5_insert : Room := { frames := 1, cells := 0, slots := 0, locals := 22 }
abbrev rm_X5_putUnderHead : Room := { frames := 2, cells := 0, slots := 0, locals := 44 }
abbrev rm_X5_isWithoutStory : Room := { frames := 0, cells := 0, slots := 0, locals := 0 }
abbrev rm_X5_takes : Room := { frames := 1, cells := 0, slots := 0, locals := 26 }
abbrev rm_X5_takerFor : Room := { frames := 2, cells := 0, slots := 0, locals := 52 }
abbrev rm_X5_append : Room := { frames := 0, cells := 0, slots := 0, locals := 0 }
abbrev rm_X5_joinNext : Room := { frames := 3, cells := 0, slots := 0, locals := 75 }
abbrev rm_X5_giveNumbers : Room := { frames := 0, cells := 0, slots := 0, locals := 0 }
abbrev rm_X5_build : Room := { frames := 4, cells := 0, slots := 0, locals := 97 }
abbrev rm_X5_has : Room := { frames := 0, cells := 0, slots := 0, locals := 0 }
abbrev rm_X5_wordsOf : Room := { frames := 0, cells := 0, slots := 0, locals := 0 }
abbrev rm_X5_picturesOf : Room := { frames := 0, cells := 0, slots := 0, locals := 0 }
abbrev rm_X5_joinedOf : Room := { frames := 0, cells := 0, slots := 0, locals := 0 }
abbrev rm_X5_manyJoined : Room := { frames := 0, cells := 0, slots := 0, locals := 0 }
abbrev rm_X5_manyLeftOver : Room := { frames := 1, cells := 0, slots := 0, locals := 23 }
abbrev rm_X5_manyLoosePictures : Room := { frames := 0, cells := 0, slots := 0, locals := 0 }
abbrev rm_X6_isBelow : Room := { frames := 0, cells := 0, slots := 0, locals := 0 }
abbrev rm_X6_isSpan : Room := { frames := 0, cells := 0, slots := 0, locals := 0 }
abbrev rm_X6_block : Room := { frames := 3, cells := 0, slots := 0, locals := 67 }
abbrev rm_X6_words : Room := { frames := 1, cells := 0, slots := 0, locals := 21 }
abbrev rm_X6_line : Room := { frames := 1, cells := 0, slots := 0, locals := 26 }
abbrev rm_X6_back : Room := { frames := 0, cells := 0, slots := 0, locals := 0 }
abbrev rm_X6_erase : Room := { frames := 0, cells := 0, slots := 0, locals := 0 }
abbrev rm_X6_clear : Room := { frames := 0, cells := 0, slots := 0, locals := 0 }
abbrev rm_X6_turn : Room := { frames := 1, cells := 0, slots := 0, locals := 24 }
abbrev rm_X6_ofBlock : Room := { frames := 1, cells := 0, slots := 0, locals := 21 }
abbrev rm_X6_ofLine : Room := { frames := 1, cells := 0, slots := 0, locals := 21 }
abbrev rm_X6_at : Room := { frames := 1, cells := 0, slots := 0, locals := 28 }
abbrev rm_X6_reach : Room := { frames := 3, cells := 0, slots := 0, locals := 74 }
abbrev rm_X6_refresh : Room := { frames := 5, cells := 0, slots := 0, locals := 119 }
abbrev rm_X6_under : Room := { frames := 6, cells := 0, slots := 0, locals := 139 }
abbrev rm_X6_story : Room := { frames := 6, cells := 0, slots := 0, locals := 139 }
abbrev rm_X6_takenBy : Room := { frames := 6, cells := 0, slots := 0, locals := 139 }
abbrev rm_X6_ofStory : Room := { frames := 6, cells := 0, slots := 0, locals := 139 }
abbrev rm_X6_text : Room := { frames := 6, cells := 0, slots := 0, locals := 139 }
abbrev rm_X6_mark : Room := { frames := 2, cells := 0, slots := 0, locals := 44 }
abbrev rm_X6_unmark : Room := { frames := 2, cells := 0, slots := 0, locals := 46 }
abbrev rm_X6_ofMark : Room := { frames := 1, cells := 0, slots := 0, locals := 22 }
abbrev rm_X6_ofArticle : Room := { frames := 6, cells := 0, slots := 0, locals := 139 }
abbrev rm_X6_read : Room := { frames := 6, cells := 0, slots := 0, locals := 139 }
abbrev rm_X6_many : Room := { frames := 6, cells := 0, slots := 0, locals := 139 }
abbrev rm_X7_within : Room := { frames := 0, cells := 0, slots := 0, locals := 0 }
abbrev rm_X7_isBlock : Room := { frames := 1, cells := 0, slots := 0, locals := 22 }
abbrev rm_X7_isMeeting : Room := { frames := 0, cells := 0, slots := 0, locals := 0 }
abbrev rm_X7_block : Room := { frames := 1, cells := 0, slots := 0, locals := 25 }
abbrev rm_X7_words : Room := { frames := 2, cells := 0, slots := 0, locals := 43 }
abbrev rm_X7_line : Room := { frames := 1, cells := 0, slots := 0, locals := 22 }
abbrev rm_X7_back : Room := { frames := 0, cells := 0, slots := 0, locals := 0 }
abbrev rm_X7_erase : Room := { frames := 0, cells := 0, slots := 0, locals := 0 }
abbrev rm_X7_clear : Room := { frames := 0, cells := 0, slots := 0, locals := 0 }
abbrev rm_X7_turn : Room := { frames := 0, cells := 0, slots := 0, locals := 0 }
abbrev rm_X7_ofBlock : Room := { frames := 2, cells := 0, slots := 0, locals := 43 }
abbrev rm_X7_ofLine : Room := { frames := 1, cells := 0, slots := 0, locals := 22 }
abbrev rm_X7_at : Room := { frames := 1, cells := 0, slots := 0, locals := 25 }
abbrev rm_X7_isHead : Room := { frames := 2, cells := 0, slots := 0, locals := 43 }
abbrev rm_X7_isUpright : Room := { frames := 0, cells := 0, slots := 0, locals := 0 }
abbrev rm_X7_reachesAcross : Room := { frames := 1, cells := 0, slots := 0, locals := 25 }
abbrev rm_X7_lastRow : Room := { frames := 2, cells := 0, slots := 0, locals := 48 }
abbrev rm_X7_headOver : Room := { frames := 3, cells := 0, slots := 0, locals := 74 }
abbrev rm_X7_comesBehind : Room := { frames := 0, cells := 0, slots := 0, locals := 0 }
abbrev rm_X7_isAhead : Room := { frames := 0, cells := 0, slots := 0, locals := 0 }
abbrev rm_X7_comesUnder : Room := { frames := 1, cells := 0, slots := 0, locals := 22 }
abbrev rm_X7_takes : Room := { frames := 1, cells := 0, slots := 0, locals := 25 }
abbrev rm_X7_takerNow : Room := { frames := 2, cells := 0, slots := 0, locals := 49 }
abbrev rm_X7_joins : Room := { frames := 3, cells := 0, slots := 0, locals := 72 }
abbrev rm_X7_findStories : Room := { frames := 4, cells := 0, slots := 0, locals := 97 }
abbrev rm_X7_reach : Room := { frames := 3, cells := 0, slots := 0, locals := 74 }
abbrev rm_X7_under : Room := { frames := 4, cells := 0, slots := 0, locals := 97 }
abbrev rm_X7_story : Room := { frames := 5, cells := 0, slots := 0, locals := 120 }
abbrev rm_X7_takenBy : Room := { frames := 5, cells := 0, slots := 0, locals := 120 }
abbrev rm_X7_mark : Room := { frames := 2, cells := 0, slots := 0, locals := 43 }
abbrev rm_X7_unmark : Room := { frames := 2, cells := 0, slots := 0, locals := 43 }
abbrev rm_X7_ofMark : Room := { frames := 2, cells := 0, slots := 0, locals := 43 }
abbrev rm_X7_onwardOf : Room := { frames := 0, cells := 0, slots := 0, locals := 0 }
abbrev rm_X7_aimBy : Room := { frames := 0, cells := 0, slots := 0, locals := 0 }
abbrev rm_X7_lays : Room := { frames := 0, cells := 0, slots := 0, locals := 0 }
abbrev rm_X7_findArticles : Room := { frames := 5, cells := 0, slots := 0, locals := 120 }
abbrev rm_X7_isBroken : Room := { frames := 0, cells := 0, slots := 0, locals := 0 }
abbrev rm_X7_wordsIn : Room := { frames := 0, cells := 0, slots := 0, locals := 0 }
abbrev rm_X7_manyIn : Room := { frames := 0, cells := 0, slots := 0, locals := 0 }
abbrev rm_X7_isStory : Room := { frames := 6, cells := 0, slots := 0, locals := 142 }
abbrev rm_X7_ofStory : Room := { frames := 7, cells := 0, slots := 0, locals := 163 }
abbrev rm_X7_text : Room := { frames := 7, cells := 0, slots := 0, locals := 163 }
abbrev rm_X7_isArticle : Room := { frames := 6, cells := 0, slots := 0, locals := 142 }
abbrev rm_X7_sumOf : Room := { frames := 1, cells := 0, slots := 0, locals := 24 }
abbrev rm_X7_pagesOf : Room := { frames := 0, cells := 0, slots := 0, locals := 0 }
abbrev rm_X7_ofArticle : Room := { frames := 7, cells := 0, slots := 0, locals := 163 }
abbrev rm_X7_read : Room := { frames := 7, cells := 0, slots := 0, locals := 163 }
abbrev rm_X7_manyOfKind : Room := { frames := 0, cells := 0, slots := 0, locals := 0 }
abbrev rm_X7_manyTexts : Room := { frames := 0, cells := 0, slots := 0, locals := 0 }
abbrev rm_X7_manyRings : Room := { frames := 0, cells := 0, slots := 0, locals := 0 }
abbrev rm_X7_manyBroken : Room := { frames := 1, cells := 0, slots := 0, locals := 21 }
abbrev rm_X7_manyIdle : Room := { frames := 0, cells := 0, slots := 0, locals := 0 }
abbrev rm_X7_manyLost : Room := { frames := 0, cells := 0, slots := 0, locals := 0 }
abbrev rm_X7_many : Room := { frames := 6, cells := 0, slots := 0, locals := 142 }
