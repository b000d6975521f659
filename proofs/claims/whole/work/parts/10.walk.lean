section WALK
variable {p : Program} {l : Launch} {e : Env} {s : State} {m : MethodId} {args : Array Value} {below : List Frame} {meth : Method} {c : Code} {D : va_G} {ad : Nat → Nat} {cI cZ : ClassId}
set_option maxHeartbeats 4000000 in
set_option maxRecDepth 100000 in
theorem b_X3_pageOf (X : cx p s m meth c args cX3_pageOf 3 (some .int) RX3 D [(cI, .int)]) (hN : nj ad 34) {σ : St} {a1 a2 : Int32} {r : Int32} (hf : f_X3_pageOf a1 a2 σ = some r) {H : Heap} {locs : List Loc} {ls : Array Slot} (hP : va_P D vwCl (wC ad cI σ) H) (hS : va_S (aw ad 34) s.heap H locs) (hl : lv_has ls 3 [(0, .ref (ad 2)), (1, .int a1), (2, .int a2)]) : W p l e rm_X3_pageOf s m args below meth c H locs 0 0 (MQ below (qI D (wC ad cI) (aw ad 34) r σ) args s 0 0 (aw ad 34)) (F0 m 0 ls []) := by
  obtain ⟨hx, hb, hml, hown, hts, hr, hlk, hK⟩ := id X
  rw [f_X3_pageOf] at hf
  refine lv_aload_n hx hb dX3_pageOf_0 rfl (lv_at hl 0 rfl) ?_
  refine fg_X3_9 X hP dX3_pageOf_1 ?_
  refine lv_iconst (v := 2) hx hb dX3_pageOf_4 rfl ?_
  refine lv_iload_n hx hb dX3_pageOf_5 rfl (lv_at hl 1 rfl) ?_
  refine lv_imul hx hb dX3_pageOf_6 ?_
  refine lv_iload_n hx hb dX3_pageOf_7 rfl (lv_at hl 2 rfl) ?_
  refine lv_iadd hx hb dX3_pageOf_8 ?_
  obtain ⟨hi, x1, e_x1, hf⟩ := ld_some hf
  refine ldr (t0 := 0) X hP wC_14 rfl hi e_x1 dX3_pageOf_9 ?_
  exact rI X hP hS hf dX3_pageOf_10
set_option maxHeartbeats 4000000 in
set_option maxRecDepth 100000 in
theorem c_X3_pageOf {l : Launch} {D : va_G} {ad : Nat → Nat} {cI : ClassId} (hN : nj ad 34) {σ : St} {a1 a2 : Int32} {r : Int32} (hf : f_X3_pageOf a1 a2 σ = some r) : Met l yX3_pageOf (.code yX3_pageOf cX3_pageOf 3 (some .int) :: wsL_law) rm_X3_pageOf (va_Pc [.ref (ad 2), .int a1, .int a2] (pw D (wC ad cI) [(cI, .int)] σ)) (qI D (wC ad cI) (aw ad 34) r σ) 0 0 (aw ad 34) :=
  met_mk (by decide) rfl (Nat.le_of_ble_eq_true rfl) (fun p e s m below meth c X hP ls hl => b_X3_pageOf X hN hf hP va_S.rf hl)
set_option maxHeartbeats 4000000 in
set_option maxRecDepth 100000 in
theorem b_X3_has (X : cx p s m meth c args cX3_has 3 (some .boolean) RX3 D [(cI, .int)]) (hN : nj ad 34) {σ : St} {a1 a2 : Int32} {r : Int32} (hf : f_X3_has a1 a2 σ = some r) {H : Heap} {locs : List Loc} {ls : Array Slot} (hP : va_P D vwCl (wC ad cI σ) H) (hS : va_S (aw ad 34) s.heap H locs) (hl : lv_has ls 3 [(0, .ref (ad 2)), (1, .int a1), (2, .int a2)]) : W p l e rm_X3_has s m args below meth c H locs 0 0 (MQ below (qI D (wC ad cI) (aw ad 34) r σ) args s 0 0 (aw ad 34)) (F0 m 0 ls []) := by
  obtain ⟨hx, hb, hml, hown, hts, hr, hlk, hK⟩ := id X
  rw [f_X3_has] at hf
  refine lv_aload_n hx hb dX3_has_0 rfl (lv_at hl 0 rfl) ?_
  refine lv_iload_n hx hb dX3_has_1 rfl (lv_at hl 1 rfl) ?_
  refine lv_iload_n hx hb dX3_has_2 rfl (lv_at hl 2 rfl) ?_
  obtain ⟨x1, hc, hf⟩ := bi_some hf
  refine kVi (As := [.int a1, .int a2]) (rest := []) (wd := (wC ad cI)) (q0 := 2) (ci := 3) X (c_X3_pageOf (l := l) (D := D) (σ := σ) hN hc) (cw_X3_18 X.2.2.2.2.1 ⟨Nat.le_of_ble_eq_true rfl, Nat.le_of_ble_eq_true rfl⟩) rfl rfl hP hS hl rfl rfl (Nat.le_of_ble_eq_true rfl) dX3_has_3 (fun H locs hP hS => ?_)
  refine lv_bipush (v := (-9)) hx hb dX3_has_6 rfl ?_
  refine lv_icmp_eq (tgt := 15) hx hb dX3_has_8 (by decide) (fun hq => ?_) (fun hq => ?_)
  · have hf := if_t hq hf
    refine lv_iconst (v := 0) hx hb dX3_has_15 rfl ?_
    exact rZ X hP hS hf dX3_has_16
  · have hf := if_f hq hf
    refine lv_iconst (v := 1) hx hb dX3_has_11 rfl ?_
    refine lv_goto (tgt := 16) hx hb dX3_has_12 (by decide) ?_
    exact rZ X hP hS hf dX3_has_16
set_option maxHeartbeats 4000000 in
set_option maxRecDepth 100000 in
theorem c_X3_has {l : Launch} {D : va_G} {ad : Nat → Nat} {cI : ClassId} (hN : nj ad 34) {σ : St} {a1 a2 : Int32} {r : Int32} (hf : f_X3_has a1 a2 σ = some r) : Met l yX3_has (.code yX3_has cX3_has 3 (some .boolean) :: wsL_law) rm_X3_has (va_Pc [.ref (ad 2), .int a1, .int a2] (pw D (wC ad cI) [(cI, .int)] σ)) (qI D (wC ad cI) (aw ad 34) r σ) 0 0 (aw ad 34) :=
  met_mk (by decide) rfl (Nat.le_of_ble_eq_true rfl) (fun p e s m below meth c X hP ls hl => b_X3_has X hN hf hP va_S.rf hl)
set_option maxHeartbeats 4000000 in
set_option maxRecDepth 100000 in
theorem b_X0_lastOnward_L5 (X : cx p s m meth c args cX0_lastOnward 5 (some .int) RX0 D [(cI, .int)]) (hN : nj ad 34) : ∀ (n : Nat) {σ : St} {a1 a2 a3 : Int32} {r : Int32}, f_X0_lastOnward_L5 σ n a1 a2 a3 = some r → ∀ {H : Heap} {locs : List Loc} {ls : Array Slot}, va_P D vwCl (wC ad cI σ) H → va_S (aw ad 34) s.heap H locs → lv_has ls 5 [(0, .ref (ad 6)), (1, .int a1), (2, .int a2), (3, .int a3)] → W p l e rm_X0_lastOnward s m args below meth c H locs 0 0 (MQ below (qI D (wC ad cI) (aw ad 34) r σ) args s 0 0 (aw ad 34)) (F0 m 5 ls []) := by
  intro n
  induction n with
  | zero =>
    intro σ a1 a2 a3 r hf
    rw [f_X0_lastOnward_L5] at hf
    cases hf
  | succ n ih =>
    intro σ a1 a2 a3 r hf H locs ls hP hS hl
    obtain ⟨hx, hb, hml, hown, hts, hr, hlk, hK⟩ := id X
    rw [f_X0_lastOnward_L5] at hf
    refine lv_iload_n hx hb dX0_lastOnward_5 rfl (lv_at hl 3 rfl) ?_
    refine lv_aload_n hx hb dX0_lastOnward_6 rfl (lv_at hl 0 rfl) ?_
    refine fg_X0_41 X hP dX0_lastOnward_7 ?_
    obtain ⟨x1, e_x1, hf⟩ := lf_some hf
    refine fg_X0_63 X hP e_x1 dX0_lastOnward_10 ?_
    refine lv_icmp_ge (tgt := 63) hx hb dX0_lastOnward_13 (by decide) (fun hq => ?_) (fun hq => ?_)
    · have hf := if_t hq hf
      refine lv_iload_n hx hb dX0_lastOnward_63 rfl (lv_at hl 2 rfl) ?_
      exact rI X hP hS hf dX0_lastOnward_64
    · have hf := if_f hq hf
      refine lv_aload_n hx hb dX0_lastOnward_16 rfl (lv_at hl 0 rfl) ?_
      refine fg_X0_41 X hP dX0_lastOnward_17 ?_
      refine fg_X0_66 X hP dX0_lastOnward_20 ?_
      refine lv_iload_n hx hb dX0_lastOnward_23 rfl (lv_at hl 3 rfl) ?_
      obtain ⟨hi, x2, e_x2, hf⟩ := ld_some hf
      refine ldr (t0 := 0) X hP wC_26 rfl hi e_x2 dX0_lastOnward_24 ?_
      refine lv_istore (lv' := [(4, .int x2), (0, .ref (ad 6)), (1, .int a1), (2, .int a2), (3, .int a3)]) hx hb dX0_lastOnward_25 hl (by decide) rfl (fun ls hl => ?_)
      refine lv_aload_n hx hb dX0_lastOnward_27 rfl (lv_at hl 1 rfl) ?_
      refine fg_X0_41 X hP dX0_lastOnward_28 ?_
      refine fg_X0_69 X hP dX0_lastOnward_31 ?_
      refine lv_iload hx hb dX0_lastOnward_34 (lv_at hl 0 rfl) ?_
      obtain ⟨hi, x3, e_x3, hf⟩ := ld_some hf
      refine ldr (t0 := 0) X hP wC_24 rfl hi e_x3 dX0_lastOnward_36 ?_
      refine lv_iload_n hx hb dX0_lastOnward_37 rfl (lv_at hl 2 rfl) ?_
      refine lv_icmp_ne (tgt := 57) hx hb dX0_lastOnward_38 (by decide) (fun hq => ?_) (fun hq => ?_)
      · have hf := if_f hq hf
        refine lv_iinc (v := (a3 + 1)) (lv' := [(3, .int (a3 + 1)), (4, .int x2), (0, .ref (ad 6)), (1, .int a1), (2, .int a2)]) hx hb dX0_lastOnward_57 hl (k := 4) rfl rfl (by decide) rfl (fun ls hl => ?_)
        refine lv_goto (tgt := 5) hx hb dX0_lastOnward_60 (by decide) ?_
        exact ih hf hP hS (lv_sub hl [2, 3, 4, 0] rfl)
      · have hf := if_t hq hf
        refine lv_aload_n hx hb dX0_lastOnward_41 rfl (lv_at hl 1 rfl) ?_
        refine fg_X0_37 X hP dX0_lastOnward_42 ?_
        refine lv_iload hx hb dX0_lastOnward_45 (lv_at hl 0 rfl) ?_
        refine lv_iconst (v := 0) hx hb dX0_lastOnward_47 rfl ?_
        obtain ⟨x4, hc, hf⟩ := bi_some hf
        refine kVi (As := [.int x2, .int 0]) (rest := []) (wd := (wC ad cI)) (q0 := 2) (ci := 3) X (c_X3_has (l := l) (D := D) (σ := σ) hN hc) (cw_X0_72 X.2.2.2.2.1 ⟨Nat.le_of_ble_eq_true rfl, Nat.le_of_ble_eq_true rfl⟩) rfl rfl hP hS hl rfl rfl (Nat.le_of_ble_eq_true rfl) dX0_lastOnward_48 (fun H locs hP hS => ?_)
        refine lv_if_eq (tgt := 57) hx hb dX0_lastOnward_51 (by decide) (fun hq => ?_) (fun hq => ?_)
        · have hf := if_t hq hf
          refine lv_iinc (v := (a3 + 1)) (lv' := [(3, .int (a3 + 1)), (4, .int x2), (0, .ref (ad 6)), (1, .int a1), (2, .int a2)]) hx hb dX0_lastOnward_57 hl (k := 4) rfl rfl (by decide) rfl (fun ls hl => ?_)
          refine lv_goto (tgt := 5) hx hb dX0_lastOnward_60 (by decide) ?_
          exact ih hf hP hS (lv_sub hl [2, 3, 4, 0] rfl)
        · have hf := if_f hq hf
          refine lv_iload hx hb dX0_lastOnward_54 (lv_at hl 0 rfl) ?_
          refine lv_istore_n (lv' := [(2, .int x2), (4, .int x2), (0, .ref (ad 6)), (1, .int a1), (3, .int a3)]) hx hb dX0_lastOnward_56 rfl hl (by decide) rfl (fun ls hl => ?_)
          refine lv_iinc (v := (a3 + 1)) (lv' := [(3, .int (a3 + 1)), (2, .int x2), (4, .int x2), (0, .ref (ad 6)), (1, .int a1)]) hx hb dX0_lastOnward_57 hl (k := 4) rfl rfl (by decide) rfl (fun ls hl => ?_)
          refine lv_goto (tgt := 5) hx hb dX0_lastOnward_60 (by decide) ?_
          exact ih hf hP hS (lv_sub hl [3, 4, 1, 0] rfl)
set_option maxHeartbeats 4000000 in
set_option maxRecDepth 100000 in
theorem b_X0_lastOnward (X : cx p s m meth c args cX0_lastOnward 5 (some .int) RX0 D [(cI, .int)]) (hN : nj ad 34) {σ : St} {a1 : Int32} {r : Int32} (hf : f_X0_lastOnward a1 σ = some r) {H : Heap} {locs : List Loc} {ls : Array Slot} (hP : va_P D vwCl (wC ad cI σ) H) (hS : va_S (aw ad 34) s.heap H locs) (hl : lv_has ls 5 [(0, .ref (ad 6)), (1, .int a1)]) : W p l e rm_X0_lastOnward s m args below meth c H locs 0 0 (MQ below (qI D (wC ad cI) (aw ad 34) r σ) args s 0 0 (aw ad 34)) (F0 m 0 ls []) := by
  obtain ⟨hx, hb, hml, hown, hts, hr, hlk, hK⟩ := id X
  rw [f_X0_lastOnward] at hf
  refine lv_bipush (v := (-9)) hx hb dX0_lastOnward_0 rfl ?_
  refine lv_istore_n (lv' := [(2, .int (-9)), (0, .ref (ad 6)), (1, .int a1)]) hx hb dX0_lastOnward_2 rfl hl (by decide) rfl (fun ls hl => ?_)
  refine lv_iconst (v := 0) hx hb dX0_lastOnward_3 rfl ?_
  refine lv_istore_n (lv' := [(3, .int 0), (2, .int (-9)), (0, .ref (ad 6)), (1, .int a1)]) hx hb dX0_lastOnward_4 rfl hl (by decide) rfl (fun ls hl => ?_)
  exact b_X0_lastOnward_L5 X hN _ hf hP hS (lv_sub hl [2, 3, 1, 0] rfl)
set_option maxHeartbeats 4000000 in
set_option maxRecDepth 100000 in
theorem c_X0_lastOnward {l : Launch} {D : va_G} {ad : Nat → Nat} {cI : ClassId} (hN : nj ad 34) {σ : St} {a1 : Int32} {r : Int32} (hf : f_X0_lastOnward a1 σ = some r) : Met l yX0_lastOnward (.code yX0_lastOnward cX0_lastOnward 5 (some .int) :: wsL_law) rm_X0_lastOnward (va_Pc [.ref (ad 6), .int a1] (pw D (wC ad cI) [(cI, .int)] σ)) (qI D (wC ad cI) (aw ad 34) r σ) 0 0 (aw ad 34) :=
  met_mk (by decide) rfl (Nat.le_of_ble_eq_true rfl) (fun p e s m below meth c X hP ls hl => b_X0_lastOnward X hN hf hP va_S.rf hl)
set_option maxHeartbeats 4000000 in
set_option maxRecDepth 100000 in
theorem b_X3_wordOf (X : cx p s m meth c args cX3_wordOf 3 (some .int) RX3 D [(cI, .int)]) (hN : nj ad 34) {σ : St} {a1 a2 : Int32} {r : Int32} (hf : f_X3_wordOf a1 a2 σ = some r) {H : Heap} {locs : List Loc} {ls : Array Slot} (hP : va_P D vwCl (wC ad cI σ) H) (hS : va_S (aw ad 34) s.heap H locs) (hl : lv_has ls 3 [(0, .ref (ad 2)), (1, .int a1), (2, .int a2)]) : W p l e rm_X3_wordOf s m args below meth c H locs 0 0 (MQ below (qI D (wC ad cI) (aw ad 34) r σ) args s 0 0 (aw ad 34)) (F0 m 0 ls []) := by
  obtain ⟨hx, hb, hml, hown, hts, hr, hlk, hK⟩ := id X
  rw [f_X3_wordOf] at hf
  refine lv_aload_n hx hb dX3_wordOf_0 rfl (lv_at hl 0 rfl) ?_
  refine fg_X3_15 X hP dX3_wordOf_1 ?_
  refine lv_iconst (v := 2) hx hb dX3_wordOf_4 rfl ?_
  refine lv_iload_n hx hb dX3_wordOf_5 rfl (lv_at hl 1 rfl) ?_
  refine lv_imul hx hb dX3_wordOf_6 ?_
  refine lv_iload_n hx hb dX3_wordOf_7 rfl (lv_at hl 2 rfl) ?_
  refine lv_iadd hx hb dX3_wordOf_8 ?_
  obtain ⟨hi, x1, e_x1, hf⟩ := ld_some hf
  refine ldr (t0 := 0) X hP wC_15 rfl hi e_x1 dX3_wordOf_9 ?_
  exact rI X hP hS hf dX3_wordOf_10
set_option maxHeartbeats 4000000 in
set_option maxRecDepth 100000 in
theorem c_X3_wordOf {l : Launch} {D : va_G} {ad : Nat → Nat} {cI : ClassId} (hN : nj ad 34) {σ : St} {a1 a2 : Int32} {r : Int32} (hf : f_X3_wordOf a1 a2 σ = some r) : Met l yX3_wordOf (.code yX3_wordOf cX3_wordOf 3 (some .int) :: wsL_law) rm_X3_wordOf (va_Pc [.ref (ad 2), .int a1, .int a2] (pw D (wC ad cI) [(cI, .int)] σ)) (qI D (wC ad cI) (aw ad 34) r σ) 0 0 (aw ad 34) :=
  met_mk (by decide) rfl (Nat.le_of_ble_eq_true rfl) (fun p e s m below meth c X hP ls hl => b_X3_wordOf X hN hf hP va_S.rf hl)
set_option maxHeartbeats 4000000 in
set_option maxRecDepth 100000 in
theorem b_X0_aimOf_B76 (X : cx p s m meth c args cX0_aimOf 6 (some .int) RX0 D [(cI, .int)]) (hN : nj ad 34) {σ : St} {a1 a2 a3 a4 t0 : Int32} {r : Int32} {K : Int32 → Int32 → Int32 → Int32 → Option Int32} (hk : ∀ {b1 b2 b3 b4 : Int32} {H : Heap} {locs : List Loc} {ls : Array Slot}, K b1 b2 b3 b4 = some r → va_P D vwCl (wC ad cI σ) H → va_S (aw ad 34) s.heap H locs → lv_has ls 6 [(0, .ref (ad 6)), (1, .int b1), (2, .int b2), (3, .int b3), (4, .int b4)] → W p l e rm_X0_aimOf s m args below meth c H locs 0 0 (MQ below (qI D (wC ad cI) (aw ad 34) r σ) args s 0 0 (aw ad 34)) (F0 m 23 ls [])) (hf : f_X0_aimOf_B76 σ K a1 a2 a3 a4 t0 = some r) {H : Heap} {locs : List Loc} {ls : Array Slot} (hP : va_P D vwCl (wC ad cI σ) H) (hS : va_S (aw ad 34) s.heap H locs) (hl : lv_has ls 6 [(0, .ref (ad 6)), (1, .int a1), (2, .int a2), (3, .int a3), (4, .int a4)]) : W p l e rm_X0_aimOf s m args below meth c H locs 0 0 (MQ below (qI D (wC ad cI) (aw ad 34) r σ) args s 0 0 (aw ad 34)) (F0 m 76 ls [.int t0]) := by
  obtain ⟨hx, hb, hml, hown, hts, hr, hlk, hK⟩ := id X
  rw [f_X0_aimOf_B76] at hf
  refine lv_istore (lv' := [(5, .int t0), (0, .ref (ad 6)), (1, .int a1), (2, .int a2), (3, .int a3), (4, .int a4)]) hx hb dX0_aimOf_76 hl (by decide) rfl (fun ls hl => ?_)
  refine lv_aload_n hx hb dX0_aimOf_78 rfl (lv_at hl 1 rfl) ?_
  refine fg_X0_33 X hP dX0_aimOf_79 ?_
  refine fg_X0_91 X hP dX0_aimOf_82 ?_
  refine lv_iload hx hb dX0_aimOf_85 (lv_at hl 5 rfl) ?_
  obtain ⟨hi, x1, e_x1, hf⟩ := ld_some hf
  refine ldr (t0 := 0) X hP wC_7 rfl hi e_x1 dX0_aimOf_87 ?_
  refine lv_iload_n hx hb dX0_aimOf_88 rfl (lv_at hl 3 rfl) ?_
  refine lv_icmp_ne (tgt := 108) hx hb dX0_aimOf_89 (by decide) (fun hq => ?_) (fun hq => ?_)
  · have hf := if_f hq hf
    refine lv_iinc (v := (a4 + 1)) (lv' := [(4, .int (a4 + 1)), (5, .int t0), (0, .ref (ad 6)), (1, .int a1), (2, .int a2), (3, .int a3)]) hx hb dX0_aimOf_108 hl (k := 5) rfl rfl (by decide) rfl (fun ls hl => ?_)
    refine lv_goto (tgt := 23) hx hb dX0_aimOf_111 (by decide) ?_
    exact hk hf hP hS (lv_sub hl [2, 3, 4, 5, 0] rfl)
  · have hf := if_t hq hf
    refine lv_iload hx hb dX0_aimOf_92 (lv_at hl 0 rfl) ?_
    refine lv_if_eq (tgt := 108) hx hb dX0_aimOf_94 (by decide) (fun hq => ?_) (fun hq => ?_)
    · have hf := if_t hq hf
      refine lv_iinc (v := (a4 + 1)) (lv' := [(4, .int (a4 + 1)), (5, .int t0), (0, .ref (ad 6)), (1, .int a1), (2, .int a2), (3, .int a3)]) hx hb dX0_aimOf_108 hl (k := 5) rfl rfl (by decide) rfl (fun ls hl => ?_)
      refine lv_goto (tgt := 23) hx hb dX0_aimOf_111 (by decide) ?_
      exact hk hf hP hS (lv_sub hl [2, 3, 4, 5, 0] rfl)
    · have hf := if_f hq hf
      refine lv_aload_n hx hb dX0_aimOf_97 rfl (lv_at hl 1 rfl) ?_
      refine fg_X0_41 X hP dX0_aimOf_98 ?_
      refine fg_X0_69 X hP dX0_aimOf_101 ?_
      refine lv_iload hx hb dX0_aimOf_104 (lv_at hl 5 rfl) ?_
      obtain ⟨hi, x2, e_x2, hf⟩ := ld_some hf
      refine ldr (t0 := 0) X hP wC_24 rfl hi e_x2 dX0_aimOf_106 ?_
      exact rI X hP hS hf dX0_aimOf_107
set_option maxHeartbeats 4000000 in
set_option maxRecDepth 100000 in
theorem b_X0_aimOf_B75 (X : cx p s m meth c args cX0_aimOf 6 (some .int) RX0 D [(cI, .int)]) (hN : nj ad 34) {σ : St} {a1 a2 a3 a4 : Int32} {r : Int32} {K : Int32 → Int32 → Int32 → Int32 → Option Int32} (hk : ∀ {b1 b2 b3 b4 : Int32} {H : Heap} {locs : List Loc} {ls : Array Slot}, K b1 b2 b3 b4 = some r → va_P D vwCl (wC ad cI σ) H → va_S (aw ad 34) s.heap H locs → lv_has ls 6 [(0, .ref (ad 6)), (1, .int b1), (2, .int b2), (3, .int b3), (4, .int b4)] → W p l e rm_X0_aimOf s m args below meth c H locs 0 0 (MQ below (qI D (wC ad cI) (aw ad 34) r σ) args s 0 0 (aw ad 34)) (F0 m 23 ls [])) (hf : f_X0_aimOf_B75 σ K a1 a2 a3 a4 = some r) {H : Heap} {locs : List Loc} {ls : Array Slot} (hP : va_P D vwCl (wC ad cI σ) H) (hS : va_S (aw ad 34) s.heap H locs) (hl : lv_has ls 6 [(0, .ref (ad 6)), (1, .int a1), (2, .int a2), (3, .int a3), (4, .int a4)]) : W p l e rm_X0_aimOf s m args below meth c H locs 0 0 (MQ below (qI D (wC ad cI) (aw ad 34) r σ) args s 0 0 (aw ad 34)) (F0 m 75 ls []) := by
  obtain ⟨hx, hb, hml, hown, hts, hr, hlk, hK⟩ := id X
  rw [f_X0_aimOf_B75] at hf
  refine lv_iconst (v := 0) hx hb dX0_aimOf_75 rfl ?_
  exact b_X0_aimOf_B76 X hN hk hf hP hS (lv_sub hl [0, 1, 2, 3, 4] rfl)
set_option maxHeartbeats 4000000 in
set_option maxRecDepth 100000 in
theorem b_X0_aimOf_L23 (X : cx p s m meth c args cX0_aimOf 6 (some .int) RX0 D [(cI, .int)]) (hN : nj ad 34) : ∀ (n : Nat) {σ : St} {a1 a2 a3 a4 : Int32} {r : Int32}, f_X0_aimOf_L23 σ n a1 a2 a3 a4 = some r → ∀ {H : Heap} {locs : List Loc} {ls : Array Slot}, va_P D vwCl (wC ad cI σ) H → va_S (aw ad 34) s.heap H locs → lv_has ls 6 [(0, .ref (ad 6)), (1, .int a1), (2, .int a2), (3, .int a3), (4, .int a4)] → W p l e rm_X0_aimOf s m args below meth c H locs 0 0 (MQ below (qI D (wC ad cI) (aw ad 34) r σ) args s 0 0 (aw ad 34)) (F0 m 23 ls []) := by
  intro n
  induction n with
  | zero =>
    intro σ a1 a2 a3 a4 r hf
    rw [f_X0_aimOf_L23] at hf
    cases hf
  | succ n ih =>
    intro σ a1 a2 a3 a4 r hf H locs ls hP hS hl
    obtain ⟨hx, hb, hml, hown, hts, hr, hlk, hK⟩ := id X
    rw [f_X0_aimOf_L23] at hf
    refine lv_iload hx hb dX0_aimOf_23 (lv_at hl 4 rfl) ?_
    refine lv_aload_n hx hb dX0_aimOf_25 rfl (lv_at hl 0 rfl) ?_
    refine fg_X0_33 X hP dX0_aimOf_26 ?_
    obtain ⟨x1, e_x1, hf⟩ := lf_some hf
    refine fg_X0_88 X hP e_x1 dX0_aimOf_29 ?_
    refine lv_icmp_ge (tgt := 114) hx hb dX0_aimOf_32 (by decide) (fun hq => ?_) (fun hq => ?_)
    · have hf := if_t hq hf
      refine lv_bipush (v := (-9)) hx hb dX0_aimOf_114 rfl ?_
      exact rI X hP hS hf dX0_aimOf_116
    · have hf := if_f hq hf
      refine lv_aload_n hx hb dX0_aimOf_35 rfl (lv_at hl 0 rfl) ?_
      refine fg_X0_37 X hP dX0_aimOf_36 ?_
      refine lv_iload hx hb dX0_aimOf_39 (lv_at hl 4 rfl) ?_
      refine lv_iconst (v := 1) hx hb dX0_aimOf_41 rfl ?_
      obtain ⟨x2, hc, hf⟩ := bi_some hf
      refine kVi (As := [.int a4, .int 1]) (rest := []) (wd := (wC ad cI)) (q0 := 2) (ci := 3) X (c_X3_pageOf (l := l) (D := D) (σ := σ) hN hc) (cw_X0_81 X.2.2.2.2.1 ⟨Nat.le_of_ble_eq_true rfl, Nat.le_of_ble_eq_true rfl⟩) rfl rfl hP hS hl rfl rfl (Nat.le_of_ble_eq_true rfl) dX0_aimOf_42 (fun H locs hP hS => ?_)
      refine lv_aload_n hx hb dX0_aimOf_45 rfl (lv_at hl 0 rfl) ?_
      refine fg_X0_33 X hP dX0_aimOf_46 ?_
      refine fg_X0_91 X hP dX0_aimOf_49 ?_
      refine lv_iload_n hx hb dX0_aimOf_52 rfl (lv_at hl 1 rfl) ?_
      obtain ⟨hi, x3, e_x3, hf⟩ := ld_some hf
      refine ldr (t0 := 0) X hP wC_7 rfl hi e_x3 dX0_aimOf_53 ?_
      refine lv_icmp_ne (tgt := 75) hx hb dX0_aimOf_54 (by decide) (fun hq => ?_) (fun hq => ?_)
      · have hf := if_f hq hf
        exact b_X0_aimOf_B75 X hN (fun hf hP hS hl => ih hf hP hS hl) hf hP hS (lv_sub hl [0, 1, 2, 3, 4] rfl)
      · have hf := if_t hq hf
        refine lv_aload_n hx hb dX0_aimOf_57 rfl (lv_at hl 0 rfl) ?_
        refine fg_X0_37 X hP dX0_aimOf_58 ?_
        refine lv_iload hx hb dX0_aimOf_61 (lv_at hl 4 rfl) ?_
        refine lv_iconst (v := 1) hx hb dX0_aimOf_63 rfl ?_
        obtain ⟨x4, hc, hf⟩ := bi_some hf
        refine kVi (As := [.int a4, .int 1]) (rest := []) (wd := (wC ad cI)) (q0 := 2) (ci := 3) X (c_X3_wordOf (l := l) (D := D) (σ := σ) hN hc) (cw_X0_85 X.2.2.2.2.1 ⟨Nat.le_of_ble_eq_true rfl, Nat.le_of_ble_eq_true rfl⟩) rfl rfl hP hS hl rfl rfl (Nat.le_of_ble_eq_true rfl) dX0_aimOf_64 (fun H locs hP hS => ?_)
        refine lv_iload_n hx hb dX0_aimOf_67 rfl (lv_at hl 3 rfl) ?_
        refine lv_icmp_ne (tgt := 75) hx hb dX0_aimOf_68 (by decide) (fun hq => ?_) (fun hq => ?_)
        · have hf := if_f hq hf
          exact b_X0_aimOf_B75 X hN (fun hf hP hS hl => ih hf hP hS hl) hf hP hS (lv_sub hl [0, 1, 2, 3, 4] rfl)
        · have hf := if_t hq hf
          refine lv_iconst (v := 1) hx hb dX0_aimOf_71 rfl ?_
          refine lv_goto (tgt := 76) hx hb dX0_aimOf_72 (by decide) ?_
          exact b_X0_aimOf_B76 X hN (fun hf hP hS hl => ih hf hP hS hl) hf hP hS (lv_sub hl [0, 1, 2, 3, 4] rfl)
set_option maxHeartbeats 4000000 in
set_option maxRecDepth 100000 in
theorem b_X0_aimOf (X : cx p s m meth c args cX0_aimOf 6 (some .int) RX0 D [(cI, .int)]) (hN : nj ad 34) {σ : St} {a1 : Int32} {r : Int32} (hf : f_X0_aimOf a1 σ = some r) {H : Heap} {locs : List Loc} {ls : Array Slot} (hP : va_P D vwCl (wC ad cI σ) H) (hS : va_S (aw ad 34) s.heap H locs) (hl : lv_has ls 6 [(0, .ref (ad 6)), (1, .int a1)]) : W p l e rm_X0_aimOf s m args below meth c H locs 0 0 (MQ below (qI D (wC ad cI) (aw ad 34) r σ) args s 0 0 (aw ad 34)) (F0 m 0 ls []) := by
  obtain ⟨hx, hb, hml, hown, hts, hr, hlk, hK⟩ := id X
  rw [f_X0_aimOf] at hf
  refine lv_aload_n hx hb dX0_aimOf_0 rfl (lv_at hl 0 rfl) ?_
  refine fg_X0_37 X hP dX0_aimOf_1 ?_
  refine lv_iload_n hx hb dX0_aimOf_4 rfl (lv_at hl 1 rfl) ?_
  refine lv_iconst (v := 0) hx hb dX0_aimOf_5 rfl ?_
  obtain ⟨x1, hc, hf⟩ := bi_some hf
  refine kVi (As := [.int a1, .int 0]) (rest := []) (wd := (wC ad cI)) (q0 := 2) (ci := 3) X (c_X3_pageOf (l := l) (D := D) (σ := σ) hN hc) (cw_X0_81 X.2.2.2.2.1 ⟨Nat.le_of_ble_eq_true rfl, Nat.le_of_ble_eq_true rfl⟩) rfl rfl hP hS hl rfl rfl (Nat.le_of_ble_eq_true rfl) dX0_aimOf_6 (fun H locs hP hS => ?_)
  refine lv_istore_n (lv' := [(2, .int x1), (0, .ref (ad 6)), (1, .int a1)]) hx hb dX0_aimOf_9 rfl hl (by decide) rfl (fun ls hl => ?_)
  refine lv_aload_n hx hb dX0_aimOf_10 rfl (lv_at hl 1 rfl) ?_
  refine fg_X0_37 X hP dX0_aimOf_11 ?_
  refine lv_iload_n hx hb dX0_aimOf_14 rfl (lv_at hl 2 rfl) ?_
  refine lv_iconst (v := 0) hx hb dX0_aimOf_15 rfl ?_
  obtain ⟨x2, hc, hf⟩ := bi_some hf
  refine kVi (As := [.int a1, .int 0]) (rest := []) (wd := (wC ad cI)) (q0 := 2) (ci := 3) X (c_X3_wordOf (l := l) (D := D) (σ := σ) hN hc) (cw_X0_85 X.2.2.2.2.1 ⟨Nat.le_of_ble_eq_true rfl, Nat.le_of_ble_eq_true rfl⟩) rfl rfl hP hS hl rfl rfl (Nat.le_of_ble_eq_true rfl) dX0_aimOf_16 (fun H locs hP hS => ?_)
  refine lv_istore_n (lv' := [(3, .int x2), (2, .int x1), (0, .ref (ad 6)), (1, .int a1)]) hx hb dX0_aimOf_19 rfl hl (by decide) rfl (fun ls hl => ?_)
  refine lv_iconst (v := 0) hx hb dX0_aimOf_20 rfl ?_
  refine lv_istore (lv' := [(4, .int 0), (3, .int x2), (2, .int x1), (0, .ref (ad 6)), (1, .int a1)]) hx hb dX0_aimOf_21 hl (by decide) rfl (fun ls hl => ?_)
  exact b_X0_aimOf_L23 X hN _ hf hP hS (lv_sub hl [3, 4, 2, 1, 0] rfl)
set_option maxHeartbeats 4000000 in
set_option maxRecDepth 100000 in
theorem c_X0_aimOf {l : Launch} {D : va_G} {ad : Nat → Nat} {cI : ClassId} (hN : nj ad 34) {σ : St} {a1 : Int32} {r : Int32} (hf : f_X0_aimOf a1 σ = some r) : Met l yX0_aimOf (.code yX0_aimOf cX0_aimOf 6 (some .int) :: wsL_law) rm_X0_aimOf (va_Pc [.ref (ad 6), .int a1] (pw D (wC ad cI) [(cI, .int)] σ)) (qI D (wC ad cI) (aw ad 34) r σ) 0 0 (aw ad 34) :=
  met_mk (by decide) rfl (Nat.le_of_ble_eq_true rfl) (fun p e s m below meth c X hP ls hl => b_X0_aimOf X hN hf hP va_S.rf hl)
set_option maxHeartbeats 4000000 in
set_option maxRecDepth 100000 in
theorem b_X0_linkToAim_B26 (X : cx p s m meth c args cX0_linkToAim 3 none RX0 D [(cI, .int)]) (hN : nj ad 34) {σ : St} {a1 t0 : Int32} {σ' : St} (hf : f_X0_linkToAim_B26 a1 t0 σ = some σ') {H : Heap} {locs : List Loc} {ls : Array Slot} (hP : va_P D vwCl (wC ad cI σ) H) (hS : va_S (aw ad 34) s.heap H locs) (hl : lv_has ls 3 [(0, .ref (ad 6)), (1, .int a1)]) : W p l e rm_X0_linkToAim s m args below meth c H locs 0 0 (MQ below (qV D (wC ad cI) (aw ad 34) σ') args s 0 0 (aw ad 34)) (F0 m 26 ls [.int t0]) := by
  obtain ⟨hx, hb, hml, hown, hts, hr, hlk, hK⟩ := id X
  rw [f_X0_linkToAim_B26] at hf
  refine lv_istore_n (lv' := [(2, .int t0), (0, .ref (ad 6)), (1, .int a1)]) hx hb dX0_linkToAim_26 rfl hl (by decide) rfl (fun ls hl => ?_)
  refine lv_iload_n hx hb dX0_linkToAim_27 rfl (lv_at hl 0 rfl) ?_
  refine lv_bipush (v := (-9)) hx hb dX0_linkToAim_28 rfl ?_
  refine lv_icmp_eq (tgt := 63) hx hb dX0_linkToAim_30 (by decide) (fun hq => ?_) (fun hq => ?_)
  · have hf := if_t hq hf
    exact rVe X hP hS hf dX0_linkToAim_63
  · have hf := if_f hq hf
    refine lv_iload_n hx hb dX0_linkToAim_33 rfl (lv_at hl 0 rfl) ?_
    refine lv_iload_n hx hb dX0_linkToAim_34 rfl (lv_at hl 2 rfl) ?_
    refine lv_icmp_eq (tgt := 63) hx hb dX0_linkToAim_35 (by decide) (fun hq => ?_) (fun hq => ?_)
    · have hf := if_t hq hf
      exact rVe X hP hS hf dX0_linkToAim_63
    · have hf := if_f hq hf
      refine lv_aload_n hx hb dX0_linkToAim_38 rfl (lv_at hl 1 rfl) ?_
      refine fg_X0_18 X hP dX0_linkToAim_39 ?_
      refine lv_iload_n hx hb dX0_linkToAim_42 rfl (lv_at hl 0 rfl) ?_
      obtain ⟨hi, x1, e_x1, hf⟩ := ld_some hf
      refine ldr (t0 := 0) X hP wC_29 rfl hi e_x1 dX0_linkToAim_43 ?_
      refine lv_bipush (v := (-9)) hx hb dX0_linkToAim_44 rfl ?_
      refine lv_icmp_ne (tgt := 63) hx hb dX0_linkToAim_46 (by decide) (fun hq => ?_) (fun hq => ?_)
      · have hf := if_f hq hf
        exact rVe X hP hS hf dX0_linkToAim_63
      · have hf := if_t hq hf
        refine lv_aload_n hx hb dX0_linkToAim_49 rfl (lv_at hl 1 rfl) ?_
        refine fg_X0_15 X hP dX0_linkToAim_50 ?_
        refine lv_iload_n hx hb dX0_linkToAim_53 rfl (lv_at hl 2 rfl) ?_
        refine lv_iload_n hx hb dX0_linkToAim_54 rfl (lv_at hl 0 rfl) ?_
        obtain ⟨hi, σ2, e_σ2, hf⟩ := sd_some hf
        refine str (t0 := 0) X hP (wC_D hN) hS wC_28 wC_s28 rfl hi e_σ2 dX0_linkToAim_55 (fun H locs hP hS => ?_)
        refine lv_aload_n hx hb dX0_linkToAim_56 rfl (lv_at hl 1 rfl) ?_
        refine fg_X0_18 X hP dX0_linkToAim_57 ?_
        refine lv_iload_n hx hb dX0_linkToAim_60 rfl (lv_at hl 0 rfl) ?_
        refine lv_iload_n hx hb dX0_linkToAim_61 rfl (lv_at hl 2 rfl) ?_
        obtain ⟨hi, σ3, e_σ3, hf⟩ := sd_some hf
        refine str (t0 := 0) X hP (wC_D hN) hS wC_29 wC_s29 rfl hi e_σ3 dX0_linkToAim_62 (fun H locs hP hS => ?_)
        exact rVe X hP hS hf dX0_linkToAim_63
set_option maxHeartbeats 4000000 in
set_option maxRecDepth 100000 in
theorem b_X0_linkToAim (X : cx p s m meth c args cX0_linkToAim 3 none RX0 D [(cI, .int)]) (hN : nj ad 34) {σ : St} {a1 : Int32} {σ' : St} (hf : f_X0_linkToAim a1 σ = some σ') {H : Heap} {locs : List Loc} {ls : Array Slot} (hP : va_P D vwCl (wC ad cI σ) H) (hS : va_S (aw ad 34) s.heap H locs) (hl : lv_has ls 3 [(0, .ref (ad 6)), (1, .int a1)]) : W p l e rm_X0_linkToAim s m args below meth c H locs 0 0 (MQ below (qV D (wC ad cI) (aw ad 34) σ') args s 0 0 (aw ad 34)) (F0 m 0 ls []) := by
  obtain ⟨hx, hb, hml, hown, hts, hr, hlk, hK⟩ := id X
  rw [f_X0_linkToAim] at hf
  refine lv_aload_n hx hb dX0_linkToAim_0 rfl (lv_at hl 0 rfl) ?_
  refine fg_X0_9 X hP dX0_linkToAim_1 ?_
  refine lv_iload_n hx hb dX0_linkToAim_4 rfl (lv_at hl 1 rfl) ?_
  obtain ⟨hi, x1, e_x1, hf⟩ := ld_some hf
  refine ldr (t0 := 0) X hP wC_27 rfl hi e_x1 dX0_linkToAim_5 ?_
  refine lv_bipush (v := (-9)) hx hb dX0_linkToAim_6 rfl ?_
  refine lv_icmp_ne (tgt := 16) hx hb dX0_linkToAim_8 (by decide) (fun hq => ?_) (fun hq => ?_)
  · have hf := if_f hq hf
    refine lv_aload_n hx hb dX0_linkToAim_16 rfl (lv_at hl 0 rfl) ?_
    refine lv_aload_n hx hb dX0_linkToAim_17 rfl (lv_at hl 0 rfl) ?_
    refine fg_X0_9 X hP dX0_linkToAim_18 ?_
    refine lv_iload_n hx hb dX0_linkToAim_21 rfl (lv_at hl 1 rfl) ?_
    obtain ⟨hi, x2, e_x2, hf⟩ := ld_some hf
    refine ldr (t0 := 0) X hP wC_27 rfl hi e_x2 dX0_linkToAim_22 ?_
    obtain ⟨x3, hc, hf⟩ := bi_some hf
    refine kVi (As := [.int x2]) (rest := []) (wd := (wC ad cI)) (q0 := 6) (ci := 0) X (c_X0_aimOf (l := l) (D := D) (σ := σ) hN hc) (cw_X0_78 X.2.2.2.2.1 ⟨Nat.le_of_ble_eq_true rfl, Nat.le_of_ble_eq_true rfl⟩) rfl rfl hP hS hl rfl rfl (Nat.le_of_ble_eq_true rfl) dX0_linkToAim_23 (fun H locs hP hS => ?_)
    exact b_X0_linkToAim_B26 X hN hf hP hS (lv_sub hl [0, 1] rfl)
  · have hf := if_t hq hf
    refine lv_bipush (v := (-9)) hx hb dX0_linkToAim_11 rfl ?_
    refine lv_goto (tgt := 26) hx hb dX0_linkToAim_13 (by decide) ?_
    exact b_X0_linkToAim_B26 X hN hf hP hS (lv_sub hl [0, 1] rfl)
set_option maxHeartbeats 4000000 in
set_option maxRecDepth 100000 in
theorem c_X0_linkToAim {l : Launch} {D : va_G} {ad : Nat → Nat} {cI : ClassId} (hN : nj ad 34) {σ : St} {a1 : Int32} {σ' : St} (hf : f_X0_linkToAim a1 σ = some σ') : Met l yX0_linkToAim (.code yX0_linkToAim cX0_linkToAim 3 none :: wsL_law) rm_X0_linkToAim (va_Pc [.ref (ad 6), .int a1] (pw D (wC ad cI) [(cI, .int)] σ)) (qV D (wC ad cI) (aw ad 34) σ') 0 0 (aw ad 34) :=
  met_mk (by decide) rfl (Nat.le_of_ble_eq_true rfl) (fun p e s m below meth c X hP ls hl => b_X0_linkToAim X hN hf hP va_S.rf hl)
set_option maxHeartbeats 4000000 in
set_option maxRecDepth 100000 in
theorem b_X0_addFrom_B93 (X : cx p s m meth c args cX0_addFrom 5 none RX0 D [(cI, .int)]) (hN : nj ad 34) {σ : St} {σ' : St} (hf : f_X0_addFrom_B93 σ = some σ') {H : Heap} {locs : List Loc} {ls : Array Slot} (hP : va_P D vwCl (wC ad cI σ) H) (hS : va_S (aw ad 34) s.heap H locs) (hl : lv_has ls 5 [(0, .ref (ad 6))]) : W p l e rm_X0_addFrom s m args below meth c H locs 0 0 (MQ below (qV D (wC ad cI) (aw ad 34) σ') args s 0 0 (aw ad 34)) (F0 m 93 ls []) := by
  obtain ⟨hx, hb, hml, hown, hts, hr, hlk, hK⟩ := id X
  rw [f_X0_addFrom_B93] at hf
  refine lv_aload_n hx hb dX0_addFrom_93 rfl (lv_at hl 0 rfl) ?_
  refine lv_dup hx hb dX0_addFrom_94 rfl ?_
  obtain ⟨x1, e_x1, hf⟩ := lf_some hf
  refine fg_X0_45 X hP e_x1 dX0_addFrom_95 ?_
  refine lv_iconst (v := 1) hx hb dX0_addFrom_98 rfl ?_
  refine lv_iadd hx hb dX0_addFrom_99 ?_
  obtain ⟨σ2, e_σ2, hf⟩ := sf_some hf
  refine fp_X0_45 X hN hP hS e_σ2 dX0_addFrom_100 (fun H locs hP hS => ?_)
  exact rVe X hP hS hf dX0_addFrom_103
set_option maxHeartbeats 4000000 in
set_option maxRecDepth 100000 in
theorem b_X0_addFrom_L24 (X : cx p s m meth c args cX0_addFrom 5 none RX0 D [(cI, .int)]) (hN : nj ad 34) : ∀ (n : Nat) {σ : St} {a2 a3 a4 : Int32} {σ' : St}, f_X0_addFrom_L24 n a2 a3 a4 σ = some σ' → ∀ {H : Heap} {locs : List Loc} {ls : Array Slot}, va_P D vwCl (wC ad cI σ) H → va_S (aw ad 34) s.heap H locs → lv_has ls 5 [(0, .ref (ad 6)), (2, .int a2), (3, .int a3), (4, .int a4)] → W p l e rm_X0_addFrom s m args below meth c H locs 0 0 (MQ below (qV D (wC ad cI) (aw ad 34) σ') args s 0 0 (aw ad 34)) (F0 m 24 ls []) := by
  intro n
  induction n with
  | zero =>
    intro σ a2 a3 a4 σ' hf
    rw [f_X0_addFrom_L24] at hf
    cases hf
  | succ n ih =>
    intro σ a2 a3 a4 σ' hf H locs ls hP hS hl
    obtain ⟨hx, hb, hml, hown, hts, hr, hlk, hK⟩ := id X
    rw [f_X0_addFrom_L24] at hf
    refine lv_iload hx hb dX0_addFrom_24 (lv_at hl 3 rfl) ?_
    refine lv_aload_n hx hb dX0_addFrom_26 rfl (lv_at hl 0 rfl) ?_
    refine fg_X0_41 X hP dX0_addFrom_27 ?_
    obtain ⟨x1, e_x1, hf⟩ := lf_some hf
    refine fg_X0_49 X hP e_x1 dX0_addFrom_30 ?_
    refine lv_icmp_ge (tgt := 93) hx hb dX0_addFrom_33 (by decide) (fun hq => ?_) (fun hq => ?_)
    · have hf := if_t hq hf
      exact b_X0_addFrom_B93 X hN hf hP hS (lv_sub hl [0] rfl)
    · have hf := if_f hq hf
      refine lv_iload_n hx hb dX0_addFrom_36 rfl (lv_at hl 2 rfl) ?_
      refine lv_bipush (v := (-9)) hx hb dX0_addFrom_37 rfl ?_
      refine lv_icmp_eq (tgt := 93) hx hb dX0_addFrom_39 (by decide) (fun hq => ?_) (fun hq => ?_)
      · have hf := if_t hq hf
        exact b_X0_addFrom_B93 X hN hf hP hS (lv_sub hl [0] rfl)
      · have hf := if_f hq hf
        refine lv_aload_n hx hb dX0_addFrom_42 rfl (lv_at hl 0 rfl) ?_
        refine fg_X0_21 X hP dX0_addFrom_43 ?_
        refine lv_iload_n hx hb dX0_addFrom_46 rfl (lv_at hl 2 rfl) ?_
        obtain ⟨hi, x2, e_x2, hf⟩ := ld_some hf
        refine ldr (t0 := 0) X hP wC_30 rfl hi e_x2 dX0_addFrom_47 ?_
        refine lv_bipush (v := (-9)) hx hb dX0_addFrom_48 rfl ?_
        refine lv_icmp_eq (tgt := 56) hx hb dX0_addFrom_50 (by decide) (fun hq => ?_) (fun hq => ?_)
        · have hf := if_t hq hf
          refine lv_aload_n hx hb dX0_addFrom_56 rfl (lv_at hl 0 rfl) ?_
          refine fg_X0_21 X hP dX0_addFrom_57 ?_
          refine lv_iload_n hx hb dX0_addFrom_60 rfl (lv_at hl 2 rfl) ?_
          refine lv_iload_n hx hb dX0_addFrom_61 rfl (lv_at hl 1 rfl) ?_
          obtain ⟨hi, σ3, e_σ3, hf⟩ := sd_some hf
          refine str (t0 := 0) X hP (wC_D hN) hS wC_30 wC_s30 rfl hi e_σ3 dX0_addFrom_62 (fun H locs hP hS => ?_)
          refine lv_aload_n hx hb dX0_addFrom_63 rfl (lv_at hl 0 rfl) ?_
          refine fg_X0_27 X hP dX0_addFrom_64 ?_
          refine lv_iload_n hx hb dX0_addFrom_67 rfl (lv_at hl 1 rfl) ?_
          refine lv_iload_n hx hb dX0_addFrom_68 rfl (lv_at hl 2 rfl) ?_
          obtain ⟨hi, σ4, e_σ4, hf⟩ := sd_some hf
          refine str (t0 := 0) X hP (wC_D hN) hS wC_32 wC_s32 rfl hi e_σ4 dX0_addFrom_69 (fun H locs hP hS => ?_)
          refine lv_aload_n hx hb dX0_addFrom_70 rfl (lv_at hl 0 rfl) ?_
          refine fg_X0_30 X hP dX0_addFrom_71 ?_
          refine lv_iload_n hx hb dX0_addFrom_74 rfl (lv_at hl 1 rfl) ?_
          refine lv_dup2_11 hx hb dX0_addFrom_75 rfl rfl ?_
          obtain ⟨hi, x5, e_x5, hf⟩ := ld_some hf
          refine ldr (t0 := 0) X hP wC_33 rfl hi e_x5 dX0_addFrom_76 ?_
          refine lv_iconst (v := 1) hx hb dX0_addFrom_77 rfl ?_
          refine lv_iadd hx hb dX0_addFrom_78 ?_
          obtain ⟨hi, σ6, e_σ6, hf⟩ := sd_some hf
          refine str (t0 := 0) X hP (wC_D hN) hS wC_33 wC_s33 rfl hi e_σ6 dX0_addFrom_79 (fun H locs hP hS => ?_)
          refine lv_aload_n hx hb dX0_addFrom_80 rfl (lv_at hl 0 rfl) ?_
          refine fg_X0_15 X hP dX0_addFrom_81 ?_
          refine lv_iload_n hx hb dX0_addFrom_84 rfl (lv_at hl 2 rfl) ?_
          obtain ⟨hi, x7, e_x7, hf⟩ := ld_some hf
          refine ldr (t0 := 0) X hP wC_28 rfl hi e_x7 dX0_addFrom_85 ?_
          refine lv_istore_n (lv' := [(3, .int x7), (0, .ref (ad 6)), (2, .int a2), (4, .int a4)]) hx hb dX0_addFrom_86 rfl hl (by decide) rfl (fun ls hl => ?_)
          refine lv_iinc (v := (a4 + 1)) (lv' := [(4, .int (a4 + 1)), (3, .int x7), (0, .ref (ad 6)), (2, .int a2)]) hx hb dX0_addFrom_87 hl (k := 3) rfl rfl (by decide) rfl (fun ls hl => ?_)
          refine lv_goto (tgt := 24) hx hb dX0_addFrom_90 (by decide) ?_
          exact ih hf hP hS (lv_sub hl [2, 3, 1, 0] rfl)
        · have hf := if_f hq hf
          refine lv_goto (tgt := 93) hx hb dX0_addFrom_53 (by decide) ?_
          exact b_X0_addFrom_B93 X hN hf hP hS (lv_sub hl [0] rfl)
set_option maxHeartbeats 4000000 in
set_option maxRecDepth 100000 in
theorem b_X0_addFrom (X : cx p s m meth c args cX0_addFrom 5 none RX0 D [(cI, .int)]) (hN : nj ad 34) {σ : St} {a1 : Int32} {σ' : St} (hf : f_X0_addFrom a1 σ = some σ') {H : Heap} {locs : List Loc} {ls : Array Slot} (hP : va_P D vwCl (wC ad cI σ) H) (hS : va_S (aw ad 34) s.heap H locs) (hl : lv_has ls 5 [(0, .ref (ad 6)), (1, .int a1)]) : W p l e rm_X0_addFrom s m args below meth c H locs 0 0 (MQ below (qV D (wC ad cI) (aw ad 34) σ') args s 0 0 (aw ad 34)) (F0 m 0 ls []) := by
  obtain ⟨hx, hb, hml, hown, hts, hr, hlk, hK⟩ := id X
  rw [f_X0_addFrom] at hf
  refine lv_aload_n hx hb dX0_addFrom_0 rfl (lv_at hl 0 rfl) ?_
  obtain ⟨x1, e_x1, hf⟩ := lf_some hf
  refine fg_X0_45 X hP e_x1 dX0_addFrom_1 ?_
  refine lv_istore_n (lv' := [(2, .int x1), (0, .ref (ad 6)), (1, .int a1)]) hx hb dX0_addFrom_4 rfl hl (by decide) rfl (fun ls hl => ?_)
  refine lv_aload_n hx hb dX0_addFrom_5 rfl (lv_at hl 1 rfl) ?_
  refine fg_X0_24 X hP dX0_addFrom_6 ?_
  refine lv_iload_n hx hb dX0_addFrom_9 rfl (lv_at hl 0 rfl) ?_
  refine lv_iload_n hx hb dX0_addFrom_10 rfl (lv_at hl 2 rfl) ?_
  obtain ⟨hi, σ2, e_σ2, hf⟩ := sd_some hf
  refine str (t0 := 0) X hP (wC_D hN) hS wC_31 wC_s31 rfl hi e_σ2 dX0_addFrom_11 (fun H locs hP hS => ?_)
  refine lv_aload_n hx hb dX0_addFrom_12 rfl (lv_at hl 1 rfl) ?_
  refine fg_X0_30 X hP dX0_addFrom_13 ?_
  refine lv_iload_n hx hb dX0_addFrom_16 rfl (lv_at hl 0 rfl) ?_
  refine lv_iconst (v := 0) hx hb dX0_addFrom_17 rfl ?_
  obtain ⟨hi, σ3, e_σ3, hf⟩ := sd_some hf
  refine str (t0 := 0) X hP (wC_D hN) hS wC_33 wC_s33 rfl hi e_σ3 dX0_addFrom_18 (fun H locs hP hS => ?_)
  refine lv_iload_n hx hb dX0_addFrom_19 rfl (lv_at hl 2 rfl) ?_
  refine lv_istore_n (lv' := [(3, .int a1), (2, .int x1), (0, .ref (ad 6)), (1, .int a1)]) hx hb dX0_addFrom_20 rfl hl (by decide) rfl (fun ls hl => ?_)
  refine lv_iconst (v := 0) hx hb dX0_addFrom_21 rfl ?_
  refine lv_istore (lv' := [(4, .int 0), (3, .int a1), (2, .int x1), (0, .ref (ad 6)), (1, .int a1)]) hx hb dX0_addFrom_22 hl (by decide) rfl (fun ls hl => ?_)
  exact b_X0_addFrom_L24 X hN _ hf hP hS (lv_sub hl [3, 2, 1, 0] rfl)
set_option maxHeartbeats 4000000 in
set_option maxRecDepth 100000 in
theorem c_X0_addFrom {l : Launch} {D : va_G} {ad : Nat → Nat} {cI : ClassId} (hN : nj ad 34) {σ : St} {a1 : Int32} {σ' : St} (hf : f_X0_addFrom a1 σ = some σ') : Met l yX0_addFrom (.code yX0_addFrom cX0_addFrom 5 none :: wsL_law) rm_X0_addFrom (va_Pc [.ref (ad 6), .int a1] (pw D (wC ad cI) [(cI, .int)] σ)) (qV D (wC ad cI) (aw ad 34) σ') 0 0 (aw ad 34) :=
  met_mk (by decide) rfl (Nat.le_of_ble_eq_true rfl) (fun p e s m below meth c X hP ls hl => b_X0_addFrom X hN hf hP va_S.rf hl)
set_option maxHeartbeats 4000000 in
set_option maxRecDepth 100000 in
theorem b_X0_build_L120 (X : cx p s m meth c args cX0_build 2 none RX0 D [(cI, .int)]) (hN : nj ad 34) : ∀ (n : Nat) {σ : St} {a1 : Int32} {σ' : St}, f_X0_build_L120 n a1 σ = some σ' → ∀ {H : Heap} {locs : List Loc} {ls : Array Slot}, va_P D vwCl (wC ad cI σ) H → va_S (aw ad 34) s.heap H locs → lv_has ls 2 [(0, .ref (ad 6)), (1, .int a1)] → W p l e rm_X0_build s m args below meth c H locs 0 0 (MQ below (qV D (wC ad cI) (aw ad 34) σ') args s 0 0 (aw ad 34)) (F0 m 120 ls []) := by
  intro n
  induction n with
  | zero =>
    intro σ a1 σ' hf
    rw [f_X0_build_L120] at hf
    cases hf
  | succ n ih =>
    intro σ a1 σ' hf H locs ls hP hS hl
    obtain ⟨hx, hb, hml, hown, hts, hr, hlk, hK⟩ := id X
    rw [f_X0_build_L120] at hf
    refine lv_iload_n hx hb dX0_build_120 rfl (lv_at hl 1 rfl) ?_
    refine lv_aload_n hx hb dX0_build_121 rfl (lv_at hl 0 rfl) ?_
    refine fg_X0_41 X hP dX0_build_122 ?_
    obtain ⟨x1, e_x1, hf⟩ := lf_some hf
    refine fg_X0_49 X hP e_x1 dX0_build_125 ?_
    refine lv_icmp_ge (tgt := 153) hx hb dX0_build_128 (by decide) (fun hq => ?_) (fun hq => ?_)
    · have hf := if_t hq hf
      exact rVe X hP hS hf dX0_build_153
    · have hf := if_f hq hf
      refine lv_aload_n hx hb dX0_build_131 rfl (lv_at hl 0 rfl) ?_
      refine fg_X0_21 X hP dX0_build_132 ?_
      refine lv_iload_n hx hb dX0_build_135 rfl (lv_at hl 1 rfl) ?_
      obtain ⟨hi, x2, e_x2, hf⟩ := ld_some hf
      refine ldr (t0 := 0) X hP wC_30 rfl hi e_x2 dX0_build_136 ?_
      refine lv_bipush (v := (-9)) hx hb dX0_build_137 rfl ?_
      refine lv_icmp_ne (tgt := 147) hx hb dX0_build_139 (by decide) (fun hq => ?_) (fun hq => ?_)
      · have hf := if_f hq hf
        refine lv_iinc (v := (a1 + 1)) (lv' := [(1, .int (a1 + 1)), (0, .ref (ad 6))]) hx hb dX0_build_147 hl (k := 1) rfl rfl (by decide) rfl (fun ls hl => ?_)
        refine lv_goto (tgt := 120) hx hb dX0_build_150 (by decide) ?_
        exact ih hf hP hS (lv_sub hl [1, 0] rfl)
      · have hf := if_t hq hf
        refine lv_aload_n hx hb dX0_build_142 rfl (lv_at hl 0 rfl) ?_
        refine lv_iload_n hx hb dX0_build_143 rfl (lv_at hl 1 rfl) ?_
        obtain ⟨σ3, hc, hf⟩ := bs_some hf
        refine kVv (As := [.int a1]) (rest := []) (wd := (wC ad cI)) (q0 := 6) (ci := 0) X (c_X0_addFrom (l := l) (D := D) (σ := σ) hN hc) (cw_X0_60 X.2.2.2.2.1 ⟨Nat.le_of_ble_eq_true rfl, Nat.le_of_ble_eq_true rfl⟩) rfl rfl hP hS hl rfl rfl (Nat.le_of_ble_eq_true rfl) dX0_build_144 (fun H locs hP hS => ?_)
        refine lv_iinc (v := (a1 + 1)) (lv' := [(1, .int (a1 + 1)), (0, .ref (ad 6))]) hx hb dX0_build_147 hl (k := 1) rfl rfl (by decide) rfl (fun ls hl => ?_)
        refine lv_goto (tgt := 120) hx hb dX0_build_150 (by decide) ?_
        exact ih hf hP hS (lv_sub hl [1, 0] rfl)
set_option maxHeartbeats 4000000 in
set_option maxRecDepth 100000 in
theorem b_X0_build_L85 (X : cx p s m meth c args cX0_build 2 none RX0 D [(cI, .int)]) (hN : nj ad 34) : ∀ (n : Nat) {σ : St} {a1 : Int32} {σ' : St}, f_X0_build_L85 n a1 σ = some σ' → ∀ {H : Heap} {locs : List Loc} {ls : Array Slot}, va_P D vwCl (wC ad cI σ) H → va_S (aw ad 34) s.heap H locs → lv_has ls 2 [(0, .ref (ad 6)), (1, .int a1)] → W p l e rm_X0_build s m args below meth c H locs 0 0 (MQ below (qV D (wC ad cI) (aw ad 34) σ') args s 0 0 (aw ad 34)) (F0 m 85 ls []) := by
  intro n
  induction n with
  | zero =>
    intro σ a1 σ' hf
    rw [f_X0_build_L85] at hf
    cases hf
  | succ n ih =>
    intro σ a1 σ' hf H locs ls hP hS hl
    obtain ⟨hx, hb, hml, hown, hts, hr, hlk, hK⟩ := id X
    rw [f_X0_build_L85] at hf
    refine lv_iload_n hx hb dX0_build_85 rfl (lv_at hl 1 rfl) ?_
    refine lv_aload_n hx hb dX0_build_86 rfl (lv_at hl 0 rfl) ?_
    refine fg_X0_41 X hP dX0_build_87 ?_
    obtain ⟨x1, e_x1, hf⟩ := lf_some hf
    refine fg_X0_49 X hP e_x1 dX0_build_90 ?_
    refine lv_icmp_ge (tgt := 118) hx hb dX0_build_93 (by decide) (fun hq => ?_) (fun hq => ?_)
    · have hf := if_t hq hf
      refine lv_iconst (v := 0) hx hb dX0_build_118 rfl ?_
      refine lv_istore_n (lv' := [(1, .int 0), (0, .ref (ad 6))]) hx hb dX0_build_119 rfl hl (by decide) rfl (fun ls hl => ?_)
      exact b_X0_build_L120 X hN _ hf hP hS (lv_sub hl [1, 0] rfl)
    · have hf := if_f hq hf
      refine lv_aload_n hx hb dX0_build_96 rfl (lv_at hl 0 rfl) ?_
      refine fg_X0_18 X hP dX0_build_97 ?_
      refine lv_iload_n hx hb dX0_build_100 rfl (lv_at hl 1 rfl) ?_
      obtain ⟨hi, x2, e_x2, hf⟩ := ld_some hf
      refine ldr (t0 := 0) X hP wC_29 rfl hi e_x2 dX0_build_101 ?_
      refine lv_bipush (v := (-9)) hx hb dX0_build_102 rfl ?_
      refine lv_icmp_ne (tgt := 112) hx hb dX0_build_104 (by decide) (fun hq => ?_) (fun hq => ?_)
      · have hf := if_f hq hf
        refine lv_iinc (v := (a1 + 1)) (lv' := [(1, .int (a1 + 1)), (0, .ref (ad 6))]) hx hb dX0_build_112 hl (k := 1) rfl rfl (by decide) rfl (fun ls hl => ?_)
        refine lv_goto (tgt := 85) hx hb dX0_build_115 (by decide) ?_
        exact ih hf hP hS (lv_sub hl [1, 0] rfl)
      · have hf := if_t hq hf
        refine lv_aload_n hx hb dX0_build_107 rfl (lv_at hl 0 rfl) ?_
        refine lv_iload_n hx hb dX0_build_108 rfl (lv_at hl 1 rfl) ?_
        obtain ⟨σ3, hc, hf⟩ := bs_some hf
        refine kVv (As := [.int a1]) (rest := []) (wd := (wC ad cI)) (q0 := 6) (ci := 0) X (c_X0_addFrom (l := l) (D := D) (σ := σ) hN hc) (cw_X0_60 X.2.2.2.2.1 ⟨Nat.le_of_ble_eq_true rfl, Nat.le_of_ble_eq_true rfl⟩) rfl rfl hP hS hl rfl rfl (Nat.le_of_ble_eq_true rfl) dX0_build_109 (fun H locs hP hS => ?_)
        refine lv_iinc (v := (a1 + 1)) (lv' := [(1, .int (a1 + 1)), (0, .ref (ad 6))]) hx hb dX0_build_112 hl (k := 1) rfl rfl (by decide) rfl (fun ls hl => ?_)
        refine lv_goto (tgt := 85) hx hb dX0_build_115 (by decide) ?_
        exact ih hf hP hS (lv_sub hl [1, 0] rfl)
set_option maxHeartbeats 4000000 in
set_option maxRecDepth 100000 in
theorem b_X0_build_L61 (X : cx p s m meth c args cX0_build 2 none RX0 D [(cI, .int)]) (hN : nj ad 34) : ∀ (n : Nat) {σ : St} {a1 : Int32} {σ' : St}, f_X0_build_L61 n a1 σ = some σ' → ∀ {H : Heap} {locs : List Loc} {ls : Array Slot}, va_P D vwCl (wC ad cI σ) H → va_S (aw ad 34) s.heap H locs → lv_has ls 2 [(0, .ref (ad 6)), (1, .int a1)] → W p l e rm_X0_build s m args below meth c H locs 0 0 (MQ below (qV D (wC ad cI) (aw ad 34) σ') args s 0 0 (aw ad 34)) (F0 m 61 ls []) := by
  intro n
  induction n with
  | zero =>
    intro σ a1 σ' hf
    rw [f_X0_build_L61] at hf
    cases hf
  | succ n ih =>
    intro σ a1 σ' hf H locs ls hP hS hl
    obtain ⟨hx, hb, hml, hown, hts, hr, hlk, hK⟩ := id X
    rw [f_X0_build_L61] at hf
    refine lv_iload_n hx hb dX0_build_61 rfl (lv_at hl 1 rfl) ?_
    refine lv_aload_n hx hb dX0_build_62 rfl (lv_at hl 0 rfl) ?_
    refine fg_X0_41 X hP dX0_build_63 ?_
    obtain ⟨x1, e_x1, hf⟩ := lf_some hf
    refine fg_X0_49 X hP e_x1 dX0_build_66 ?_
    refine lv_icmp_ge (tgt := 83) hx hb dX0_build_69 (by decide) (fun hq => ?_) (fun hq => ?_)
    · have hf := if_t hq hf
      refine lv_iconst (v := 0) hx hb dX0_build_83 rfl ?_
      refine lv_istore_n (lv' := [(1, .int 0), (0, .ref (ad 6))]) hx hb dX0_build_84 rfl hl (by decide) rfl (fun ls hl => ?_)
      exact b_X0_build_L85 X hN _ hf hP hS (lv_sub hl [1, 0] rfl)
    · have hf := if_f hq hf
      refine lv_aload_n hx hb dX0_build_72 rfl (lv_at hl 0 rfl) ?_
      refine lv_iload_n hx hb dX0_build_73 rfl (lv_at hl 1 rfl) ?_
      obtain ⟨σ2, hc, hf⟩ := bs_some hf
      refine kVv (As := [.int a1]) (rest := []) (wd := (wC ad cI)) (q0 := 6) (ci := 0) X (c_X0_linkToAim (l := l) (D := D) (σ := σ) hN hc) (cw_X0_56 X.2.2.2.2.1 ⟨Nat.le_of_ble_eq_true rfl, Nat.le_of_ble_eq_true rfl⟩) rfl rfl hP hS hl rfl rfl (Nat.le_of_ble_eq_true rfl) dX0_build_74 (fun H locs hP hS => ?_)
      refine lv_iinc (v := (a1 + 1)) (lv' := [(1, .int (a1 + 1)), (0, .ref (ad 6))]) hx hb dX0_build_77 hl (k := 1) rfl rfl (by decide) rfl (fun ls hl => ?_)
      refine lv_goto (tgt := 61) hx hb dX0_build_80 (by decide) ?_
      exact ih hf hP hS (lv_sub hl [1, 0] rfl)
set_option maxHeartbeats 4000000 in
set_option maxRecDepth 100000 in
theorem b_X0_build_L7 (X : cx p s m meth c args cX0_build 2 none RX0 D [(cI, .int)]) (hN : nj ad 34) : ∀ (n : Nat) {σ : St} {a1 : Int32} {σ' : St}, f_X0_build_L7 n a1 σ = some σ' → ∀ {H : Heap} {locs : List Loc} {ls : Array Slot}, va_P D vwCl (wC ad cI σ) H → va_S (aw ad 34) s.heap H locs → lv_has ls 2 [(0, .ref (ad 6)), (1, .int a1)] → W p l e rm_X0_build s m args below meth c H locs 0 0 (MQ below (qV D (wC ad cI) (aw ad 34) σ') args s 0 0 (aw ad 34)) (F0 m 7 ls []) := by
  intro n
  induction n with
  | zero =>
    intro σ a1 σ' hf
    rw [f_X0_build_L7] at hf
    cases hf
  | succ n ih =>
    intro σ a1 σ' hf H locs ls hP hS hl
    obtain ⟨hx, hb, hml, hown, hts, hr, hlk, hK⟩ := id X
    rw [f_X0_build_L7] at hf
    refine lv_iload_n hx hb dX0_build_7 rfl (lv_at hl 1 rfl) ?_
    refine lv_aload_n hx hb dX0_build_8 rfl (lv_at hl 0 rfl) ?_
    refine fg_X0_41 X hP dX0_build_9 ?_
    obtain ⟨x1, e_x1, hf⟩ := lf_some hf
    refine fg_X0_49 X hP e_x1 dX0_build_12 ?_
    refine lv_icmp_ge (tgt := 59) hx hb dX0_build_15 (by decide) (fun hq => ?_) (fun hq => ?_)
    · have hf := if_t hq hf
      refine lv_iconst (v := 0) hx hb dX0_build_59 rfl ?_
      refine lv_istore_n (lv' := [(1, .int 0), (0, .ref (ad 6))]) hx hb dX0_build_60 rfl hl (by decide) rfl (fun ls hl => ?_)
      exact b_X0_build_L61 X hN _ hf hP hS (lv_sub hl [1, 0] rfl)
    · have hf := if_f hq hf
      refine lv_aload_n hx hb dX0_build_18 rfl (lv_at hl 0 rfl) ?_
      refine fg_X0_9 X hP dX0_build_19 ?_
      refine lv_iload_n hx hb dX0_build_22 rfl (lv_at hl 1 rfl) ?_
      refine lv_aload_n hx hb dX0_build_23 rfl (lv_at hl 0 rfl) ?_
      refine lv_iload_n hx hb dX0_build_24 rfl (lv_at hl 1 rfl) ?_
      obtain ⟨x2, hc, hf⟩ := bi_some hf
      refine kVi (As := [.int a1]) (rest := [.int a1, .ref (ad 27)]) (wd := (wC ad cI)) (q0 := 6) (ci := 0) X (c_X0_lastOnward (l := l) (D := D) (σ := σ) hN hc) (cw_X0_52 X.2.2.2.2.1 ⟨Nat.le_of_ble_eq_true rfl, Nat.le_of_ble_eq_true rfl⟩) rfl rfl hP hS hl rfl rfl (Nat.le_of_ble_eq_true rfl) dX0_build_25 (fun H locs hP hS => ?_)
      obtain ⟨hi, σ3, e_σ3, hf⟩ := sd_some hf
      refine str (t0 := 0) X hP (wC_D hN) hS wC_27 wC_s27 rfl hi e_σ3 dX0_build_28 (fun H locs hP hS => ?_)
      refine lv_aload_n hx hb dX0_build_29 rfl (lv_at hl 0 rfl) ?_
      refine fg_X0_15 X hP dX0_build_30 ?_
      refine lv_iload_n hx hb dX0_build_33 rfl (lv_at hl 1 rfl) ?_
      refine lv_bipush (v := (-9)) hx hb dX0_build_34 rfl ?_
      obtain ⟨hi, σ4, e_σ4, hf⟩ := sd_some hf
      refine str (t0 := 0) X hP (wC_D hN) hS wC_28 wC_s28 rfl hi e_σ4 dX0_build_36 (fun H locs hP hS => ?_)
      refine lv_aload_n hx hb dX0_build_37 rfl (lv_at hl 0 rfl) ?_
      refine fg_X0_18 X hP dX0_build_38 ?_
      refine lv_iload_n hx hb dX0_build_41 rfl (lv_at hl 1 rfl) ?_
      refine lv_bipush (v := (-9)) hx hb dX0_build_42 rfl ?_
      obtain ⟨hi, σ5, e_σ5, hf⟩ := sd_some hf
      refine str (t0 := 0) X hP (wC_D hN) hS wC_29 wC_s29 rfl hi e_σ5 dX0_build_44 (fun H locs hP hS => ?_)
      refine lv_aload_n hx hb dX0_build_45 rfl (lv_at hl 0 rfl) ?_
      refine fg_X0_21 X hP dX0_build_46 ?_
      refine lv_iload_n hx hb dX0_build_49 rfl (lv_at hl 1 rfl) ?_
      refine lv_bipush (v := (-9)) hx hb dX0_build_50 rfl ?_
      obtain ⟨hi, σ6, e_σ6, hf⟩ := sd_some hf
      refine str (t0 := 0) X hP (wC_D hN) hS wC_30 wC_s30 rfl hi e_σ6 dX0_build_52 (fun H locs hP hS => ?_)
      refine lv_iinc (v := (a1 + 1)) (lv' := [(1, .int (a1 + 1)), (0, .ref (ad 6))]) hx hb dX0_build_53 hl (k := 1) rfl rfl (by decide) rfl (fun ls hl => ?_)
      refine lv_goto (tgt := 7) hx hb dX0_build_56 (by decide) ?_
      exact ih hf hP hS (lv_sub hl [1, 0] rfl)
set_option maxHeartbeats 4000000 in
set_option maxRecDepth 100000 in
theorem b_X0_build (X : cx p s m meth c args cX0_build 2 none RX0 D [(cI, .int)]) (hN : nj ad 34) {σ : St} {σ' : St} (hf : f_X0_build σ = some σ') {H : Heap} {locs : List Loc} {ls : Array Slot} (hP : va_P D vwCl (wC ad cI σ) H) (hS : va_S (aw ad 34) s.heap H locs) (hl : lv_has ls 2 [(0, .ref (ad 6))]) : W p l e rm_X0_build s m args below meth c H locs 0 0 (MQ below (qV D (wC ad cI) (aw ad 34) σ') args s 0 0 (aw ad 34)) (F0 m 0 ls []) := by
  obtain ⟨hx, hb, hml, hown, hts, hr, hlk, hK⟩ := id X
  rw [f_X0_build] at hf
  refine lv_aload_n hx hb dX0_build_0 rfl (lv_at hl 0 rfl) ?_
  refine lv_iconst (v := 0) hx hb dX0_build_1 rfl ?_
  obtain ⟨σ1, e_σ1, hf⟩ := sf_some hf
  refine fp_X0_45 X hN hP hS e_σ1 dX0_build_2 (fun H locs hP hS => ?_)
  refine lv_iconst (v := 0) hx hb dX0_build_5 rfl ?_
  refine lv_istore_n (lv' := [(1, .int 0), (0, .ref (ad 6))]) hx hb dX0_build_6 rfl hl (by decide) rfl (fun ls hl => ?_)
  exact b_X0_build_L7 X hN _ hf hP hS (lv_sub hl [1, 0] rfl)
set_option maxHeartbeats 4000000 in
set_option maxRecDepth 100000 in
theorem c_X0_build {l : Launch} {D : va_G} {ad : Nat → Nat} {cI : ClassId} (hN : nj ad 34) {σ : St} {σ' : St} (hf : f_X0_build σ = some σ') : Met l yX0_build (.code yX0_build cX0_build 2 none :: wsL_law) rm_X0_build (va_Pc [.ref (ad 6)] (pw D (wC ad cI) [(cI, .int)] σ)) (qV D (wC ad cI) (aw ad 34) σ') 0 0 (aw ad 34) :=
  met_mk (by decide) rfl (Nat.le_of_ble_eq_true rfl) (fun p e s m below meth c X hP ls hl => b_X0_build X hN hf hP va_S.rf hl)
set_option maxHeartbeats 4000000 in
set_option maxRecDepth 100000 in
theorem b_X0_has (X : cx p s m meth c args cX0_has 2 (some .boolean) RX0 D [(cI, .int)]) (hN : nj ad 34) {σ : St} {a1 : Int32} {r : Int32} (hf : f_X0_has a1 σ = some r) {H : Heap} {locs : List Loc} {ls : Array Slot} (hP : va_P D vwCl (wC ad cI σ) H) (hS : va_S (aw ad 34) s.heap H locs) (hl : lv_has ls 2 [(0, .ref (ad 6)), (1, .int a1)]) : W p l e rm_X0_has s m args below meth c H locs 0 0 (MQ below (qI D (wC ad cI) (aw ad 34) r σ) args s 0 0 (aw ad 34)) (F0 m 0 ls []) := by
  obtain ⟨hx, hb, hml, hown, hts, hr, hlk, hK⟩ := id X
  rw [f_X0_has] at hf
  refine lv_iload_n hx hb dX0_has_0 rfl (lv_at hl 1 rfl) ?_
  refine lv_if_lt (tgt := 16) hx hb dX0_has_1 (by decide) (fun hq => ?_) (fun hq => ?_)
  · have hf := if_t hq hf
    refine lv_iconst (v := 0) hx hb dX0_has_16 rfl ?_
    exact rZ X hP hS hf dX0_has_17
  · have hf := if_f hq hf
    refine lv_iload_n hx hb dX0_has_4 rfl (lv_at hl 1 rfl) ?_
    refine lv_aload_n hx hb dX0_has_5 rfl (lv_at hl 0 rfl) ?_
    obtain ⟨x1, e_x1, hf⟩ := lf_some hf
    refine fg_X0_45 X hP e_x1 dX0_has_6 ?_
    refine lv_icmp_ge (tgt := 16) hx hb dX0_has_9 (by decide) (fun hq => ?_) (fun hq => ?_)
    · have hf := if_t hq hf
      refine lv_iconst (v := 0) hx hb dX0_has_16 rfl ?_
      exact rZ X hP hS hf dX0_has_17
    · have hf := if_f hq hf
      refine lv_iconst (v := 1) hx hb dX0_has_12 rfl ?_
      refine lv_goto (tgt := 17) hx hb dX0_has_13 (by decide) ?_
      exact rZ X hP hS hf dX0_has_17
set_option maxHeartbeats 4000000 in
set_option maxRecDepth 100000 in
theorem c_X0_has {l : Launch} {D : va_G} {ad : Nat → Nat} {cI : ClassId} (hN : nj ad 34) {σ : St} {a1 : Int32} {r : Int32} (hf : f_X0_has a1 σ = some r) : Met l yX0_has (.code yX0_has cX0_has 2 (some .boolean) :: wsL_law) rm_X0_has (va_Pc [.ref (ad 6), .int a1] (pw D (wC ad cI) [(cI, .int)] σ)) (qI D (wC ad cI) (aw ad 34) r σ) 0 0 (aw ad 34) :=
  met_mk (by decide) rfl (Nat.le_of_ble_eq_true rfl) (fun p e s m below meth c X hP ls hl => b_X0_has X hN hf hP va_S.rf hl)
set_option maxHeartbeats 4000000 in
set_option maxRecDepth 100000 in
theorem b_X0_isBroken (X : cx p s m meth c args cX0_isBroken 2 (some .boolean) RX0 D [(cI, .int)]) (hN : nj ad 34) {σ : St} {a1 : Int32} {r : Int32} (hf : f_X0_isBroken a1 σ = some r) {H : Heap} {locs : List Loc} {ls : Array Slot} (hP : va_P D vwCl (wC ad cI σ) H) (hS : va_S (aw ad 34) s.heap H locs) (hl : lv_has ls 2 [(0, .ref (ad 6)), (1, .int a1)]) : W p l e rm_X0_isBroken s m args below meth c H locs 0 0 (MQ below (qI D (wC ad cI) (aw ad 34) r σ) args s 0 0 (aw ad 34)) (F0 m 0 ls []) := by
  obtain ⟨hx, hb, hml, hown, hts, hr, hlk, hK⟩ := id X
  rw [f_X0_isBroken] at hf
  refine lv_aload_n hx hb dX0_isBroken_0 rfl (lv_at hl 0 rfl) ?_
  refine fg_X0_9 X hP dX0_isBroken_1 ?_
  refine lv_iload_n hx hb dX0_isBroken_4 rfl (lv_at hl 1 rfl) ?_
  obtain ⟨hi, x1, e_x1, hf⟩ := ld_some hf
  refine ldr (t0 := 0) X hP wC_27 rfl hi e_x1 dX0_isBroken_5 ?_
  refine lv_bipush (v := (-9)) hx hb dX0_isBroken_6 rfl ?_
  refine lv_icmp_eq (tgt := 26) hx hb dX0_isBroken_8 (by decide) (fun hq => ?_) (fun hq => ?_)
  · have hf := if_t hq hf
    refine lv_iconst (v := 0) hx hb dX0_isBroken_26 rfl ?_
    exact rZ X hP hS hf dX0_isBroken_27
  · have hf := if_f hq hf
    refine lv_aload_n hx hb dX0_isBroken_11 rfl (lv_at hl 0 rfl) ?_
    refine fg_X0_15 X hP dX0_isBroken_12 ?_
    refine lv_iload_n hx hb dX0_isBroken_15 rfl (lv_at hl 1 rfl) ?_
    obtain ⟨hi, x2, e_x2, hf⟩ := ld_some hf
    refine ldr (t0 := 0) X hP wC_28 rfl hi e_x2 dX0_isBroken_16 ?_
    refine lv_bipush (v := (-9)) hx hb dX0_isBroken_17 rfl ?_
    refine lv_icmp_ne (tgt := 26) hx hb dX0_isBroken_19 (by decide) (fun hq => ?_) (fun hq => ?_)
    · have hf := if_f hq hf
      refine lv_iconst (v := 0) hx hb dX0_isBroken_26 rfl ?_
      exact rZ X hP hS hf dX0_isBroken_27
    · have hf := if_t hq hf
      refine lv_iconst (v := 1) hx hb dX0_isBroken_22 rfl ?_
      refine lv_goto (tgt := 27) hx hb dX0_isBroken_23 (by decide) ?_
      exact rZ X hP hS hf dX0_isBroken_27
set_option maxHeartbeats 4000000 in
set_option maxRecDepth 100000 in
theorem c_X0_isBroken {l : Launch} {D : va_G} {ad : Nat → Nat} {cI : ClassId} (hN : nj ad 34) {σ : St} {a1 : Int32} {r : Int32} (hf : f_X0_isBroken a1 σ = some r) : Met l yX0_isBroken (.code yX0_isBroken cX0_isBroken 2 (some .boolean) :: wsL_law) rm_X0_isBroken (va_Pc [.ref (ad 6), .int a1] (pw D (wC ad cI) [(cI, .int)] σ)) (qI D (wC ad cI) (aw ad 34) r σ) 0 0 (aw ad 34) :=
  met_mk (by decide) rfl (Nat.le_of_ble_eq_true rfl) (fun p e s m below meth c X hP ls hl => b_X0_isBroken X hN hf hP va_S.rf hl)
set_option maxHeartbeats 4000000 in
set_option maxRecDepth 100000 in
theorem b_X0_isRing (X : cx p s m meth c args cX0_isRing 2 (some .boolean) RX0 D [(cI, .int)]) (hN : nj ad 34) {σ : St} {a1 : Int32} {r : Int32} (hf : f_X0_isRing a1 σ = some r) {H : Heap} {locs : List Loc} {ls : Array Slot} (hP : va_P D vwCl (wC ad cI σ) H) (hS : va_S (aw ad 34) s.heap H locs) (hl : lv_has ls 2 [(0, .ref (ad 6)), (1, .int a1)]) : W p l e rm_X0_isRing s m args below meth c H locs 0 0 (MQ below (qI D (wC ad cI) (aw ad 34) r σ) args s 0 0 (aw ad 34)) (F0 m 0 ls []) := by
  obtain ⟨hx, hb, hml, hown, hts, hr, hlk, hK⟩ := id X
  rw [f_X0_isRing] at hf
  refine lv_aload_n hx hb dX0_isRing_0 rfl (lv_at hl 0 rfl) ?_
  refine fg_X0_18 X hP dX0_isRing_1 ?_
  refine lv_aload_n hx hb dX0_isRing_4 rfl (lv_at hl 0 rfl) ?_
  refine fg_X0_24 X hP dX0_isRing_5 ?_
  refine lv_iload_n hx hb dX0_isRing_8 rfl (lv_at hl 1 rfl) ?_
  obtain ⟨hi, x1, e_x1, hf⟩ := ld_some hf
  refine ldr (t0 := 0) X hP wC_31 rfl hi e_x1 dX0_isRing_9 ?_
  obtain ⟨hi, x2, e_x2, hf⟩ := ld_some hf
  refine ldr (t0 := 0) X hP wC_29 rfl hi e_x2 dX0_isRing_10 ?_
  refine lv_bipush (v := (-9)) hx hb dX0_isRing_11 rfl ?_
  refine lv_icmp_eq (tgt := 20) hx hb dX0_isRing_13 (by decide) (fun hq => ?_) (fun hq => ?_)
  · have hf := if_t hq hf
    refine lv_iconst (v := 0) hx hb dX0_isRing_20 rfl ?_
    exact rZ X hP hS hf dX0_isRing_21
  · have hf := if_f hq hf
    refine lv_iconst (v := 1) hx hb dX0_isRing_16 rfl ?_
    refine lv_goto (tgt := 21) hx hb dX0_isRing_17 (by decide) ?_
    exact rZ X hP hS hf dX0_isRing_21
set_option maxHeartbeats 4000000 in
set_option maxRecDepth 100000 in
theorem c_X0_isRing {l : Launch} {D : va_G} {ad : Nat → Nat} {cI : ClassId} (hN : nj ad 34) {σ : St} {a1 : Int32} {r : Int32} (hf : f_X0_isRing a1 σ = some r) : Met l yX0_isRing (.code yX0_isRing cX0_isRing 2 (some .boolean) :: wsL_law) rm_X0_isRing (va_Pc [.ref (ad 6), .int a1] (pw D (wC ad cI) [(cI, .int)] σ)) (qI D (wC ad cI) (aw ad 34) r σ) 0 0 (aw ad 34) :=
  met_mk (by decide) rfl (Nat.le_of_ble_eq_true rfl) (fun p e s m below meth c X hP ls hl => b_X0_isRing X hN hf hP va_S.rf hl)
set_option maxHeartbeats 4000000 in
set_option maxRecDepth 100000 in
theorem b_X0_isReadIn (X : cx p s m meth c args cX0_isReadIn 4 (some .boolean) RX0 D [(cI, .int)]) (hN : nj ad 34) {σ : St} {a1 a2 : Int32} {r : Int32} (hf : f_X0_isReadIn a1 a2 σ = some r) {H : Heap} {locs : List Loc} {ls : Array Slot} (hP : va_P D vwCl (wC ad cI σ) H) (hS : va_S (aw ad 34) s.heap H locs) (hl : lv_has ls 4 [(0, .ref (ad 6)), (1, .int a1), (2, .int a2)]) : W p l e rm_X0_isReadIn s m args below meth c H locs 0 0 (MQ below (qI D (wC ad cI) (aw ad 34) r σ) args s 0 0 (aw ad 34)) (F0 m 0 ls []) := by
  obtain ⟨hx, hb, hml, hown, hts, hr, hlk, hK⟩ := id X
  rw [f_X0_isReadIn] at hf
  refine lv_aload_n hx hb dX0_isReadIn_0 rfl (lv_at hl 0 rfl) ?_
  refine fg_X0_41 X hP dX0_isReadIn_1 ?_
  refine fg_X0_69 X hP dX0_isReadIn_4 ?_
  refine lv_iload_n hx hb dX0_isReadIn_7 rfl (lv_at hl 2 rfl) ?_
  obtain ⟨hi, x1, e_x1, hf⟩ := ld_some hf
  refine ldr (t0 := 0) X hP wC_24 rfl hi e_x1 dX0_isReadIn_8 ?_
  refine lv_istore_n (lv' := [(3, .int x1), (0, .ref (ad 6)), (1, .int a1), (2, .int a2)]) hx hb dX0_isReadIn_9 rfl hl (by decide) rfl (fun ls hl => ?_)
  refine lv_aload_n hx hb dX0_isReadIn_10 rfl (lv_at hl 1 rfl) ?_
  refine fg_X0_33 X hP dX0_isReadIn_11 ?_
  refine fg_X0_94 X hP dX0_isReadIn_14 ?_
  refine lv_iload_n hx hb dX0_isReadIn_17 rfl (lv_at hl 3 rfl) ?_
  obtain ⟨hi, x2, e_x2, hf⟩ := ld_some hf
  refine ldr (t0 := 0) X hP wC_8 rfl hi e_x2 dX0_isReadIn_18 ?_
  refine lv_iconst (v := 2) hx hb dX0_isReadIn_19 rfl ?_
  refine lv_icmp_eq (tgt := 43) hx hb dX0_isReadIn_20 (by decide) (fun hq => ?_) (fun hq => ?_)
  · have hf := if_t hq hf
    refine lv_iconst (v := 0) hx hb dX0_isReadIn_43 rfl ?_
    exact rZ X hP hS hf dX0_isReadIn_44
  · have hf := if_f hq hf
    refine lv_iload_n hx hb dX0_isReadIn_23 rfl (lv_at hl 0 rfl) ?_
    refine lv_bipush (v := (-9)) hx hb dX0_isReadIn_24 rfl ?_
    refine lv_icmp_eq (tgt := 43) hx hb dX0_isReadIn_26 (by decide) (fun hq => ?_) (fun hq => ?_)
    · have hf := if_t hq hf
      refine lv_iconst (v := 0) hx hb dX0_isReadIn_43 rfl ?_
      exact rZ X hP hS hf dX0_isReadIn_44
    · have hf := if_f hq hf
      refine lv_aload_n hx hb dX0_isReadIn_29 rfl (lv_at hl 1 rfl) ?_
      refine fg_X0_21 X hP dX0_isReadIn_30 ?_
      refine lv_iload_n hx hb dX0_isReadIn_33 rfl (lv_at hl 0 rfl) ?_
      obtain ⟨hi, x3, e_x3, hf⟩ := ld_some hf
      refine ldr (t0 := 0) X hP wC_30 rfl hi e_x3 dX0_isReadIn_34 ?_
      refine lv_iload_n hx hb dX0_isReadIn_35 rfl (lv_at hl 2 rfl) ?_
      refine lv_icmp_ne (tgt := 43) hx hb dX0_isReadIn_36 (by decide) (fun hq => ?_) (fun hq => ?_)
      · have hf := if_f hq hf
        refine lv_iconst (v := 0) hx hb dX0_isReadIn_43 rfl ?_
        exact rZ X hP hS hf dX0_isReadIn_44
      · have hf := if_t hq hf
        refine lv_iconst (v := 1) hx hb dX0_isReadIn_39 rfl ?_
        refine lv_goto (tgt := 44) hx hb dX0_isReadIn_40 (by decide) ?_
        exact rZ X hP hS hf dX0_isReadIn_44
set_option maxHeartbeats 4000000 in
set_option maxRecDepth 100000 in
theorem c_X0_isReadIn {l : Launch} {D : va_G} {ad : Nat → Nat} {cI : ClassId} (hN : nj ad 34) {σ : St} {a1 a2 : Int32} {r : Int32} (hf : f_X0_isReadIn a1 a2 σ = some r) : Met l yX0_isReadIn (.code yX0_isReadIn cX0_isReadIn 4 (some .boolean) :: wsL_law) rm_X0_isReadIn (va_Pc [.ref (ad 6), .int a1, .int a2] (pw D (wC ad cI) [(cI, .int)] σ)) (qI D (wC ad cI) (aw ad 34) r σ) 0 0 (aw ad 34) :=
  met_mk (by decide) rfl (Nat.le_of_ble_eq_true rfl) (fun p e s m below meth c X hP ls hl => b_X0_isReadIn X hN hf hP va_S.rf hl)
set_option maxHeartbeats 4000000 in
set_option maxRecDepth 100000 in
theorem b_X0_textsOf_L4 (X : cx p s m meth c args cX0_textsOf 4 (some .int) RX0 D [(cI, .int)]) (hN : nj ad 34) : ∀ (n : Nat) {σ : St} {a1 a2 a3 : Int32} {r : Int32}, f_X0_textsOf_L4 σ n a1 a2 a3 = some r → ∀ {H : Heap} {locs : List Loc} {ls : Array Slot}, va_P D vwCl (wC ad cI σ) H → va_S (aw ad 34) s.heap H locs → lv_has ls 4 [(0, .ref (ad 6)), (1, .int a1), (2, .int a2), (3, .int a3)] → W p l e rm_X0_textsOf s m args below meth c H locs 0 0 (MQ below (qI D (wC ad cI) (aw ad 34) r σ) args s 0 0 (aw ad 34)) (F0 m 4 ls []) := by
  intro n
  induction n with
  | zero =>
    intro σ a1 a2 a3 r hf
    rw [f_X0_textsOf_L4] at hf
    cases hf
  | succ n ih =>
    intro σ a1 a2 a3 r hf H locs ls hP hS hl
    obtain ⟨hx, hb, hml, hown, hts, hr, hlk, hK⟩ := id X
    rw [f_X0_textsOf_L4] at hf
    refine lv_iload_n hx hb dX0_textsOf_4 rfl (lv_at hl 3 rfl) ?_
    refine lv_aload_n hx hb dX0_textsOf_5 rfl (lv_at hl 0 rfl) ?_
    refine fg_X0_33 X hP dX0_textsOf_6 ?_
    obtain ⟨x1, e_x1, hf⟩ := lf_some hf
    refine fg_X0_88 X hP e_x1 dX0_textsOf_9 ?_
    refine lv_icmp_ge (tgt := 46) hx hb dX0_textsOf_12 (by decide) (fun hq => ?_) (fun hq => ?_)
    · have hf := if_t hq hf
      refine lv_iload_n hx hb dX0_textsOf_46 rfl (lv_at hl 2 rfl) ?_
      exact rI X hP hS hf dX0_textsOf_47
    · have hf := if_f hq hf
      refine lv_aload_n hx hb dX0_textsOf_15 rfl (lv_at hl 0 rfl) ?_
      refine fg_X0_33 X hP dX0_textsOf_16 ?_
      refine fg_X0_94 X hP dX0_textsOf_19 ?_
      refine lv_iload_n hx hb dX0_textsOf_22 rfl (lv_at hl 3 rfl) ?_
      obtain ⟨hi, x2, e_x2, hf⟩ := ld_some hf
      refine ldr (t0 := 0) X hP wC_8 rfl hi e_x2 dX0_textsOf_23 ?_
      refine lv_iconst (v := 1) hx hb dX0_textsOf_24 rfl ?_
      refine lv_icmp_ne (tgt := 40) hx hb dX0_textsOf_25 (by decide) (fun hq => ?_) (fun hq => ?_)
      · have hf := if_f hq hf
        refine lv_iinc (v := (a3 + 1)) (lv' := [(3, .int (a3 + 1)), (0, .ref (ad 6)), (1, .int a1), (2, .int a2)]) hx hb dX0_textsOf_40 hl (k := 3) rfl rfl (by decide) rfl (fun ls hl => ?_)
        refine lv_goto (tgt := 4) hx hb dX0_textsOf_43 (by decide) ?_
        exact ih hf hP hS (lv_sub hl [1, 2, 3, 0] rfl)
      · have hf := if_t hq hf
        refine lv_aload_n hx hb dX0_textsOf_28 rfl (lv_at hl 0 rfl) ?_
        refine lv_iload_n hx hb dX0_textsOf_29 rfl (lv_at hl 1 rfl) ?_
        refine lv_iload_n hx hb dX0_textsOf_30 rfl (lv_at hl 3 rfl) ?_
        obtain ⟨x3, hc, hf⟩ := bi_some hf
        refine kVi (As := [.int a1, .int a3]) (rest := []) (wd := (wC ad cI)) (q0 := 6) (ci := 0) X (c_X0_isReadIn (l := l) (D := D) (σ := σ) hN hc) (cw_X0_97 X.2.2.2.2.1 ⟨Nat.le_of_ble_eq_true rfl, Nat.le_of_ble_eq_true rfl⟩) rfl rfl hP hS hl rfl rfl (Nat.le_of_ble_eq_true rfl) dX0_textsOf_31 (fun H locs hP hS => ?_)
        refine lv_if_eq (tgt := 40) hx hb dX0_textsOf_34 (by decide) (fun hq => ?_) (fun hq => ?_)
        · have hf := if_t hq hf
          refine lv_iinc (v := (a3 + 1)) (lv' := [(3, .int (a3 + 1)), (0, .ref (ad 6)), (1, .int a1), (2, .int a2)]) hx hb dX0_textsOf_40 hl (k := 3) rfl rfl (by decide) rfl (fun ls hl => ?_)
          refine lv_goto (tgt := 4) hx hb dX0_textsOf_43 (by decide) ?_
          exact ih hf hP hS (lv_sub hl [1, 2, 3, 0] rfl)
        · have hf := if_f hq hf
          refine lv_iinc (v := (a2 + 1)) (lv' := [(2, .int (a2 + 1)), (0, .ref (ad 6)), (1, .int a1), (3, .int a3)]) hx hb dX0_textsOf_37 hl (k := 2) rfl rfl (by decide) rfl (fun ls hl => ?_)
          refine lv_iinc (v := (a3 + 1)) (lv' := [(3, .int (a3 + 1)), (2, .int (a2 + 1)), (0, .ref (ad 6)), (1, .int a1)]) hx hb dX0_textsOf_40 hl (k := 3) rfl rfl (by decide) rfl (fun ls hl => ?_)
          refine lv_goto (tgt := 4) hx hb dX0_textsOf_43 (by decide) ?_
          exact ih hf hP hS (lv_sub hl [2, 3, 1, 0] rfl)
set_option maxHeartbeats 4000000 in
set_option maxRecDepth 100000 in
theorem b_X0_textsOf (X : cx p s m meth c args cX0_textsOf 4 (some .int) RX0 D [(cI, .int)]) (hN : nj ad 34) {σ : St} {a1 : Int32} {r : Int32} (hf : f_X0_textsOf a1 σ = some r) {H : Heap} {locs : List Loc} {ls : Array Slot} (hP : va_P D vwCl (wC ad cI σ) H) (hS : va_S (aw ad 34) s.heap H locs) (hl : lv_has ls 4 [(0, .ref (ad 6)), (1, .int a1)]) : W p l e rm_X0_textsOf s m args below meth c H locs 0 0 (MQ below (qI D (wC ad cI) (aw ad 34) r σ) args s 0 0 (aw ad 34)) (F0 m 0 ls []) := by
  obtain ⟨hx, hb, hml, hown, hts, hr, hlk, hK⟩ := id X
  rw [f_X0_textsOf] at hf
  refine lv_iconst (v := 0) hx hb dX0_textsOf_0 rfl ?_
  refine lv_istore_n (lv' := [(2, .int 0), (0, .ref (ad 6)), (1, .int a1)]) hx hb dX0_textsOf_1 rfl hl (by decide) rfl (fun ls hl => ?_)
  refine lv_iconst (v := 0) hx hb dX0_textsOf_2 rfl ?_
  refine lv_istore_n (lv' := [(3, .int 0), (2, .int 0), (0, .ref (ad 6)), (1, .int a1)]) hx hb dX0_textsOf_3 rfl hl (by decide) rfl (fun ls hl => ?_)
  exact b_X0_textsOf_L4 X hN _ hf hP hS (lv_sub hl [2, 3, 1, 0] rfl)
set_option maxHeartbeats 4000000 in
set_option maxRecDepth 100000 in
theorem c_X0_textsOf {l : Launch} {D : va_G} {ad : Nat → Nat} {cI : ClassId} (hN : nj ad 34) {σ : St} {a1 : Int32} {r : Int32} (hf : f_X0_textsOf a1 σ = some r) : Met l yX0_textsOf (.code yX0_textsOf cX0_textsOf 4 (some .int) :: wsL_law) rm_X0_textsOf (va_Pc [.ref (ad 6), .int a1] (pw D (wC ad cI) [(cI, .int)] σ)) (qI D (wC ad cI) (aw ad 34) r σ) 0 0 (aw ad 34) :=
  met_mk (by decide) rfl (Nat.le_of_ble_eq_true rfl) (fun p e s m below meth c X hP ls hl => b_X0_textsOf X hN hf hP va_S.rf hl)
set_option maxHeartbeats 4000000 in
set_option maxRecDepth 100000 in
theorem b_X0_wordsOf_L4 (X : cx p s m meth c args cX0_wordsOf 4 (some .int) RX0 D [(cI, .int)]) (hN : nj ad 34) : ∀ (n : Nat) {σ : St} {a1 a2 a3 : Int32} {r : Int32}, f_X0_wordsOf_L4 σ n a1 a2 a3 = some r → ∀ {H : Heap} {locs : List Loc} {ls : Array Slot}, va_P D vwCl (wC ad cI σ) H → va_S (aw ad 34) s.heap H locs → lv_has ls 4 [(0, .ref (ad 6)), (1, .int a1), (2, .int a2), (3, .int a3)] → W p l e rm_X0_wordsOf s m args below meth c H locs 0 0 (MQ below (qI D (wC ad cI) (aw ad 34) r σ) args s 0 0 (aw ad 34)) (F0 m 4 ls []) := by
  intro n
  induction n with
  | zero =>
    intro σ a1 a2 a3 r hf
    rw [f_X0_wordsOf_L4] at hf
    cases hf
  | succ n ih =>
    intro σ a1 a2 a3 r hf H locs ls hP hS hl
    obtain ⟨hx, hb, hml, hown, hts, hr, hlk, hK⟩ := id X
    rw [f_X0_wordsOf_L4] at hf
    refine lv_iload_n hx hb dX0_wordsOf_4 rfl (lv_at hl 3 rfl) ?_
    refine lv_aload_n hx hb dX0_wordsOf_5 rfl (lv_at hl 0 rfl) ?_
    refine fg_X0_33 X hP dX0_wordsOf_6 ?_
    obtain ⟨x1, e_x1, hf⟩ := lf_some hf
    refine fg_X0_88 X hP e_x1 dX0_wordsOf_9 ?_
    refine lv_icmp_ge (tgt := 55) hx hb dX0_wordsOf_12 (by decide) (fun hq => ?_) (fun hq => ?_)
    · have hf := if_t hq hf
      refine lv_iload_n hx hb dX0_wordsOf_55 rfl (lv_at hl 2 rfl) ?_
      exact rI X hP hS hf dX0_wordsOf_56
    · have hf := if_f hq hf
      refine lv_aload_n hx hb dX0_wordsOf_15 rfl (lv_at hl 0 rfl) ?_
      refine fg_X0_33 X hP dX0_wordsOf_16 ?_
      refine fg_X0_94 X hP dX0_wordsOf_19 ?_
      refine lv_iload_n hx hb dX0_wordsOf_22 rfl (lv_at hl 3 rfl) ?_
      obtain ⟨hi, x2, e_x2, hf⟩ := ld_some hf
      refine ldr (t0 := 0) X hP wC_8 rfl hi e_x2 dX0_wordsOf_23 ?_
      refine lv_iconst (v := 1) hx hb dX0_wordsOf_24 rfl ?_
      refine lv_icmp_ne (tgt := 49) hx hb dX0_wordsOf_25 (by decide) (fun hq => ?_) (fun hq => ?_)
      · have hf := if_f hq hf
        refine lv_iinc (v := (a3 + 1)) (lv' := [(3, .int (a3 + 1)), (0, .ref (ad 6)), (1, .int a1), (2, .int a2)]) hx hb dX0_wordsOf_49 hl (k := 3) rfl rfl (by decide) rfl (fun ls hl => ?_)
        refine lv_goto (tgt := 4) hx hb dX0_wordsOf_52 (by decide) ?_
        exact ih hf hP hS (lv_sub hl [1, 2, 3, 0] rfl)
      · have hf := if_t hq hf
        refine lv_aload_n hx hb dX0_wordsOf_28 rfl (lv_at hl 0 rfl) ?_
        refine lv_iload_n hx hb dX0_wordsOf_29 rfl (lv_at hl 1 rfl) ?_
        refine lv_iload_n hx hb dX0_wordsOf_30 rfl (lv_at hl 3 rfl) ?_
        obtain ⟨x3, hc, hf⟩ := bi_some hf
        refine kVi (As := [.int a1, .int a3]) (rest := []) (wd := (wC ad cI)) (q0 := 6) (ci := 0) X (c_X0_isReadIn (l := l) (D := D) (σ := σ) hN hc) (cw_X0_97 X.2.2.2.2.1 ⟨Nat.le_of_ble_eq_true rfl, Nat.le_of_ble_eq_true rfl⟩) rfl rfl hP hS hl rfl rfl (Nat.le_of_ble_eq_true rfl) dX0_wordsOf_31 (fun H locs hP hS => ?_)
        refine lv_if_eq (tgt := 49) hx hb dX0_wordsOf_34 (by decide) (fun hq => ?_) (fun hq => ?_)
        · have hf := if_t hq hf
          refine lv_iinc (v := (a3 + 1)) (lv' := [(3, .int (a3 + 1)), (0, .ref (ad 6)), (1, .int a1), (2, .int a2)]) hx hb dX0_wordsOf_49 hl (k := 3) rfl rfl (by decide) rfl (fun ls hl => ?_)
          refine lv_goto (tgt := 4) hx hb dX0_wordsOf_52 (by decide) ?_
          exact ih hf hP hS (lv_sub hl [1, 2, 3, 0] rfl)
        · have hf := if_f hq hf
          refine lv_iload_n hx hb dX0_wordsOf_37 rfl (lv_at hl 2 rfl) ?_
          refine lv_aload_n hx hb dX0_wordsOf_38 rfl (lv_at hl 0 rfl) ?_
          refine fg_X0_33 X hP dX0_wordsOf_39 ?_
          refine fg_X0_100 X hP dX0_wordsOf_42 ?_
          refine lv_iload_n hx hb dX0_wordsOf_45 rfl (lv_at hl 3 rfl) ?_
          obtain ⟨hi, x4, e_x4, hf⟩ := ld_some hf
          refine ldr (t0 := 0) X hP wC_13 rfl hi e_x4 dX0_wordsOf_46 ?_
          refine lv_iadd hx hb dX0_wordsOf_47 ?_
          refine lv_istore_n (lv' := [(2, .int (a2 + x4)), (0, .ref (ad 6)), (1, .int a1), (3, .int a3)]) hx hb dX0_wordsOf_48 rfl hl (by decide) rfl (fun ls hl => ?_)
          refine lv_iinc (v := (a3 + 1)) (lv' := [(3, .int (a3 + 1)), (2, .int (a2 + x4)), (0, .ref (ad 6)), (1, .int a1)]) hx hb dX0_wordsOf_49 hl (k := 3) rfl rfl (by decide) rfl (fun ls hl => ?_)
          refine lv_goto (tgt := 4) hx hb dX0_wordsOf_52 (by decide) ?_
          exact ih hf hP hS (lv_sub hl [2, 3, 1, 0] rfl)
set_option maxHeartbeats 4000000 in
set_option maxRecDepth 100000 in
theorem b_X0_wordsOf (X : cx p s m meth c args cX0_wordsOf 4 (some .int) RX0 D [(cI, .int)]) (hN : nj ad 34) {σ : St} {a1 : Int32} {r : Int32} (hf : f_X0_wordsOf a1 σ = some r) {H : Heap} {locs : List Loc} {ls : Array Slot} (hP : va_P D vwCl (wC ad cI σ) H) (hS : va_S (aw ad 34) s.heap H locs) (hl : lv_has ls 4 [(0, .ref (ad 6)), (1, .int a1)]) : W p l e rm_X0_wordsOf s m args below meth c H locs 0 0 (MQ below (qI D (wC ad cI) (aw ad 34) r σ) args s 0 0 (aw ad 34)) (F0 m 0 ls []) := by
  obtain ⟨hx, hb, hml, hown, hts, hr, hlk, hK⟩ := id X
  rw [f_X0_wordsOf] at hf
  refine lv_iconst (v := 0) hx hb dX0_wordsOf_0 rfl ?_
  refine lv_istore_n (lv' := [(2, .int 0), (0, .ref (ad 6)), (1, .int a1)]) hx hb dX0_wordsOf_1 rfl hl (by decide) rfl (fun ls hl => ?_)
  refine lv_iconst (v := 0) hx hb dX0_wordsOf_2 rfl ?_
  refine lv_istore_n (lv' := [(3, .int 0), (2, .int 0), (0, .ref (ad 6)), (1, .int a1)]) hx hb dX0_wordsOf_3 rfl hl (by decide) rfl (fun ls hl => ?_)
  exact b_X0_wordsOf_L4 X hN _ hf hP hS (lv_sub hl [2, 3, 1, 0] rfl)
set_option maxHeartbeats 4000000 in
set_option maxRecDepth 100000 in
theorem c_X0_wordsOf {l : Launch} {D : va_G} {ad : Nat → Nat} {cI : ClassId} (hN : nj ad 34) {σ : St} {a1 : Int32} {r : Int32} (hf : f_X0_wordsOf a1 σ = some r) : Met l yX0_wordsOf (.code yX0_wordsOf cX0_wordsOf 4 (some .int) :: wsL_law) rm_X0_wordsOf (va_Pc [.ref (ad 6), .int a1] (pw D (wC ad cI) [(cI, .int)] σ)) (qI D (wC ad cI) (aw ad 34) r σ) 0 0 (aw ad 34) :=
  met_mk (by decide) rfl (Nat.le_of_ble_eq_true rfl) (fun p e s m below meth c X hP ls hl => b_X0_wordsOf X hN hf hP va_S.rf hl)
set_option maxHeartbeats 4000000 in
set_option maxRecDepth 100000 in
theorem b_X0_pagesOf_L4 (X : cx p s m meth c args cX0_pagesOf 4 (some .int) RX0 D [(cI, .int)]) (hN : nj ad 34) : ∀ (n : Nat) {σ : St} {a1 a2 a3 : Int32} {r : Int32}, f_X0_pagesOf_L4 σ n a1 a2 a3 = some r → ∀ {H : Heap} {locs : List Loc} {ls : Array Slot}, va_P D vwCl (wC ad cI σ) H → va_S (aw ad 34) s.heap H locs → lv_has ls 4 [(0, .ref (ad 6)), (1, .int a1), (2, .int a2), (3, .int a3)] → W p l e rm_X0_pagesOf s m args below meth c H locs 0 0 (MQ below (qI D (wC ad cI) (aw ad 34) r σ) args s 0 0 (aw ad 34)) (F0 m 4 ls []) := by
  intro n
  induction n with
  | zero =>
    intro σ a1 a2 a3 r hf
    rw [f_X0_pagesOf_L4] at hf
    cases hf
  | succ n ih =>
    intro σ a1 a2 a3 r hf H locs ls hP hS hl
    obtain ⟨hx, hb, hml, hown, hts, hr, hlk, hK⟩ := id X
    rw [f_X0_pagesOf_L4] at hf
    refine lv_iload_n hx hb dX0_pagesOf_4 rfl (lv_at hl 3 rfl) ?_
    refine lv_aload_n hx hb dX0_pagesOf_5 rfl (lv_at hl 0 rfl) ?_
    refine fg_X0_33 X hP dX0_pagesOf_6 ?_
    obtain ⟨x1, e_x1, hf⟩ := lf_some hf
    refine fg_X0_88 X hP e_x1 dX0_pagesOf_9 ?_
    refine lv_icmp_ge (tgt := 44) hx hb dX0_pagesOf_12 (by decide) (fun hq => ?_) (fun hq => ?_)
    · have hf := if_t hq hf
      refine lv_iload_n hx hb dX0_pagesOf_44 rfl (lv_at hl 2 rfl) ?_
      exact rI X hP hS hf dX0_pagesOf_45
    · have hf := if_f hq hf
      refine lv_aload_n hx hb dX0_pagesOf_15 rfl (lv_at hl 0 rfl) ?_
      refine lv_iload_n hx hb dX0_pagesOf_16 rfl (lv_at hl 1 rfl) ?_
      refine lv_iload_n hx hb dX0_pagesOf_17 rfl (lv_at hl 3 rfl) ?_
      obtain ⟨x2, hc, hf⟩ := bi_some hf
      refine kVi (As := [.int a1, .int a3]) (rest := []) (wd := (wC ad cI)) (q0 := 6) (ci := 0) X (c_X0_isReadIn (l := l) (D := D) (σ := σ) hN hc) (cw_X0_97 X.2.2.2.2.1 ⟨Nat.le_of_ble_eq_true rfl, Nat.le_of_ble_eq_true rfl⟩) rfl rfl hP hS hl rfl rfl (Nat.le_of_ble_eq_true rfl) dX0_pagesOf_18 (fun H locs hP hS => ?_)
      refine lv_if_eq (tgt := 38) hx hb dX0_pagesOf_21 (by decide) (fun hq => ?_) (fun hq => ?_)
      · have hf := if_t hq hf
        refine lv_iinc (v := (a3 + 1)) (lv' := [(3, .int (a3 + 1)), (0, .ref (ad 6)), (1, .int a1), (2, .int a2)]) hx hb dX0_pagesOf_38 hl (k := 3) rfl rfl (by decide) rfl (fun ls hl => ?_)
        refine lv_goto (tgt := 4) hx hb dX0_pagesOf_41 (by decide) ?_
        exact ih hf hP hS (lv_sub hl [1, 2, 3, 0] rfl)
      · have hf := if_f hq hf
        refine lv_iload_n hx hb dX0_pagesOf_24 rfl (lv_at hl 2 rfl) ?_
        refine lv_iconst (v := 1) hx hb dX0_pagesOf_25 rfl ?_
        refine lv_aload_n hx hb dX0_pagesOf_26 rfl (lv_at hl 0 rfl) ?_
        refine fg_X0_33 X hP dX0_pagesOf_27 ?_
        refine fg_X0_91 X hP dX0_pagesOf_30 ?_
        refine lv_iload_n hx hb dX0_pagesOf_33 rfl (lv_at hl 3 rfl) ?_
        obtain ⟨hi, x3, e_x3, hf⟩ := ld_some hf
        refine ldr (t0 := 0) X hP wC_7 rfl hi e_x3 dX0_pagesOf_34 ?_
        refine lv_ishl hx hb dX0_pagesOf_35 ?_
        refine lv_ior hx hb dX0_pagesOf_36 ?_
        refine lv_istore_n (lv' := [(2, .int (a2 ||| (1 <<< (x3 &&& 31)))), (0, .ref (ad 6)), (1, .int a1), (3, .int a3)]) hx hb dX0_pagesOf_37 rfl hl (by decide) rfl (fun ls hl => ?_)
        refine lv_iinc (v := (a3 + 1)) (lv' := [(3, .int (a3 + 1)), (2, .int (a2 ||| (1 <<< (x3 &&& 31)))), (0, .ref (ad 6)), (1, .int a1)]) hx hb dX0_pagesOf_38 hl (k := 3) rfl rfl (by decide) rfl (fun ls hl => ?_)
        refine lv_goto (tgt := 4) hx hb dX0_pagesOf_41 (by decide) ?_
        exact ih hf hP hS (lv_sub hl [2, 3, 1, 0] rfl)
set_option maxHeartbeats 4000000 in
set_option maxRecDepth 100000 in
theorem b_X0_pagesOf (X : cx p s m meth c args cX0_pagesOf 4 (some .int) RX0 D [(cI, .int)]) (hN : nj ad 34) {σ : St} {a1 : Int32} {r : Int32} (hf : f_X0_pagesOf a1 σ = some r) {H : Heap} {locs : List Loc} {ls : Array Slot} (hP : va_P D vwCl (wC ad cI σ) H) (hS : va_S (aw ad 34) s.heap H locs) (hl : lv_has ls 4 [(0, .ref (ad 6)), (1, .int a1)]) : W p l e rm_X0_pagesOf s m args below meth c H locs 0 0 (MQ below (qI D (wC ad cI) (aw ad 34) r σ) args s 0 0 (aw ad 34)) (F0 m 0 ls []) := by
  obtain ⟨hx, hb, hml, hown, hts, hr, hlk, hK⟩ := id X
  rw [f_X0_pagesOf] at hf
  refine lv_iconst (v := 0) hx hb dX0_pagesOf_0 rfl ?_
  refine lv_istore_n (lv' := [(2, .int 0), (0, .ref (ad 6)), (1, .int a1)]) hx hb dX0_pagesOf_1 rfl hl (by decide) rfl (fun ls hl => ?_)
  refine lv_iconst (v := 0) hx hb dX0_pagesOf_2 rfl ?_
  refine lv_istore_n (lv' := [(3, .int 0), (2, .int 0), (0, .ref (ad 6)), (1, .int a1)]) hx hb dX0_pagesOf_3 rfl hl (by decide) rfl (fun ls hl => ?_)
  exact b_X0_pagesOf_L4 X hN _ hf hP hS (lv_sub hl [2, 3, 1, 0] rfl)
set_option maxHeartbeats 4000000 in
set_option maxRecDepth 100000 in
theorem c_X0_pagesOf {l : Launch} {D : va_G} {ad : Nat → Nat} {cI : ClassId} (hN : nj ad 34) {σ : St} {a1 : Int32} {r : Int32} (hf : f_X0_pagesOf a1 σ = some r) : Met l yX0_pagesOf (.code yX0_pagesOf cX0_pagesOf 4 (some .int) :: wsL_law) rm_X0_pagesOf (va_Pc [.ref (ad 6), .int a1] (pw D (wC ad cI) [(cI, .int)] σ)) (qI D (wC ad cI) (aw ad 34) r σ) 0 0 (aw ad 34) :=
  met_mk (by decide) rfl (Nat.le_of_ble_eq_true rfl) (fun p e s m below meth c X hP ls hl => b_X0_pagesOf X hN hf hP va_S.rf hl)
set_option maxHeartbeats 4000000 in
set_option maxRecDepth 100000 in
theorem b_X5_headOf (X : cx p s m meth c args cX5_headOf 2 (some .int) RX5 D [(cI, .int)]) (hN : nj ad 34) {σ : St} {a1 : Int32} {r : Int32} (hf : f_X5_headOf a1 σ = some r) {H : Heap} {locs : List Loc} {ls : Array Slot} (hP : va_P D vwCl (wC ad cI σ) H) (hS : va_S (aw ad 34) s.heap H locs) (hl : lv_has ls 2 [(0, .ref (ad 5)), (1, .int a1)]) : W p l e rm_X5_headOf s m args below meth c H locs 0 0 (MQ below (qI D (wC ad cI) (aw ad 34) r σ) args s 0 0 (aw ad 34)) (F0 m 0 ls []) := by
  obtain ⟨hx, hb, hml, hown, hts, hr, hlk, hK⟩ := id X
  rw [f_X5_headOf] at hf
  refine lv_aload_n hx hb dX5_headOf_0 rfl (lv_at hl 0 rfl) ?_
  refine fg_X5_30 X hP dX5_headOf_1 ?_
  refine fg_X5_51 X hP dX5_headOf_4 ?_
  refine lv_aload_n hx hb dX5_headOf_7 rfl (lv_at hl 0 rfl) ?_
  refine fg_X5_24 X hP dX5_headOf_8 ?_
  refine lv_iload_n hx hb dX5_headOf_11 rfl (lv_at hl 1 rfl) ?_
  obtain ⟨hi, x1, e_x1, hf⟩ := ld_some hf
  refine ldr (t0 := 0) X hP wC_25 rfl hi e_x1 dX5_headOf_12 ?_
  obtain ⟨hi, x2, e_x2, hf⟩ := ld_some hf
  refine ldr (t0 := 0) X hP wC_8 rfl hi e_x2 dX5_headOf_13 ?_
  refine lv_if_ne (tgt := 26) hx hb dX5_headOf_14 (by decide) (fun hq => ?_) (fun hq => ?_)
  · have hf := if_f hq hf
    refine lv_bipush (v := (-9)) hx hb dX5_headOf_26 rfl ?_
    exact rI X hP hS hf dX5_headOf_28
  · have hf := if_t hq hf
    refine lv_aload_n hx hb dX5_headOf_17 rfl (lv_at hl 0 rfl) ?_
    refine fg_X5_24 X hP dX5_headOf_18 ?_
    refine lv_iload_n hx hb dX5_headOf_21 rfl (lv_at hl 1 rfl) ?_
    obtain ⟨hi, x3, e_x3, hf⟩ := ld_some hf
    refine ldr (t0 := 0) X hP wC_25 rfl hi e_x3 dX5_headOf_22 ?_
    refine lv_goto (tgt := 28) hx hb dX5_headOf_23 (by decide) ?_
    exact rI X hP hS hf dX5_headOf_28
set_option maxHeartbeats 4000000 in
set_option maxRecDepth 100000 in
theorem c_X5_headOf {l : Launch} {D : va_G} {ad : Nat → Nat} {cI : ClassId} (hN : nj ad 34) {σ : St} {a1 : Int32} {r : Int32} (hf : f_X5_headOf a1 σ = some r) : Met l yX5_headOf (.code yX5_headOf cX5_headOf 2 (some .int) :: wsL_law) rm_X5_headOf (va_Pc [.ref (ad 5), .int a1] (pw D (wC ad cI) [(cI, .int)] σ)) (qI D (wC ad cI) (aw ad 34) r σ) 0 0 (aw ad 34) :=
  met_mk (by decide) rfl (Nat.le_of_ble_eq_true rfl) (fun p e s m below meth c X hP ls hl => b_X5_headOf X hN hf hP va_S.rf hl)
set_option maxHeartbeats 4000000 in
set_option maxRecDepth 100000 in
theorem b_X5_textAt_L5 (X : cx p s m meth c args cX5_textAt 5 (some .int) RX5 D [(cI, .int)]) (hN : nj ad 34) : ∀ (n : Nat) {σ : St} {a1 a2 a3 a4 : Int32} {r : Int32}, f_X5_textAt_L5 σ n a1 a2 a3 a4 = some r → ∀ {H : Heap} {locs : List Loc} {ls : Array Slot}, va_P D vwCl (wC ad cI σ) H → va_S (aw ad 34) s.heap H locs → lv_has ls 5 [(0, .ref (ad 5)), (1, .int a1), (2, .int a2), (3, .int a3), (4, .int a4)] → W p l e rm_X5_textAt s m args below meth c H locs 0 0 (MQ below (qI D (wC ad cI) (aw ad 34) r σ) args s 0 0 (aw ad 34)) (F0 m 5 ls []) := by
  intro n
  induction n with
  | zero =>
    intro σ a1 a2 a3 a4 r hf
    rw [f_X5_textAt_L5] at hf
    cases hf
  | succ n ih =>
    intro σ a1 a2 a3 a4 r hf H locs ls hP hS hl
    obtain ⟨hx, hb, hml, hown, hts, hr, hlk, hK⟩ := id X
    rw [f_X5_textAt_L5] at hf
    refine lv_iload hx hb dX5_textAt_5 (lv_at hl 4 rfl) ?_
    refine lv_aload_n hx hb dX5_textAt_7 rfl (lv_at hl 0 rfl) ?_
    obtain ⟨x1, e_x1, hf⟩ := lf_some hf
    refine fg_X5_42 X hP e_x1 dX5_textAt_8 ?_
    refine lv_icmp_ge (tgt := 52) hx hb dX5_textAt_11 (by decide) (fun hq => ?_) (fun hq => ?_)
    · have hf := if_t hq hf
      refine lv_bipush (v := (-9)) hx hb dX5_textAt_52 rfl ?_
      exact rI X hP hS hf dX5_textAt_54
    · have hf := if_f hq hf
      refine lv_aload_n hx hb dX5_textAt_14 rfl (lv_at hl 0 rfl) ?_
      refine fg_X5_21 X hP dX5_textAt_15 ?_
      refine lv_aload_n hx hb dX5_textAt_18 rfl (lv_at hl 0 rfl) ?_
      refine fg_X5_27 X hP dX5_textAt_19 ?_
      refine lv_iload hx hb dX5_textAt_22 (lv_at hl 4 rfl) ?_
      obtain ⟨hi, x2, e_x2, hf⟩ := ld_some hf
      refine ldr (t0 := 0) X hP wC_26 rfl hi e_x2 dX5_textAt_24 ?_
      obtain ⟨hi, x3, e_x3, hf⟩ := ld_some hf
      refine ldr (t0 := 0) X hP wC_24 rfl hi e_x3 dX5_textAt_25 ?_
      refine lv_iload_n hx hb dX5_textAt_26 rfl (lv_at hl 1 rfl) ?_
      refine lv_icmp_ne (tgt := 46) hx hb dX5_textAt_27 (by decide) (fun hq => ?_) (fun hq => ?_)
      · have hf := if_f hq hf
        refine lv_iinc (v := (a4 + 1)) (lv' := [(4, .int (a4 + 1)), (0, .ref (ad 5)), (1, .int a1), (2, .int a2), (3, .int a3)]) hx hb dX5_textAt_46 hl (k := 4) rfl rfl (by decide) rfl (fun ls hl => ?_)
        refine lv_goto (tgt := 5) hx hb dX5_textAt_49 (by decide) ?_
        exact ih hf hP hS (lv_sub hl [1, 2, 3, 4, 0] rfl)
      · have hf := if_t hq hf
        refine lv_iload_n hx hb dX5_textAt_30 rfl (lv_at hl 3 rfl) ?_
        refine lv_iload_n hx hb dX5_textAt_31 rfl (lv_at hl 2 rfl) ?_
        refine lv_icmp_ne (tgt := 43) hx hb dX5_textAt_32 (by decide) (fun hq => ?_) (fun hq => ?_)
        · have hf := if_f hq hf
          refine lv_iinc (v := (a3 + 1)) (lv' := [(3, .int (a3 + 1)), (0, .ref (ad 5)), (1, .int a1), (2, .int a2), (4, .int a4)]) hx hb dX5_textAt_43 hl (k := 3) rfl rfl (by decide) rfl (fun ls hl => ?_)
          refine lv_iinc (v := (a4 + 1)) (lv' := [(4, .int (a4 + 1)), (3, .int (a3 + 1)), (0, .ref (ad 5)), (1, .int a1), (2, .int a2)]) hx hb dX5_textAt_46 hl (k := 4) rfl rfl (by decide) rfl (fun ls hl => ?_)
          refine lv_goto (tgt := 5) hx hb dX5_textAt_49 (by decide) ?_
          exact ih hf hP hS (lv_sub hl [2, 3, 4, 1, 0] rfl)
        · have hf := if_t hq hf
          refine lv_aload_n hx hb dX5_textAt_35 rfl (lv_at hl 0 rfl) ?_
          refine fg_X5_27 X hP dX5_textAt_36 ?_
          refine lv_iload hx hb dX5_textAt_39 (lv_at hl 4 rfl) ?_
          obtain ⟨hi, x4, e_x4, hf⟩ := ld_some hf
          refine ldr (t0 := 0) X hP wC_26 rfl hi e_x4 dX5_textAt_41 ?_
          exact rI X hP hS hf dX5_textAt_42
set_option maxHeartbeats 4000000 in
set_option maxRecDepth 100000 in
theorem b_X5_textAt (X : cx p s m meth c args cX5_textAt 5 (some .int) RX5 D [(cI, .int)]) (hN : nj ad 34) {σ : St} {a1 a2 : Int32} {r : Int32} (hf : f_X5_textAt a1 a2 σ = some r) {H : Heap} {locs : List Loc} {ls : Array Slot} (hP : va_P D vwCl (wC ad cI σ) H) (hS : va_S (aw ad 34) s.heap H locs) (hl : lv_has ls 5 [(0, .ref (ad 5)), (1, .int a1), (2, .int a2)]) : W p l e rm_X5_textAt s m args below meth c H locs 0 0 (MQ below (qI D (wC ad cI) (aw ad 34) r σ) args s 0 0 (aw ad 34)) (F0 m 0 ls []) := by
  obtain ⟨hx, hb, hml, hown, hts, hr, hlk, hK⟩ := id X
  rw [f_X5_textAt] at hf
  refine lv_iconst (v := 0) hx hb dX5_textAt_0 rfl ?_
  refine lv_istore_n (lv' := [(3, .int 0), (0, .ref (ad 5)), (1, .int a1), (2, .int a2)]) hx hb dX5_textAt_1 rfl hl (by decide) rfl (fun ls hl => ?_)
  refine lv_iconst (v := 0) hx hb dX5_textAt_2 rfl ?_
  refine lv_istore (lv' := [(4, .int 0), (3, .int 0), (0, .ref (ad 5)), (1, .int a1), (2, .int a2)]) hx hb dX5_textAt_3 hl (by decide) rfl (fun ls hl => ?_)
  exact b_X5_textAt_L5 X hN _ hf hP hS (lv_sub hl [2, 3, 4, 1, 0] rfl)
set_option maxHeartbeats 4000000 in
set_option maxRecDepth 100000 in
theorem c_X5_textAt {l : Launch} {D : va_G} {ad : Nat → Nat} {cI : ClassId} (hN : nj ad 34) {σ : St} {a1 a2 : Int32} {r : Int32} (hf : f_X5_textAt a1 a2 σ = some r) : Met l yX5_textAt (.code yX5_textAt cX5_textAt 5 (some .int) :: wsL_law) rm_X5_textAt (va_Pc [.ref (ad 5), .int a1, .int a2] (pw D (wC ad cI) [(cI, .int)] σ)) (qI D (wC ad cI) (aw ad 34) r σ) 0 0 (aw ad 34) :=
  met_mk (by decide) rfl (Nat.le_of_ble_eq_true rfl) (fun p e s m below meth c X hP ls hl => b_X5_textAt X hN hf hP va_S.rf hl)
end WALK
