section WALK
variable {p : Program} {l : Launch} {e : Env} {s : State} {m : MethodId} {args : Array Value} {below : List Frame} {meth : Method} {c : Code} {D : va_G} {ad : Nat → Nat} {cI cZ : ClassId}
set_option maxHeartbeats 4000000 in
set_option maxRecDepth 100000 in
theorem b_X5_textsOf_L4 (X : cx p s m meth c args cX5_textsOf 4 (some .int) RX5 D [(cI, .int)]) (hN : nj ad 34) : ∀ (n : Nat) {σ : St} {a1 a2 a3 : Int32} {r : Int32}, f_X5_textsOf_L4 σ n a1 a2 a3 = some r → ∀ {H : Heap} {locs : List Loc} {ls : Array Slot}, va_P D vwCl (wC ad cI σ) H → va_S (aw ad 34) s.heap H locs → lv_has ls 4 [(0, .ref (ad 5)), (1, .int a1), (2, .int a2), (3, .int a3)] → W p l e rm_X5_textsOf s m args below meth c H locs 0 0 (MQ below (qI D (wC ad cI) (aw ad 34) r σ) args s 0 0 (aw ad 34)) (F0 m 4 ls []) := by
  intro n
  induction n with
  | zero =>
    intro σ a1 a2 a3 r hf
    rw [f_X5_textsOf_L4] at hf
    cases hf
  | succ n ih =>
    intro σ a1 a2 a3 r hf H locs ls hP hS hl
    obtain ⟨hx, hb, hml, hown, hts, hr, hlk, hK⟩ := id X
    rw [f_X5_textsOf_L4] at hf
    refine lv_iload_n hx hb dX5_textsOf_4 rfl (lv_at hl 3 rfl) ?_
    refine lv_aload_n hx hb dX5_textsOf_5 rfl (lv_at hl 0 rfl) ?_
    obtain ⟨x1, e_x1, hf⟩ := lf_some hf
    refine fg_X5_42 X hP e_x1 dX5_textsOf_6 ?_
    refine lv_icmp_ge (tgt := 36) hx hb dX5_textsOf_9 (by decide) (fun hq => ?_) (fun hq => ?_)
    · have hf := if_t hq hf
      refine lv_iload_n hx hb dX5_textsOf_36 rfl (lv_at hl 2 rfl) ?_
      exact rI X hP hS hf dX5_textsOf_37
    · have hf := if_f hq hf
      refine lv_aload_n hx hb dX5_textsOf_12 rfl (lv_at hl 0 rfl) ?_
      refine fg_X5_21 X hP dX5_textsOf_13 ?_
      refine lv_aload_n hx hb dX5_textsOf_16 rfl (lv_at hl 0 rfl) ?_
      refine fg_X5_27 X hP dX5_textsOf_17 ?_
      refine lv_iload_n hx hb dX5_textsOf_20 rfl (lv_at hl 3 rfl) ?_
      obtain ⟨hi, x2, e_x2, hf⟩ := ld_some hf
      refine ldr (t0 := 0) X hP wC_26 rfl hi e_x2 dX5_textsOf_21 ?_
      obtain ⟨hi, x3, e_x3, hf⟩ := ld_some hf
      refine ldr (t0 := 0) X hP wC_24 rfl hi e_x3 dX5_textsOf_22 ?_
      refine lv_iload_n hx hb dX5_textsOf_23 rfl (lv_at hl 1 rfl) ?_
      refine lv_icmp_ne (tgt := 30) hx hb dX5_textsOf_24 (by decide) (fun hq => ?_) (fun hq => ?_)
      · have hf := if_f hq hf
        refine lv_iinc (v := (a3 + 1)) (lv' := [(3, .int (a3 + 1)), (0, .ref (ad 5)), (1, .int a1), (2, .int a2)]) hx hb dX5_textsOf_30 hl (k := 3) rfl rfl (by decide) rfl (fun ls hl => ?_)
        refine lv_goto (tgt := 4) hx hb dX5_textsOf_33 (by decide) ?_
        exact ih hf hP hS (lv_sub hl [1, 2, 3, 0] rfl)
      · have hf := if_t hq hf
        refine lv_iinc (v := (a2 + 1)) (lv' := [(2, .int (a2 + 1)), (0, .ref (ad 5)), (1, .int a1), (3, .int a3)]) hx hb dX5_textsOf_27 hl (k := 2) rfl rfl (by decide) rfl (fun ls hl => ?_)
        refine lv_iinc (v := (a3 + 1)) (lv' := [(3, .int (a3 + 1)), (2, .int (a2 + 1)), (0, .ref (ad 5)), (1, .int a1)]) hx hb dX5_textsOf_30 hl (k := 3) rfl rfl (by decide) rfl (fun ls hl => ?_)
        refine lv_goto (tgt := 4) hx hb dX5_textsOf_33 (by decide) ?_
        exact ih hf hP hS (lv_sub hl [2, 3, 1, 0] rfl)
set_option maxHeartbeats 4000000 in
set_option maxRecDepth 100000 in
theorem b_X5_textsOf (X : cx p s m meth c args cX5_textsOf 4 (some .int) RX5 D [(cI, .int)]) (hN : nj ad 34) {σ : St} {a1 : Int32} {r : Int32} (hf : f_X5_textsOf a1 σ = some r) {H : Heap} {locs : List Loc} {ls : Array Slot} (hP : va_P D vwCl (wC ad cI σ) H) (hS : va_S (aw ad 34) s.heap H locs) (hl : lv_has ls 4 [(0, .ref (ad 5)), (1, .int a1)]) : W p l e rm_X5_textsOf s m args below meth c H locs 0 0 (MQ below (qI D (wC ad cI) (aw ad 34) r σ) args s 0 0 (aw ad 34)) (F0 m 0 ls []) := by
  obtain ⟨hx, hb, hml, hown, hts, hr, hlk, hK⟩ := id X
  rw [f_X5_textsOf] at hf
  refine lv_iconst (v := 0) hx hb dX5_textsOf_0 rfl ?_
  refine lv_istore_n (lv' := [(2, .int 0), (0, .ref (ad 5)), (1, .int a1)]) hx hb dX5_textsOf_1 rfl hl (by decide) rfl (fun ls hl => ?_)
  refine lv_iconst (v := 0) hx hb dX5_textsOf_2 rfl ?_
  refine lv_istore_n (lv' := [(3, .int 0), (2, .int 0), (0, .ref (ad 5)), (1, .int a1)]) hx hb dX5_textsOf_3 rfl hl (by decide) rfl (fun ls hl => ?_)
  exact b_X5_textsOf_L4 X hN _ hf hP hS (lv_sub hl [2, 3, 1, 0] rfl)
set_option maxHeartbeats 4000000 in
set_option maxRecDepth 100000 in
theorem c_X5_textsOf {l : Launch} {D : va_G} {ad : Nat → Nat} {cI : ClassId} (hN : nj ad 34) {σ : St} {a1 : Int32} {r : Int32} (hf : f_X5_textsOf a1 σ = some r) : Met l yX5_textsOf (.code yX5_textsOf cX5_textsOf 4 (some .int) :: wsL_law) rm_X5_textsOf (va_Pc [.ref (ad 5), .int a1] (pw D (wC ad cI) [(cI, .int)] σ)) (qI D (wC ad cI) (aw ad 34) r σ) 0 0 (aw ad 34) :=
  met_mk (by decide) rfl (Nat.le_of_ble_eq_true rfl) (fun p e s m below meth c X hP ls hl => b_X5_textsOf X hN hf hP va_S.rf hl)
set_option maxHeartbeats 4000000 in
set_option maxRecDepth 100000 in
theorem b_X0_blockAt_B59 (X : cx p s m meth c args cX0_blockAt 8 (some .int) RX0 D [(cI, .int)]) (hN : nj ad 34) {σ : St} {a1 a3 a4 a5 : Int32} {r : Int32} {K : Int32 → Int32 → Int32 → Int32 → Option Int32} (hk : ∀ {b1 b3 b4 b5 : Int32} {H : Heap} {locs : List Loc} {ls : Array Slot}, K b1 b3 b4 b5 = some r → va_P D vwCl (wC ad cI σ) H → va_S (aw ad 34) s.heap H locs → lv_has ls 8 [(0, .ref (ad 6)), (1, .int b1), (3, .int b3), (4, .int b4), (5, .int b5)] → W p l e rm_X0_blockAt s m args below meth c H locs 0 0 (MQ below (qI D (wC ad cI) (aw ad 34) r σ) args s 0 0 (aw ad 34)) (F0 m 13 ls [])) (hf : f_X0_blockAt_B59 σ K a1 a3 a4 a5 = some r) {H : Heap} {locs : List Loc} {ls : Array Slot} (hP : va_P D vwCl (wC ad cI σ) H) (hS : va_S (aw ad 34) s.heap H locs) (hl : lv_has ls 8 [(0, .ref (ad 6)), (1, .int a1), (3, .int a3), (4, .int a4), (5, .int a5)]) : W p l e rm_X0_blockAt s m args below meth c H locs 0 0 (MQ below (qI D (wC ad cI) (aw ad 34) r σ) args s 0 0 (aw ad 34)) (F0 m 59 ls []) := by
  obtain ⟨hx, hb, hml, hown, hts, hr, hlk, hK⟩ := id X
  rw [f_X0_blockAt_B59] at hf
  refine lv_aload_n hx hb dX0_blockAt_59 rfl (lv_at hl 0 rfl) ?_
  refine fg_X0_41 X hP dX0_blockAt_60 ?_
  refine lv_iload hx hb dX0_blockAt_63 (lv_at hl 3 rfl) ?_
  refine lv_iload_n hx hb dX0_blockAt_65 rfl (lv_at hl 2 rfl) ?_
  obtain ⟨x1, hc, hf⟩ := bi_some hf
  refine kVi (As := [.int a4, .int a3]) (rest := []) (wd := (wC ad cI)) (q0 := 5) (ci := 5) X (c_X5_textAt (l := l) (D := D) (σ := σ) hN hc) (cw_X0_106 X.2.2.2.2.1 ⟨Nat.le_of_ble_eq_true rfl, Nat.le_of_ble_eq_true rfl⟩) rfl rfl hP hS hl rfl rfl (Nat.le_of_ble_eq_true rfl) dX0_blockAt_66 (fun H locs hP hS => ?_)
  refine lv_istore (lv' := [(7, .int x1), (0, .ref (ad 6)), (1, .int a1), (3, .int a3), (4, .int a4), (5, .int a5)]) hx hb dX0_blockAt_69 hl (by decide) rfl (fun ls hl => ?_)
  refine lv_iload hx hb dX0_blockAt_71 (lv_at hl 0 rfl) ?_
  refine lv_bipush (v := (-9)) hx hb dX0_blockAt_73 rfl ?_
  refine lv_icmp_eq (tgt := 81) hx hb dX0_blockAt_75 (by decide) (fun hq => ?_) (fun hq => ?_)
  · have hf := if_t hq hf
    refine lv_iload_n hx hb dX0_blockAt_81 rfl (lv_at hl 3 rfl) ?_
    refine lv_aload_n hx hb dX0_blockAt_82 rfl (lv_at hl 1 rfl) ?_
    refine fg_X0_41 X hP dX0_blockAt_83 ?_
    refine lv_iload hx hb dX0_blockAt_86 (lv_at hl 4 rfl) ?_
    obtain ⟨x2, hc, hf⟩ := bi_some hf
    refine kVi (As := [.int a4]) (rest := [.int a3]) (wd := (wC ad cI)) (q0 := 5) (ci := 5) X (c_X5_textsOf (l := l) (D := D) (σ := σ) hN hc) (cw_X0_109 X.2.2.2.2.1 ⟨Nat.le_of_ble_eq_true rfl, Nat.le_of_ble_eq_true rfl⟩) rfl rfl hP hS hl rfl rfl (Nat.le_of_ble_eq_true rfl) dX0_blockAt_88 (fun H locs hP hS => ?_)
    refine lv_isub hx hb dX0_blockAt_91 ?_
    refine lv_istore_n (lv' := [(3, .int (a3 - x2)), (7, .int x1), (0, .ref (ad 6)), (1, .int a1), (4, .int a4), (5, .int a5)]) hx hb dX0_blockAt_92 rfl hl (by decide) rfl (fun ls hl => ?_)
    refine lv_aload_n hx hb dX0_blockAt_93 rfl (lv_at hl 2 rfl) ?_
    refine fg_X0_15 X hP dX0_blockAt_94 ?_
    refine lv_iload hx hb dX0_blockAt_97 (lv_at hl 4 rfl) ?_
    obtain ⟨hi, x3, e_x3, hf⟩ := ld_some hf
    refine ldr (t0 := 0) X hP wC_28 rfl hi e_x3 dX0_blockAt_99 ?_
    refine lv_istore (lv' := [(4, .int x3), (3, .int (a3 - x2)), (7, .int x1), (0, .ref (ad 6)), (1, .int a1), (5, .int a5)]) hx hb dX0_blockAt_100 hl (by decide) rfl (fun ls hl => ?_)
    refine lv_iinc (v := (a5 + 1)) (lv' := [(5, .int (a5 + 1)), (4, .int x3), (3, .int (a3 - x2)), (7, .int x1), (0, .ref (ad 6)), (1, .int a1)]) hx hb dX0_blockAt_102 hl (k := 5) rfl rfl (by decide) rfl (fun ls hl => ?_)
    refine lv_goto (tgt := 13) hx hb dX0_blockAt_105 (by decide) ?_
    exact hk hf hP hS (lv_sub hl [4, 5, 2, 1, 0] rfl)
  · have hf := if_f hq hf
    refine lv_iload hx hb dX0_blockAt_78 (lv_at hl 0 rfl) ?_
    exact rI X hP hS hf dX0_blockAt_80
set_option maxHeartbeats 4000000 in
set_option maxRecDepth 100000 in
theorem b_X0_blockAt_L13 (X : cx p s m meth c args cX0_blockAt 8 (some .int) RX0 D [(cI, .int)]) (hN : nj ad 34) : ∀ (n : Nat) {σ : St} {a1 a3 a4 a5 : Int32} {r : Int32}, f_X0_blockAt_L13 σ n a1 a3 a4 a5 = some r → ∀ {H : Heap} {locs : List Loc} {ls : Array Slot}, va_P D vwCl (wC ad cI σ) H → va_S (aw ad 34) s.heap H locs → lv_has ls 8 [(0, .ref (ad 6)), (1, .int a1), (3, .int a3), (4, .int a4), (5, .int a5)] → W p l e rm_X0_blockAt s m args below meth c H locs 0 0 (MQ below (qI D (wC ad cI) (aw ad 34) r σ) args s 0 0 (aw ad 34)) (F0 m 13 ls []) := by
  intro n
  induction n with
  | zero =>
    intro σ a1 a3 a4 a5 r hf
    rw [f_X0_blockAt_L13] at hf
    cases hf
  | succ n ih =>
    intro σ a1 a3 a4 a5 r hf H locs ls hP hS hl
    obtain ⟨hx, hb, hml, hown, hts, hr, hlk, hK⟩ := id X
    rw [f_X0_blockAt_L13] at hf
    refine lv_iload hx hb dX0_blockAt_13 (lv_at hl 4 rfl) ?_
    refine lv_aload_n hx hb dX0_blockAt_15 rfl (lv_at hl 0 rfl) ?_
    refine fg_X0_30 X hP dX0_blockAt_16 ?_
    refine lv_iload_n hx hb dX0_blockAt_19 rfl (lv_at hl 1 rfl) ?_
    obtain ⟨hi, x1, e_x1, hf⟩ := ld_some hf
    refine ldr (t0 := 0) X hP wC_33 rfl hi e_x1 dX0_blockAt_20 ?_
    refine lv_icmp_ge (tgt := 108) hx hb dX0_blockAt_21 (by decide) (fun hq => ?_) (fun hq => ?_)
    · have hf := if_t hq hf
      refine lv_bipush (v := (-9)) hx hb dX0_blockAt_108 rfl ?_
      exact rI X hP hS hf dX0_blockAt_110
    · have hf := if_f hq hf
      refine lv_iload hx hb dX0_blockAt_24 (lv_at hl 3 rfl) ?_
      refine lv_bipush (v := (-9)) hx hb dX0_blockAt_26 rfl ?_
      refine lv_icmp_eq (tgt := 108) hx hb dX0_blockAt_28 (by decide) (fun hq => ?_) (fun hq => ?_)
      · have hf := if_t hq hf
        refine lv_bipush (v := (-9)) hx hb dX0_blockAt_108 rfl ?_
        exact rI X hP hS hf dX0_blockAt_110
      · have hf := if_f hq hf
        refine lv_aload_n hx hb dX0_blockAt_31 rfl (lv_at hl 0 rfl) ?_
        refine fg_X0_41 X hP dX0_blockAt_32 ?_
        refine lv_iload hx hb dX0_blockAt_35 (lv_at hl 3 rfl) ?_
        obtain ⟨x2, hc, hf⟩ := bi_some hf
        refine kVi (As := [.int a4]) (rest := []) (wd := (wC ad cI)) (q0 := 5) (ci := 5) X (c_X5_headOf (l := l) (D := D) (σ := σ) hN hc) (cw_X0_103 X.2.2.2.2.1 ⟨Nat.le_of_ble_eq_true rfl, Nat.le_of_ble_eq_true rfl⟩) rfl rfl hP hS hl rfl rfl (Nat.le_of_ble_eq_true rfl) dX0_blockAt_37 (fun H locs hP hS => ?_)
        refine lv_istore (lv' := [(6, .int x2), (0, .ref (ad 6)), (1, .int a1), (3, .int a3), (4, .int a4), (5, .int a5)]) hx hb dX0_blockAt_40 hl (by decide) rfl (fun ls hl => ?_)
        refine lv_iload hx hb dX0_blockAt_42 (lv_at hl 0 rfl) ?_
        refine lv_bipush (v := (-9)) hx hb dX0_blockAt_44 rfl ?_
        refine lv_icmp_eq (tgt := 59) hx hb dX0_blockAt_46 (by decide) (fun hq => ?_) (fun hq => ?_)
        · have hf := if_t hq hf
          exact b_X0_blockAt_B59 X hN (fun hf hP hS hl => ih hf hP hS hl) hf hP hS (lv_sub hl [1, 2, 3, 4, 5] rfl)
        · have hf := if_f hq hf
          refine lv_iload_n hx hb dX0_blockAt_49 rfl (lv_at hl 3 rfl) ?_
          refine lv_if_ne (tgt := 56) hx hb dX0_blockAt_50 (by decide) (fun hq => ?_) (fun hq => ?_)
          · have hf := if_f hq hf
            refine lv_iinc (v := (a3 + (-1))) (lv' := [(3, .int (a3 + (-1))), (6, .int x2), (0, .ref (ad 6)), (1, .int a1), (4, .int a4), (5, .int a5)]) hx hb dX0_blockAt_56 hl (k := 3) rfl rfl (by decide) rfl (fun ls hl => ?_)
            exact b_X0_blockAt_B59 X hN (fun hf hP hS hl => ih hf hP hS hl) hf hP hS (lv_sub hl [2, 3, 0, 4, 5] rfl)
          · have hf := if_t hq hf
            refine lv_iload hx hb dX0_blockAt_53 (lv_at hl 0 rfl) ?_
            exact rI X hP hS hf dX0_blockAt_55
set_option maxHeartbeats 4000000 in
set_option maxRecDepth 100000 in
theorem b_X0_blockAt (X : cx p s m meth c args cX0_blockAt 8 (some .int) RX0 D [(cI, .int)]) (hN : nj ad 34) {σ : St} {a1 a2 : Int32} {r : Int32} (hf : f_X0_blockAt a1 a2 σ = some r) {H : Heap} {locs : List Loc} {ls : Array Slot} (hP : va_P D vwCl (wC ad cI σ) H) (hS : va_S (aw ad 34) s.heap H locs) (hl : lv_has ls 8 [(0, .ref (ad 6)), (1, .int a1), (2, .int a2)]) : W p l e rm_X0_blockAt s m args below meth c H locs 0 0 (MQ below (qI D (wC ad cI) (aw ad 34) r σ) args s 0 0 (aw ad 34)) (F0 m 0 ls []) := by
  obtain ⟨hx, hb, hml, hown, hts, hr, hlk, hK⟩ := id X
  rw [f_X0_blockAt] at hf
  refine lv_iload_n hx hb dX0_blockAt_0 rfl (lv_at hl 2 rfl) ?_
  refine lv_istore_n (lv' := [(3, .int a2), (0, .ref (ad 6)), (1, .int a1), (2, .int a2)]) hx hb dX0_blockAt_1 rfl hl (by decide) rfl (fun ls hl => ?_)
  refine lv_aload_n hx hb dX0_blockAt_2 rfl (lv_at hl 1 rfl) ?_
  refine fg_X0_24 X hP dX0_blockAt_3 ?_
  refine lv_iload_n hx hb dX0_blockAt_6 rfl (lv_at hl 2 rfl) ?_
  obtain ⟨hi, x1, e_x1, hf⟩ := ld_some hf
  refine ldr (t0 := 0) X hP wC_31 rfl hi e_x1 dX0_blockAt_7 ?_
  refine lv_istore (lv' := [(4, .int x1), (3, .int a2), (0, .ref (ad 6)), (1, .int a1), (2, .int a2)]) hx hb dX0_blockAt_8 hl (by decide) rfl (fun ls hl => ?_)
  refine lv_iconst (v := 0) hx hb dX0_blockAt_10 rfl ?_
  refine lv_istore (lv' := [(5, .int 0), (4, .int x1), (3, .int a2), (0, .ref (ad 6)), (1, .int a1), (2, .int a2)]) hx hb dX0_blockAt_11 hl (by decide) rfl (fun ls hl => ?_)
  exact b_X0_blockAt_L13 X hN _ hf hP hS (lv_sub hl [3, 4, 2, 1, 0] rfl)
set_option maxHeartbeats 4000000 in
set_option maxRecDepth 100000 in
theorem c_X0_blockAt {l : Launch} {D : va_G} {ad : Nat → Nat} {cI : ClassId} (hN : nj ad 34) {σ : St} {a1 a2 : Int32} {r : Int32} (hf : f_X0_blockAt a1 a2 σ = some r) : Met l yX0_blockAt (.code yX0_blockAt cX0_blockAt 8 (some .int) :: wsL_law) rm_X0_blockAt (va_Pc [.ref (ad 6), .int a1, .int a2] (pw D (wC ad cI) [(cI, .int)] σ)) (qI D (wC ad cI) (aw ad 34) r σ) 0 0 (aw ad 34) :=
  met_mk (by decide) rfl (Nat.le_of_ble_eq_true rfl) (fun p e s m below meth c X hP ls hl => b_X0_blockAt X hN hf hP va_S.rf hl)
set_option maxHeartbeats 4000000 in
set_option maxRecDepth 100000 in
theorem b_X0_manyRings_L4 (X : cx p s m meth c args cX0_manyRings 3 (some .int) RX0 D [(cI, .int)]) (hN : nj ad 34) : ∀ (n : Nat) {σ : St} {a1 a2 : Int32} {r : Int32}, f_X0_manyRings_L4 σ n a1 a2 = some r → ∀ {H : Heap} {locs : List Loc} {ls : Array Slot}, va_P D vwCl (wC ad cI σ) H → va_S (aw ad 34) s.heap H locs → lv_has ls 3 [(0, .ref (ad 6)), (1, .int a1), (2, .int a2)] → W p l e rm_X0_manyRings s m args below meth c H locs 0 0 (MQ below (qI D (wC ad cI) (aw ad 34) r σ) args s 0 0 (aw ad 34)) (F0 m 4 ls []) := by
  intro n
  induction n with
  | zero =>
    intro σ a1 a2 r hf
    rw [f_X0_manyRings_L4] at hf
    cases hf
  | succ n ih =>
    intro σ a1 a2 r hf H locs ls hP hS hl
    obtain ⟨hx, hb, hml, hown, hts, hr, hlk, hK⟩ := id X
    rw [f_X0_manyRings_L4] at hf
    refine lv_iload_n hx hb dX0_manyRings_4 rfl (lv_at hl 2 rfl) ?_
    refine lv_aload_n hx hb dX0_manyRings_5 rfl (lv_at hl 0 rfl) ?_
    obtain ⟨x1, e_x1, hf⟩ := lf_some hf
    refine fg_X0_45 X hP e_x1 dX0_manyRings_6 ?_
    refine lv_icmp_ge (tgt := 29) hx hb dX0_manyRings_9 (by decide) (fun hq => ?_) (fun hq => ?_)
    · have hf := if_t hq hf
      refine lv_iload_n hx hb dX0_manyRings_29 rfl (lv_at hl 1 rfl) ?_
      exact rI X hP hS hf dX0_manyRings_30
    · have hf := if_f hq hf
      refine lv_aload_n hx hb dX0_manyRings_12 rfl (lv_at hl 0 rfl) ?_
      refine lv_iload_n hx hb dX0_manyRings_13 rfl (lv_at hl 2 rfl) ?_
      obtain ⟨x2, hc, hf⟩ := bi_some hf
      refine kVi (As := [.int a2]) (rest := []) (wd := (wC ad cI)) (q0 := 6) (ci := 0) X (c_X0_isRing (l := l) (D := D) (σ := σ) hN hc) (cw_X0_112 X.2.2.2.2.1 ⟨Nat.le_of_ble_eq_true rfl, Nat.le_of_ble_eq_true rfl⟩) rfl rfl hP hS hl rfl rfl (Nat.le_of_ble_eq_true rfl) dX0_manyRings_14 (fun H locs hP hS => ?_)
      refine lv_if_eq (tgt := 23) hx hb dX0_manyRings_17 (by decide) (fun hq => ?_) (fun hq => ?_)
      · have hf := if_t hq hf
        refine lv_iinc (v := (a2 + 1)) (lv' := [(2, .int (a2 + 1)), (0, .ref (ad 6)), (1, .int a1)]) hx hb dX0_manyRings_23 hl (k := 2) rfl rfl (by decide) rfl (fun ls hl => ?_)
        refine lv_goto (tgt := 4) hx hb dX0_manyRings_26 (by decide) ?_
        exact ih hf hP hS (lv_sub hl [1, 2, 0] rfl)
      · have hf := if_f hq hf
        refine lv_iinc (v := (a1 + 1)) (lv' := [(1, .int (a1 + 1)), (0, .ref (ad 6)), (2, .int a2)]) hx hb dX0_manyRings_20 hl (k := 1) rfl rfl (by decide) rfl (fun ls hl => ?_)
        refine lv_iinc (v := (a2 + 1)) (lv' := [(2, .int (a2 + 1)), (1, .int (a1 + 1)), (0, .ref (ad 6))]) hx hb dX0_manyRings_23 hl (k := 2) rfl rfl (by decide) rfl (fun ls hl => ?_)
        refine lv_goto (tgt := 4) hx hb dX0_manyRings_26 (by decide) ?_
        exact ih hf hP hS (lv_sub hl [2, 1, 0] rfl)
set_option maxHeartbeats 4000000 in
set_option maxRecDepth 100000 in
theorem b_X0_manyRings (X : cx p s m meth c args cX0_manyRings 3 (some .int) RX0 D [(cI, .int)]) (hN : nj ad 34) {σ : St} {r : Int32} (hf : f_X0_manyRings σ = some r) {H : Heap} {locs : List Loc} {ls : Array Slot} (hP : va_P D vwCl (wC ad cI σ) H) (hS : va_S (aw ad 34) s.heap H locs) (hl : lv_has ls 3 [(0, .ref (ad 6))]) : W p l e rm_X0_manyRings s m args below meth c H locs 0 0 (MQ below (qI D (wC ad cI) (aw ad 34) r σ) args s 0 0 (aw ad 34)) (F0 m 0 ls []) := by
  obtain ⟨hx, hb, hml, hown, hts, hr, hlk, hK⟩ := id X
  rw [f_X0_manyRings] at hf
  refine lv_iconst (v := 0) hx hb dX0_manyRings_0 rfl ?_
  refine lv_istore_n (lv' := [(1, .int 0), (0, .ref (ad 6))]) hx hb dX0_manyRings_1 rfl hl (by decide) rfl (fun ls hl => ?_)
  refine lv_iconst (v := 0) hx hb dX0_manyRings_2 rfl ?_
  refine lv_istore_n (lv' := [(2, .int 0), (1, .int 0), (0, .ref (ad 6))]) hx hb dX0_manyRings_3 rfl hl (by decide) rfl (fun ls hl => ?_)
  exact b_X0_manyRings_L4 X hN _ hf hP hS (lv_sub hl [2, 1, 0] rfl)
set_option maxHeartbeats 4000000 in
set_option maxRecDepth 100000 in
theorem c_X0_manyRings {l : Launch} {D : va_G} {ad : Nat → Nat} {cI : ClassId} (hN : nj ad 34) {σ : St} {r : Int32} (hf : f_X0_manyRings σ = some r) : Met l yX0_manyRings (.code yX0_manyRings cX0_manyRings 3 (some .int) :: wsL_law) rm_X0_manyRings (va_Pc [.ref (ad 6)] (pw D (wC ad cI) [(cI, .int)] σ)) (qI D (wC ad cI) (aw ad 34) r σ) 0 0 (aw ad 34) :=
  met_mk (by decide) rfl (Nat.le_of_ble_eq_true rfl) (fun p e s m below meth c X hP ls hl => b_X0_manyRings X hN hf hP va_S.rf hl)
set_option maxHeartbeats 4000000 in
set_option maxRecDepth 100000 in
theorem b_X0_manyBroken_L4 (X : cx p s m meth c args cX0_manyBroken 3 (some .int) RX0 D [(cI, .int)]) (hN : nj ad 34) : ∀ (n : Nat) {σ : St} {a1 a2 : Int32} {r : Int32}, f_X0_manyBroken_L4 σ n a1 a2 = some r → ∀ {H : Heap} {locs : List Loc} {ls : Array Slot}, va_P D vwCl (wC ad cI σ) H → va_S (aw ad 34) s.heap H locs → lv_has ls 3 [(0, .ref (ad 6)), (1, .int a1), (2, .int a2)] → W p l e rm_X0_manyBroken s m args below meth c H locs 0 0 (MQ below (qI D (wC ad cI) (aw ad 34) r σ) args s 0 0 (aw ad 34)) (F0 m 4 ls []) := by
  intro n
  induction n with
  | zero =>
    intro σ a1 a2 r hf
    rw [f_X0_manyBroken_L4] at hf
    cases hf
  | succ n ih =>
    intro σ a1 a2 r hf H locs ls hP hS hl
    obtain ⟨hx, hb, hml, hown, hts, hr, hlk, hK⟩ := id X
    rw [f_X0_manyBroken_L4] at hf
    refine lv_iload_n hx hb dX0_manyBroken_4 rfl (lv_at hl 2 rfl) ?_
    refine lv_aload_n hx hb dX0_manyBroken_5 rfl (lv_at hl 0 rfl) ?_
    refine fg_X0_41 X hP dX0_manyBroken_6 ?_
    obtain ⟨x1, e_x1, hf⟩ := lf_some hf
    refine fg_X0_49 X hP e_x1 dX0_manyBroken_9 ?_
    refine lv_icmp_ge (tgt := 32) hx hb dX0_manyBroken_12 (by decide) (fun hq => ?_) (fun hq => ?_)
    · have hf := if_t hq hf
      refine lv_iload_n hx hb dX0_manyBroken_32 rfl (lv_at hl 1 rfl) ?_
      exact rI X hP hS hf dX0_manyBroken_33
    · have hf := if_f hq hf
      refine lv_aload_n hx hb dX0_manyBroken_15 rfl (lv_at hl 0 rfl) ?_
      refine lv_iload_n hx hb dX0_manyBroken_16 rfl (lv_at hl 2 rfl) ?_
      obtain ⟨x2, hc, hf⟩ := bi_some hf
      refine kVi (As := [.int a2]) (rest := []) (wd := (wC ad cI)) (q0 := 6) (ci := 0) X (c_X0_isBroken (l := l) (D := D) (σ := σ) hN hc) (cw_X0_116 X.2.2.2.2.1 ⟨Nat.le_of_ble_eq_true rfl, Nat.le_of_ble_eq_true rfl⟩) rfl rfl hP hS hl rfl rfl (Nat.le_of_ble_eq_true rfl) dX0_manyBroken_17 (fun H locs hP hS => ?_)
      refine lv_if_eq (tgt := 26) hx hb dX0_manyBroken_20 (by decide) (fun hq => ?_) (fun hq => ?_)
      · have hf := if_t hq hf
        refine lv_iinc (v := (a2 + 1)) (lv' := [(2, .int (a2 + 1)), (0, .ref (ad 6)), (1, .int a1)]) hx hb dX0_manyBroken_26 hl (k := 2) rfl rfl (by decide) rfl (fun ls hl => ?_)
        refine lv_goto (tgt := 4) hx hb dX0_manyBroken_29 (by decide) ?_
        exact ih hf hP hS (lv_sub hl [1, 2, 0] rfl)
      · have hf := if_f hq hf
        refine lv_iinc (v := (a1 + 1)) (lv' := [(1, .int (a1 + 1)), (0, .ref (ad 6)), (2, .int a2)]) hx hb dX0_manyBroken_23 hl (k := 1) rfl rfl (by decide) rfl (fun ls hl => ?_)
        refine lv_iinc (v := (a2 + 1)) (lv' := [(2, .int (a2 + 1)), (1, .int (a1 + 1)), (0, .ref (ad 6))]) hx hb dX0_manyBroken_26 hl (k := 2) rfl rfl (by decide) rfl (fun ls hl => ?_)
        refine lv_goto (tgt := 4) hx hb dX0_manyBroken_29 (by decide) ?_
        exact ih hf hP hS (lv_sub hl [2, 1, 0] rfl)
set_option maxHeartbeats 4000000 in
set_option maxRecDepth 100000 in
theorem b_X0_manyBroken (X : cx p s m meth c args cX0_manyBroken 3 (some .int) RX0 D [(cI, .int)]) (hN : nj ad 34) {σ : St} {r : Int32} (hf : f_X0_manyBroken σ = some r) {H : Heap} {locs : List Loc} {ls : Array Slot} (hP : va_P D vwCl (wC ad cI σ) H) (hS : va_S (aw ad 34) s.heap H locs) (hl : lv_has ls 3 [(0, .ref (ad 6))]) : W p l e rm_X0_manyBroken s m args below meth c H locs 0 0 (MQ below (qI D (wC ad cI) (aw ad 34) r σ) args s 0 0 (aw ad 34)) (F0 m 0 ls []) := by
  obtain ⟨hx, hb, hml, hown, hts, hr, hlk, hK⟩ := id X
  rw [f_X0_manyBroken] at hf
  refine lv_iconst (v := 0) hx hb dX0_manyBroken_0 rfl ?_
  refine lv_istore_n (lv' := [(1, .int 0), (0, .ref (ad 6))]) hx hb dX0_manyBroken_1 rfl hl (by decide) rfl (fun ls hl => ?_)
  refine lv_iconst (v := 0) hx hb dX0_manyBroken_2 rfl ?_
  refine lv_istore_n (lv' := [(2, .int 0), (1, .int 0), (0, .ref (ad 6))]) hx hb dX0_manyBroken_3 rfl hl (by decide) rfl (fun ls hl => ?_)
  exact b_X0_manyBroken_L4 X hN _ hf hP hS (lv_sub hl [2, 1, 0] rfl)
set_option maxHeartbeats 4000000 in
set_option maxRecDepth 100000 in
theorem c_X0_manyBroken {l : Launch} {D : va_G} {ad : Nat → Nat} {cI : ClassId} (hN : nj ad 34) {σ : St} {r : Int32} (hf : f_X0_manyBroken σ = some r) : Met l yX0_manyBroken (.code yX0_manyBroken cX0_manyBroken 3 (some .int) :: wsL_law) rm_X0_manyBroken (va_Pc [.ref (ad 6)] (pw D (wC ad cI) [(cI, .int)] σ)) (qI D (wC ad cI) (aw ad 34) r σ) 0 0 (aw ad 34) :=
  met_mk (by decide) rfl (Nat.le_of_ble_eq_true rfl) (fun p e s m below meth c X hP ls hl => b_X0_manyBroken X hN hf hP va_S.rf hl)
set_option maxHeartbeats 4000000 in
set_option maxRecDepth 100000 in
theorem b_X0_manyIdleFrom_L4 (X : cx p s m meth c args cX0_manyIdleFrom 4 (some .int) RX0 D [(cI, .int)]) (hN : nj ad 34) : ∀ (n : Nat) {σ : St} {a1 a2 : Int32} {r : Int32}, f_X0_manyIdleFrom_L4 σ n a1 a2 = some r → ∀ {H : Heap} {locs : List Loc} {ls : Array Slot}, va_P D vwCl (wC ad cI σ) H → va_S (aw ad 34) s.heap H locs → lv_has ls 4 [(0, .ref (ad 6)), (1, .int a1), (2, .int a2)] → W p l e rm_X0_manyIdleFrom s m args below meth c H locs 0 0 (MQ below (qI D (wC ad cI) (aw ad 34) r σ) args s 0 0 (aw ad 34)) (F0 m 4 ls []) := by
  intro n
  induction n with
  | zero =>
    intro σ a1 a2 r hf
    rw [f_X0_manyIdleFrom_L4] at hf
    cases hf
  | succ n ih =>
    intro σ a1 a2 r hf H locs ls hP hS hl
    obtain ⟨hx, hb, hml, hown, hts, hr, hlk, hK⟩ := id X
    rw [f_X0_manyIdleFrom_L4] at hf
    refine lv_iload_n hx hb dX0_manyIdleFrom_4 rfl (lv_at hl 2 rfl) ?_
    refine lv_aload_n hx hb dX0_manyIdleFrom_5 rfl (lv_at hl 0 rfl) ?_
    refine fg_X0_33 X hP dX0_manyIdleFrom_6 ?_
    obtain ⟨x1, e_x1, hf⟩ := lf_some hf
    refine fg_X0_88 X hP e_x1 dX0_manyIdleFrom_9 ?_
    refine lv_icmp_ge (tgt := 63) hx hb dX0_manyIdleFrom_12 (by decide) (fun hq => ?_) (fun hq => ?_)
    · have hf := if_t hq hf
      refine lv_iload_n hx hb dX0_manyIdleFrom_63 rfl (lv_at hl 1 rfl) ?_
      exact rI X hP hS hf dX0_manyIdleFrom_64
    · have hf := if_f hq hf
      refine lv_aload_n hx hb dX0_manyIdleFrom_15 rfl (lv_at hl 0 rfl) ?_
      refine fg_X0_41 X hP dX0_manyIdleFrom_16 ?_
      refine fg_X0_69 X hP dX0_manyIdleFrom_19 ?_
      refine lv_iload_n hx hb dX0_manyIdleFrom_22 rfl (lv_at hl 2 rfl) ?_
      obtain ⟨hi, x2, e_x2, hf⟩ := ld_some hf
      refine ldr (t0 := 0) X hP wC_24 rfl hi e_x2 dX0_manyIdleFrom_23 ?_
      refine lv_istore_n (lv' := [(3, .int x2), (0, .ref (ad 6)), (1, .int a1), (2, .int a2)]) hx hb dX0_manyIdleFrom_24 rfl hl (by decide) rfl (fun ls hl => ?_)
      refine lv_aload_n hx hb dX0_manyIdleFrom_25 rfl (lv_at hl 1 rfl) ?_
      refine fg_X0_37 X hP dX0_manyIdleFrom_26 ?_
      refine lv_iload_n hx hb dX0_manyIdleFrom_29 rfl (lv_at hl 3 rfl) ?_
      refine lv_iconst (v := 1) hx hb dX0_manyIdleFrom_30 rfl ?_
      obtain ⟨x3, hc, hf⟩ := bi_some hf
      refine kVi (As := [.int a2, .int 1]) (rest := []) (wd := (wC ad cI)) (q0 := 2) (ci := 3) X (c_X3_has (l := l) (D := D) (σ := σ) hN hc) (cw_X0_72 X.2.2.2.2.1 ⟨Nat.le_of_ble_eq_true rfl, Nat.le_of_ble_eq_true rfl⟩) rfl rfl hP hS hl rfl rfl (Nat.le_of_ble_eq_true rfl) dX0_manyIdleFrom_31 (fun H locs hP hS => ?_)
      refine lv_if_eq (tgt := 57) hx hb dX0_manyIdleFrom_34 (by decide) (fun hq => ?_) (fun hq => ?_)
      · have hf := if_t hq hf
        refine lv_iinc (v := (a2 + 1)) (lv' := [(2, .int (a2 + 1)), (3, .int x2), (0, .ref (ad 6)), (1, .int a1)]) hx hb dX0_manyIdleFrom_57 hl (k := 3) rfl rfl (by decide) rfl (fun ls hl => ?_)
        refine lv_goto (tgt := 4) hx hb dX0_manyIdleFrom_60 (by decide) ?_
        exact ih hf hP hS (lv_sub hl [2, 3, 0] rfl)
      · have hf := if_f hq hf
        refine lv_iload_n hx hb dX0_manyIdleFrom_37 rfl (lv_at hl 0 rfl) ?_
        refine lv_bipush (v := (-9)) hx hb dX0_manyIdleFrom_38 rfl ?_
        refine lv_icmp_eq (tgt := 57) hx hb dX0_manyIdleFrom_40 (by decide) (fun hq => ?_) (fun hq => ?_)
        · have hf := if_t hq hf
          refine lv_iinc (v := (a2 + 1)) (lv' := [(2, .int (a2 + 1)), (3, .int x2), (0, .ref (ad 6)), (1, .int a1)]) hx hb dX0_manyIdleFrom_57 hl (k := 3) rfl rfl (by decide) rfl (fun ls hl => ?_)
          refine lv_goto (tgt := 4) hx hb dX0_manyIdleFrom_60 (by decide) ?_
          exact ih hf hP hS (lv_sub hl [2, 3, 0] rfl)
        · have hf := if_f hq hf
          refine lv_aload_n hx hb dX0_manyIdleFrom_43 rfl (lv_at hl 1 rfl) ?_
          refine fg_X0_18 X hP dX0_manyIdleFrom_44 ?_
          refine lv_iload_n hx hb dX0_manyIdleFrom_47 rfl (lv_at hl 0 rfl) ?_
          obtain ⟨hi, x4, e_x4, hf⟩ := ld_some hf
          refine ldr (t0 := 0) X hP wC_29 rfl hi e_x4 dX0_manyIdleFrom_48 ?_
          refine lv_bipush (v := (-9)) hx hb dX0_manyIdleFrom_49 rfl ?_
          refine lv_icmp_ne (tgt := 57) hx hb dX0_manyIdleFrom_51 (by decide) (fun hq => ?_) (fun hq => ?_)
          · have hf := if_f hq hf
            refine lv_iinc (v := (a2 + 1)) (lv' := [(2, .int (a2 + 1)), (3, .int x2), (0, .ref (ad 6)), (1, .int a1)]) hx hb dX0_manyIdleFrom_57 hl (k := 3) rfl rfl (by decide) rfl (fun ls hl => ?_)
            refine lv_goto (tgt := 4) hx hb dX0_manyIdleFrom_60 (by decide) ?_
            exact ih hf hP hS (lv_sub hl [2, 3, 0] rfl)
          · have hf := if_t hq hf
            refine lv_iinc (v := (a1 + 1)) (lv' := [(1, .int (a1 + 1)), (3, .int x2), (0, .ref (ad 6)), (2, .int a2)]) hx hb dX0_manyIdleFrom_54 hl (k := 2) rfl rfl (by decide) rfl (fun ls hl => ?_)
            refine lv_iinc (v := (a2 + 1)) (lv' := [(2, .int (a2 + 1)), (1, .int (a1 + 1)), (3, .int x2), (0, .ref (ad 6))]) hx hb dX0_manyIdleFrom_57 hl (k := 3) rfl rfl (by decide) rfl (fun ls hl => ?_)
            refine lv_goto (tgt := 4) hx hb dX0_manyIdleFrom_60 (by decide) ?_
            exact ih hf hP hS (lv_sub hl [3, 1, 0] rfl)
set_option maxHeartbeats 4000000 in
set_option maxRecDepth 100000 in
theorem b_X0_manyIdleFrom (X : cx p s m meth c args cX0_manyIdleFrom 4 (some .int) RX0 D [(cI, .int)]) (hN : nj ad 34) {σ : St} {r : Int32} (hf : f_X0_manyIdleFrom σ = some r) {H : Heap} {locs : List Loc} {ls : Array Slot} (hP : va_P D vwCl (wC ad cI σ) H) (hS : va_S (aw ad 34) s.heap H locs) (hl : lv_has ls 4 [(0, .ref (ad 6))]) : W p l e rm_X0_manyIdleFrom s m args below meth c H locs 0 0 (MQ below (qI D (wC ad cI) (aw ad 34) r σ) args s 0 0 (aw ad 34)) (F0 m 0 ls []) := by
  obtain ⟨hx, hb, hml, hown, hts, hr, hlk, hK⟩ := id X
  rw [f_X0_manyIdleFrom] at hf
  refine lv_iconst (v := 0) hx hb dX0_manyIdleFrom_0 rfl ?_
  refine lv_istore_n (lv' := [(1, .int 0), (0, .ref (ad 6))]) hx hb dX0_manyIdleFrom_1 rfl hl (by decide) rfl (fun ls hl => ?_)
  refine lv_iconst (v := 0) hx hb dX0_manyIdleFrom_2 rfl ?_
  refine lv_istore_n (lv' := [(2, .int 0), (1, .int 0), (0, .ref (ad 6))]) hx hb dX0_manyIdleFrom_3 rfl hl (by decide) rfl (fun ls hl => ?_)
  exact b_X0_manyIdleFrom_L4 X hN _ hf hP hS (lv_sub hl [2, 1, 0] rfl)
set_option maxHeartbeats 4000000 in
set_option maxRecDepth 100000 in
theorem c_X0_manyIdleFrom {l : Launch} {D : va_G} {ad : Nat → Nat} {cI : ClassId} (hN : nj ad 34) {σ : St} {r : Int32} (hf : f_X0_manyIdleFrom σ = some r) : Met l yX0_manyIdleFrom (.code yX0_manyIdleFrom cX0_manyIdleFrom 4 (some .int) :: wsL_law) rm_X0_manyIdleFrom (va_Pc [.ref (ad 6)] (pw D (wC ad cI) [(cI, .int)] σ)) (qI D (wC ad cI) (aw ad 34) r σ) 0 0 (aw ad 34) :=
  met_mk (by decide) rfl (Nat.le_of_ble_eq_true rfl) (fun p e s m below meth c X hP ls hl => b_X0_manyIdleFrom X hN hf hP va_S.rf hl)
set_option maxHeartbeats 4000000 in
set_option maxRecDepth 100000 in
theorem b_X1_has (X : cx p s m meth c args cX1_has 2 (some .boolean) RX1 D [(cI, .int)]) (hN : nj ad 34) {σ : St} {a1 : Int32} {r : Int32} (hf : f_X1_has a1 σ = some r) {H : Heap} {locs : List Loc} {ls : Array Slot} (hP : va_P D vwCl (wC ad cI σ) H) (hS : va_S (aw ad 34) s.heap H locs) (hl : lv_has ls 2 [(0, .ref (ad 1)), (1, .int a1)]) : W p l e rm_X1_has s m args below meth c H locs 0 0 (MQ below (qI D (wC ad cI) (aw ad 34) r σ) args s 0 0 (aw ad 34)) (F0 m 0 ls []) := by
  obtain ⟨hx, hb, hml, hown, hts, hr, hlk, hK⟩ := id X
  rw [f_X1_has] at hf
  refine lv_iload_n hx hb dX1_has_0 rfl (lv_at hl 1 rfl) ?_
  refine lv_if_lt (tgt := 16) hx hb dX1_has_1 (by decide) (fun hq => ?_) (fun hq => ?_)
  · have hf := if_t hq hf
    refine lv_iconst (v := 0) hx hb dX1_has_16 rfl ?_
    exact rZ X hP hS hf dX1_has_17
  · have hf := if_f hq hf
    refine lv_iload_n hx hb dX1_has_4 rfl (lv_at hl 1 rfl) ?_
    refine lv_aload_n hx hb dX1_has_5 rfl (lv_at hl 0 rfl) ?_
    obtain ⟨x1, e_x1, hf⟩ := lf_some hf
    refine fg_X1_33 X hP e_x1 dX1_has_6 ?_
    refine lv_icmp_ge (tgt := 16) hx hb dX1_has_9 (by decide) (fun hq => ?_) (fun hq => ?_)
    · have hf := if_t hq hf
      refine lv_iconst (v := 0) hx hb dX1_has_16 rfl ?_
      exact rZ X hP hS hf dX1_has_17
    · have hf := if_f hq hf
      refine lv_iconst (v := 1) hx hb dX1_has_12 rfl ?_
      refine lv_goto (tgt := 17) hx hb dX1_has_13 (by decide) ?_
      exact rZ X hP hS hf dX1_has_17
set_option maxHeartbeats 4000000 in
set_option maxRecDepth 100000 in
theorem c_X1_has {l : Launch} {D : va_G} {ad : Nat → Nat} {cI : ClassId} (hN : nj ad 34) {σ : St} {a1 : Int32} {r : Int32} (hf : f_X1_has a1 σ = some r) : Met l yX1_has (.code yX1_has cX1_has 2 (some .boolean) :: wsL_law) rm_X1_has (va_Pc [.ref (ad 1), .int a1] (pw D (wC ad cI) [(cI, .int)] σ)) (qI D (wC ad cI) (aw ad 34) r σ) 0 0 (aw ad 34) :=
  met_mk (by decide) rfl (Nat.le_of_ble_eq_true rfl) (fun p e s m below meth c X hP ls hl => b_X1_has X hN hf hP va_S.rf hl)
set_option maxHeartbeats 4000000 in
set_option maxRecDepth 100000 in
theorem b_X1_add (X : cx p s m meth c args cX1_add 8 (some .int) RX1 D [(cI, .int)]) (hN : nj ad 34) {σ : St} {a1 a2 a3 a4 a5 a6 : Int32} {r : Int32} {σ' : St} (hf : f_X1_add a1 a2 a3 a4 a5 a6 σ = some (r, σ')) {H : Heap} {locs : List Loc} {ls : Array Slot} (hP : va_P D vwCl (wC ad cI σ) H) (hS : va_S (aw ad 34) s.heap H locs) (hl : lv_has ls 8 [(0, .ref (ad 1)), (1, .int a1), (2, .int a2), (3, .int a3), (4, .int a4), (5, .int a5), (6, .int a6)]) : W p l e rm_X1_add s m args below meth c H locs 0 0 (MQ below (qI D (wC ad cI) (aw ad 34) r σ') args s 0 0 (aw ad 34)) (F0 m 0 ls []) := by
  obtain ⟨hx, hb, hml, hown, hts, hr, hlk, hK⟩ := id X
  rw [f_X1_add] at hf
  refine lv_aload_n hx hb dX1_add_0 rfl (lv_at hl 0 rfl) ?_
  obtain ⟨x1, e_x1, hf⟩ := lf_some hf
  refine fg_X1_33 X hP e_x1 dX1_add_1 ?_
  refine lv_istore (lv' := [(7, .int x1), (0, .ref (ad 1)), (1, .int a1), (2, .int a2), (3, .int a3), (4, .int a4), (5, .int a5), (6, .int a6)]) hx hb dX1_add_4 hl (by decide) rfl (fun ls hl => ?_)
  refine lv_aload_n hx hb dX1_add_6 rfl (lv_at hl 1 rfl) ?_
  refine fg_X1_9 X hP dX1_add_7 ?_
  refine lv_iload hx hb dX1_add_10 (lv_at hl 0 rfl) ?_
  refine lv_iload_n hx hb dX1_add_12 rfl (lv_at hl 2 rfl) ?_
  obtain ⟨hi, σ2, e_σ2, hf⟩ := sd_some hf
  refine str (t0 := 0) X hP (wC_D hN) hS wC_7 wC_s7 rfl hi e_σ2 dX1_add_13 (fun H locs hP hS => ?_)
  refine lv_aload_n hx hb dX1_add_14 rfl (lv_at hl 1 rfl) ?_
  refine fg_X1_15 X hP dX1_add_15 ?_
  refine lv_iload hx hb dX1_add_18 (lv_at hl 0 rfl) ?_
  refine lv_iload_n hx hb dX1_add_20 rfl (lv_at hl 3 rfl) ?_
  obtain ⟨hi, σ3, e_σ3, hf⟩ := sd_some hf
  refine str (t0 := 0) X hP (wC_D hN) hS wC_8 wC_s8 rfl hi e_σ3 dX1_add_21 (fun H locs hP hS => ?_)
  refine lv_aload_n hx hb dX1_add_22 rfl (lv_at hl 1 rfl) ?_
  refine fg_X1_18 X hP dX1_add_23 ?_
  refine lv_iload hx hb dX1_add_26 (lv_at hl 0 rfl) ?_
  refine lv_iload_n hx hb dX1_add_28 rfl (lv_at hl 4 rfl) ?_
  obtain ⟨hi, σ4, e_σ4, hf⟩ := sd_some hf
  refine str (t0 := 0) X hP (wC_D hN) hS wC_9 wC_s9 rfl hi e_σ4 dX1_add_29 (fun H locs hP hS => ?_)
  refine lv_aload_n hx hb dX1_add_30 rfl (lv_at hl 1 rfl) ?_
  refine fg_X1_21 X hP dX1_add_31 ?_
  refine lv_iload hx hb dX1_add_34 (lv_at hl 0 rfl) ?_
  refine lv_iload hx hb dX1_add_36 (lv_at hl 5 rfl) ?_
  obtain ⟨hi, σ5, e_σ5, hf⟩ := sd_some hf
  refine str (t0 := 0) X hP (wC_D hN) hS wC_10 wC_s10 rfl hi e_σ5 dX1_add_38 (fun H locs hP hS => ?_)
  refine lv_aload_n hx hb dX1_add_39 rfl (lv_at hl 1 rfl) ?_
  refine fg_X1_24 X hP dX1_add_40 ?_
  refine lv_iload hx hb dX1_add_43 (lv_at hl 0 rfl) ?_
  refine lv_iload hx hb dX1_add_45 (lv_at hl 6 rfl) ?_
  obtain ⟨hi, σ6, e_σ6, hf⟩ := sd_some hf
  refine str (t0 := 0) X hP (wC_D hN) hS wC_11 wC_s11 rfl hi e_σ6 dX1_add_47 (fun H locs hP hS => ?_)
  refine lv_aload_n hx hb dX1_add_48 rfl (lv_at hl 1 rfl) ?_
  refine fg_X1_27 X hP dX1_add_49 ?_
  refine lv_iload hx hb dX1_add_52 (lv_at hl 0 rfl) ?_
  refine lv_iload hx hb dX1_add_54 (lv_at hl 7 rfl) ?_
  obtain ⟨hi, σ7, e_σ7, hf⟩ := sd_some hf
  refine str (t0 := 0) X hP (wC_D hN) hS wC_12 wC_s12 rfl hi e_σ7 dX1_add_56 (fun H locs hP hS => ?_)
  refine lv_aload_n hx hb dX1_add_57 rfl (lv_at hl 1 rfl) ?_
  refine fg_X1_30 X hP dX1_add_58 ?_
  refine lv_iload hx hb dX1_add_61 (lv_at hl 0 rfl) ?_
  refine lv_iconst (v := 1) hx hb dX1_add_63 rfl ?_
  obtain ⟨hi, σ8, e_σ8, hf⟩ := sd_some hf
  refine str (t0 := 0) X hP (wC_D hN) hS wC_13 wC_s13 rfl hi e_σ8 dX1_add_64 (fun H locs hP hS => ?_)
  refine lv_aload_n hx hb dX1_add_65 rfl (lv_at hl 1 rfl) ?_
  refine lv_dup hx hb dX1_add_66 rfl ?_
  obtain ⟨x9, e_x9, hf⟩ := lf_some hf
  refine fg_X1_33 X hP e_x9 dX1_add_67 ?_
  refine lv_iconst (v := 1) hx hb dX1_add_70 rfl ?_
  refine lv_iadd hx hb dX1_add_71 ?_
  obtain ⟨σ10, e_σ10, hf⟩ := sf_some hf
  refine fp_X1_33 X hN hP hS e_σ10 dX1_add_72 (fun H locs hP hS => ?_)
  refine lv_iload hx hb dX1_add_75 (lv_at hl 0 rfl) ?_
  exact rIe X hP hS hf dX1_add_77
set_option maxHeartbeats 4000000 in
set_option maxRecDepth 100000 in
theorem c_X1_add {l : Launch} {D : va_G} {ad : Nat → Nat} {cI : ClassId} (hN : nj ad 34) {σ : St} {a1 a2 a3 a4 a5 a6 : Int32} {r : Int32} {σ' : St} (hf : f_X1_add a1 a2 a3 a4 a5 a6 σ = some (r, σ')) : Met l yX1_add (.code yX1_add cX1_add 8 (some .int) :: wsL_law) rm_X1_add (va_Pc [.ref (ad 1), .int a1, .int a2, .int a3, .int a4, .int a5, .int a6] (pw D (wC ad cI) [(cI, .int)] σ)) (qI D (wC ad cI) (aw ad 34) r σ') 0 0 (aw ad 34) :=
  met_mk (by decide) rfl (Nat.le_of_ble_eq_true rfl) (fun p e s m below meth c X hP ls hl => b_X1_add X hN hf hP va_S.rf hl)
set_option maxHeartbeats 4000000 in
set_option maxRecDepth 100000 in
theorem b_X1_firstIn_B70 (X : cx p s m meth c args cX1_firstIn 9 (some .int) RX1 D [(cI, .int)]) (hN : nj ad 34) {σ : St} {a1 a2 a3 a4 a5 a6 a7 t0 : Int32} {r : Int32} {K : Int32 → Int32 → Int32 → Int32 → Int32 → Int32 → Option Int32} (hk : ∀ {b1 b2 b3 b4 b5 b6 : Int32} {H : Heap} {locs : List Loc} {ls : Array Slot}, K b1 b2 b3 b4 b5 b6 = some r → va_P D vwCl (wC ad cI σ) H → va_S (aw ad 34) s.heap H locs → lv_has ls 9 [(0, .ref (ad 1)), (1, .int b1), (2, .int b2), (3, .int b3), (4, .int b4), (5, .int b5), (6, .int b6)] → W p l e rm_X1_firstIn s m args below meth c H locs 0 0 (MQ below (qI D (wC ad cI) (aw ad 34) r σ) args s 0 0 (aw ad 34)) (F0 m 3 ls [])) (hf : f_X1_firstIn_B70 σ K a1 a2 a3 a4 a5 a6 a7 t0 = some r) {H : Heap} {locs : List Loc} {ls : Array Slot} (hP : va_P D vwCl (wC ad cI σ) H) (hS : va_S (aw ad 34) s.heap H locs) (hl : lv_has ls 9 [(0, .ref (ad 1)), (1, .int a1), (2, .int a2), (3, .int a3), (4, .int a4), (5, .int a5), (6, .int a6), (7, .int a7)]) : W p l e rm_X1_firstIn s m args below meth c H locs 0 0 (MQ below (qI D (wC ad cI) (aw ad 34) r σ) args s 0 0 (aw ad 34)) (F0 m 70 ls [.int t0]) := by
  obtain ⟨hx, hb, hml, hown, hts, hr, hlk, hK⟩ := id X
  rw [f_X1_firstIn_B70] at hf
  refine lv_istore (lv' := [(8, .int t0), (0, .ref (ad 1)), (1, .int a1), (2, .int a2), (3, .int a3), (4, .int a4), (5, .int a5), (6, .int a6), (7, .int a7)]) hx hb dX1_firstIn_70 hl (by decide) rfl (fun ls hl => ?_)
  refine lv_aload_n hx hb dX1_firstIn_72 rfl (lv_at hl 1 rfl) ?_
  refine fg_X1_9 X hP dX1_firstIn_73 ?_
  refine lv_iload hx hb dX1_firstIn_76 (lv_at hl 7 rfl) ?_
  obtain ⟨hi, x1, e_x1, hf⟩ := ld_some hf
  refine ldr (t0 := 0) X hP wC_7 rfl hi e_x1 dX1_firstIn_78 ?_
  refine lv_iload_n hx hb dX1_firstIn_79 rfl (lv_at hl 2 rfl) ?_
  refine lv_icmp_ne (tgt := 96) hx hb dX1_firstIn_80 (by decide) (fun hq => ?_) (fun hq => ?_)
  · have hf := if_f hq hf
    refine lv_iinc (v := (a6 + 1)) (lv' := [(6, .int (a6 + 1)), (8, .int t0), (0, .ref (ad 1)), (1, .int a1), (2, .int a2), (3, .int a3), (4, .int a4), (5, .int a5), (7, .int a7)]) hx hb dX1_firstIn_96 hl (k := 7) rfl rfl (by decide) rfl (fun ls hl => ?_)
    refine lv_goto (tgt := 3) hx hb dX1_firstIn_99 (by decide) ?_
    exact hk hf hP hS (lv_sub hl [2, 3, 4, 5, 6, 7, 0] rfl)
  · have hf := if_t hq hf
    refine lv_iload hx hb dX1_firstIn_83 (lv_at hl 8 rfl) ?_
    refine lv_if_eq (tgt := 96) hx hb dX1_firstIn_85 (by decide) (fun hq => ?_) (fun hq => ?_)
    · have hf := if_t hq hf
      refine lv_iinc (v := (a6 + 1)) (lv' := [(6, .int (a6 + 1)), (8, .int t0), (0, .ref (ad 1)), (1, .int a1), (2, .int a2), (3, .int a3), (4, .int a4), (5, .int a5), (7, .int a7)]) hx hb dX1_firstIn_96 hl (k := 7) rfl rfl (by decide) rfl (fun ls hl => ?_)
      refine lv_goto (tgt := 3) hx hb dX1_firstIn_99 (by decide) ?_
      exact hk hf hP hS (lv_sub hl [2, 3, 4, 5, 6, 7, 0] rfl)
    · have hf := if_f hq hf
      refine lv_iload hx hb dX1_firstIn_88 (lv_at hl 0 rfl) ?_
      refine lv_if_eq (tgt := 96) hx hb dX1_firstIn_90 (by decide) (fun hq => ?_) (fun hq => ?_)
      · have hf := if_t hq hf
        refine lv_iinc (v := (a6 + 1)) (lv' := [(6, .int (a6 + 1)), (8, .int t0), (0, .ref (ad 1)), (1, .int a1), (2, .int a2), (3, .int a3), (4, .int a4), (5, .int a5), (7, .int a7)]) hx hb dX1_firstIn_96 hl (k := 7) rfl rfl (by decide) rfl (fun ls hl => ?_)
        refine lv_goto (tgt := 3) hx hb dX1_firstIn_99 (by decide) ?_
        exact hk hf hP hS (lv_sub hl [2, 3, 4, 5, 6, 7, 0] rfl)
      · have hf := if_f hq hf
        refine lv_iload hx hb dX1_firstIn_93 (lv_at hl 7 rfl) ?_
        exact rI X hP hS hf dX1_firstIn_95
set_option maxHeartbeats 4000000 in
set_option maxRecDepth 100000 in
theorem b_X1_firstIn_B69 (X : cx p s m meth c args cX1_firstIn 9 (some .int) RX1 D [(cI, .int)]) (hN : nj ad 34) {σ : St} {a1 a2 a3 a4 a5 a6 a7 : Int32} {r : Int32} {K : Int32 → Int32 → Int32 → Int32 → Int32 → Int32 → Option Int32} (hk : ∀ {b1 b2 b3 b4 b5 b6 : Int32} {H : Heap} {locs : List Loc} {ls : Array Slot}, K b1 b2 b3 b4 b5 b6 = some r → va_P D vwCl (wC ad cI σ) H → va_S (aw ad 34) s.heap H locs → lv_has ls 9 [(0, .ref (ad 1)), (1, .int b1), (2, .int b2), (3, .int b3), (4, .int b4), (5, .int b5), (6, .int b6)] → W p l e rm_X1_firstIn s m args below meth c H locs 0 0 (MQ below (qI D (wC ad cI) (aw ad 34) r σ) args s 0 0 (aw ad 34)) (F0 m 3 ls [])) (hf : f_X1_firstIn_B69 σ K a1 a2 a3 a4 a5 a6 a7 = some r) {H : Heap} {locs : List Loc} {ls : Array Slot} (hP : va_P D vwCl (wC ad cI σ) H) (hS : va_S (aw ad 34) s.heap H locs) (hl : lv_has ls 9 [(0, .ref (ad 1)), (1, .int a1), (2, .int a2), (3, .int a3), (4, .int a4), (5, .int a5), (6, .int a6), (7, .int a7)]) : W p l e rm_X1_firstIn s m args below meth c H locs 0 0 (MQ below (qI D (wC ad cI) (aw ad 34) r σ) args s 0 0 (aw ad 34)) (F0 m 69 ls []) := by
  obtain ⟨hx, hb, hml, hown, hts, hr, hlk, hK⟩ := id X
  rw [f_X1_firstIn_B69] at hf
  refine lv_iconst (v := 0) hx hb dX1_firstIn_69 rfl ?_
  exact b_X1_firstIn_B70 X hN hk hf hP hS (lv_sub hl [0, 1, 2, 3, 4, 5, 6, 7] rfl)
set_option maxHeartbeats 4000000 in
set_option maxRecDepth 100000 in
theorem b_X1_firstIn_B39 (X : cx p s m meth c args cX1_firstIn 9 (some .int) RX1 D [(cI, .int)]) (hN : nj ad 34) {σ : St} {a1 a2 a3 a4 a5 a6 t0 : Int32} {r : Int32} {K : Int32 → Int32 → Int32 → Int32 → Int32 → Int32 → Option Int32} (hk : ∀ {b1 b2 b3 b4 b5 b6 : Int32} {H : Heap} {locs : List Loc} {ls : Array Slot}, K b1 b2 b3 b4 b5 b6 = some r → va_P D vwCl (wC ad cI σ) H → va_S (aw ad 34) s.heap H locs → lv_has ls 9 [(0, .ref (ad 1)), (1, .int b1), (2, .int b2), (3, .int b3), (4, .int b4), (5, .int b5), (6, .int b6)] → W p l e rm_X1_firstIn s m args below meth c H locs 0 0 (MQ below (qI D (wC ad cI) (aw ad 34) r σ) args s 0 0 (aw ad 34)) (F0 m 3 ls [])) (hf : f_X1_firstIn_B39 σ K a1 a2 a3 a4 a5 a6 t0 = some r) {H : Heap} {locs : List Loc} {ls : Array Slot} (hP : va_P D vwCl (wC ad cI σ) H) (hS : va_S (aw ad 34) s.heap H locs) (hl : lv_has ls 9 [(0, .ref (ad 1)), (1, .int a1), (2, .int a2), (3, .int a3), (4, .int a4), (5, .int a5), (6, .int a6)]) : W p l e rm_X1_firstIn s m args below meth c H locs 0 0 (MQ below (qI D (wC ad cI) (aw ad 34) r σ) args s 0 0 (aw ad 34)) (F0 m 39 ls [.int t0]) := by
  obtain ⟨hx, hb, hml, hown, hts, hr, hlk, hK⟩ := id X
  rw [f_X1_firstIn_B39] at hf
  refine lv_istore (lv' := [(7, .int t0), (0, .ref (ad 1)), (1, .int a1), (2, .int a2), (3, .int a3), (4, .int a4), (5, .int a5), (6, .int a6)]) hx hb dX1_firstIn_39 hl (by decide) rfl (fun ls hl => ?_)
  refine lv_aload_n hx hb dX1_firstIn_41 rfl (lv_at hl 1 rfl) ?_
  refine fg_X1_24 X hP dX1_firstIn_42 ?_
  refine lv_iload hx hb dX1_firstIn_45 (lv_at hl 7 rfl) ?_
  obtain ⟨hi, x1, e_x1, hf⟩ := ld_some hf
  refine ldr (t0 := 0) X hP wC_11 rfl hi e_x1 dX1_firstIn_47 ?_
  refine lv_iload hx hb dX1_firstIn_48 (lv_at hl 6 rfl) ?_
  refine lv_icmp_gt (tgt := 69) hx hb dX1_firstIn_50 (by decide) (fun hq => ?_) (fun hq => ?_)
  · have hf := if_t hq hf
    exact b_X1_firstIn_B69 X hN hk hf hP hS (lv_sub hl [1, 2, 3, 4, 5, 6, 7, 0] rfl)
  · have hf := if_f hq hf
    refine lv_aload_n hx hb dX1_firstIn_53 rfl (lv_at hl 1 rfl) ?_
    refine fg_X1_27 X hP dX1_firstIn_54 ?_
    refine lv_iload hx hb dX1_firstIn_57 (lv_at hl 7 rfl) ?_
    obtain ⟨hi, x2, e_x2, hf⟩ := ld_some hf
    refine ldr (t0 := 0) X hP wC_12 rfl hi e_x2 dX1_firstIn_59 ?_
    refine lv_iload hx hb dX1_firstIn_60 (lv_at hl 5 rfl) ?_
    refine lv_icmp_lt (tgt := 69) hx hb dX1_firstIn_62 (by decide) (fun hq => ?_) (fun hq => ?_)
    · have hf := if_t hq hf
      exact b_X1_firstIn_B69 X hN hk hf hP hS (lv_sub hl [1, 2, 3, 4, 5, 6, 7, 0] rfl)
    · have hf := if_f hq hf
      refine lv_iconst (v := 1) hx hb dX1_firstIn_65 rfl ?_
      refine lv_goto (tgt := 70) hx hb dX1_firstIn_66 (by decide) ?_
      exact b_X1_firstIn_B70 X hN hk hf hP hS (lv_sub hl [1, 2, 3, 4, 5, 6, 7, 0] rfl)
set_option maxHeartbeats 4000000 in
set_option maxRecDepth 100000 in
theorem b_X1_firstIn_B38 (X : cx p s m meth c args cX1_firstIn 9 (some .int) RX1 D [(cI, .int)]) (hN : nj ad 34) {σ : St} {a1 a2 a3 a4 a5 a6 : Int32} {r : Int32} {K : Int32 → Int32 → Int32 → Int32 → Int32 → Int32 → Option Int32} (hk : ∀ {b1 b2 b3 b4 b5 b6 : Int32} {H : Heap} {locs : List Loc} {ls : Array Slot}, K b1 b2 b3 b4 b5 b6 = some r → va_P D vwCl (wC ad cI σ) H → va_S (aw ad 34) s.heap H locs → lv_has ls 9 [(0, .ref (ad 1)), (1, .int b1), (2, .int b2), (3, .int b3), (4, .int b4), (5, .int b5), (6, .int b6)] → W p l e rm_X1_firstIn s m args below meth c H locs 0 0 (MQ below (qI D (wC ad cI) (aw ad 34) r σ) args s 0 0 (aw ad 34)) (F0 m 3 ls [])) (hf : f_X1_firstIn_B38 σ K a1 a2 a3 a4 a5 a6 = some r) {H : Heap} {locs : List Loc} {ls : Array Slot} (hP : va_P D vwCl (wC ad cI σ) H) (hS : va_S (aw ad 34) s.heap H locs) (hl : lv_has ls 9 [(0, .ref (ad 1)), (1, .int a1), (2, .int a2), (3, .int a3), (4, .int a4), (5, .int a5), (6, .int a6)]) : W p l e rm_X1_firstIn s m args below meth c H locs 0 0 (MQ below (qI D (wC ad cI) (aw ad 34) r σ) args s 0 0 (aw ad 34)) (F0 m 38 ls []) := by
  obtain ⟨hx, hb, hml, hown, hts, hr, hlk, hK⟩ := id X
  rw [f_X1_firstIn_B38] at hf
  refine lv_iconst (v := 0) hx hb dX1_firstIn_38 rfl ?_
  exact b_X1_firstIn_B39 X hN hk hf hP hS (lv_sub hl [0, 1, 2, 3, 4, 5, 6] rfl)
set_option maxHeartbeats 4000000 in
set_option maxRecDepth 100000 in
theorem b_X1_firstIn_L3 (X : cx p s m meth c args cX1_firstIn 9 (some .int) RX1 D [(cI, .int)]) (hN : nj ad 34) : ∀ (n : Nat) {σ : St} {a1 a2 a3 a4 a5 a6 : Int32} {r : Int32}, f_X1_firstIn_L3 σ n a1 a2 a3 a4 a5 a6 = some r → ∀ {H : Heap} {locs : List Loc} {ls : Array Slot}, va_P D vwCl (wC ad cI σ) H → va_S (aw ad 34) s.heap H locs → lv_has ls 9 [(0, .ref (ad 1)), (1, .int a1), (2, .int a2), (3, .int a3), (4, .int a4), (5, .int a5), (6, .int a6)] → W p l e rm_X1_firstIn s m args below meth c H locs 0 0 (MQ below (qI D (wC ad cI) (aw ad 34) r σ) args s 0 0 (aw ad 34)) (F0 m 3 ls []) := by
  intro n
  induction n with
  | zero =>
    intro σ a1 a2 a3 a4 a5 a6 r hf
    rw [f_X1_firstIn_L3] at hf
    cases hf
  | succ n ih =>
    intro σ a1 a2 a3 a4 a5 a6 r hf H locs ls hP hS hl
    obtain ⟨hx, hb, hml, hown, hts, hr, hlk, hK⟩ := id X
    rw [f_X1_firstIn_L3] at hf
    refine lv_iload hx hb dX1_firstIn_3 (lv_at hl 6 rfl) ?_
    refine lv_aload_n hx hb dX1_firstIn_5 rfl (lv_at hl 0 rfl) ?_
    obtain ⟨x1, e_x1, hf⟩ := lf_some hf
    refine fg_X1_33 X hP e_x1 dX1_firstIn_6 ?_
    refine lv_icmp_ge (tgt := 102) hx hb dX1_firstIn_9 (by decide) (fun hq => ?_) (fun hq => ?_)
    · have hf := if_t hq hf
      refine lv_bipush (v := (-9)) hx hb dX1_firstIn_102 rfl ?_
      exact rI X hP hS hf dX1_firstIn_104
    · have hf := if_f hq hf
      refine lv_aload_n hx hb dX1_firstIn_12 rfl (lv_at hl 0 rfl) ?_
      refine fg_X1_18 X hP dX1_firstIn_13 ?_
      refine lv_iload hx hb dX1_firstIn_16 (lv_at hl 6 rfl) ?_
      obtain ⟨hi, x2, e_x2, hf⟩ := ld_some hf
      refine ldr (t0 := 0) X hP wC_9 rfl hi e_x2 dX1_firstIn_18 ?_
      refine lv_iload_n hx hb dX1_firstIn_19 rfl (lv_at hl 3 rfl) ?_
      refine lv_icmp_gt (tgt := 38) hx hb dX1_firstIn_20 (by decide) (fun hq => ?_) (fun hq => ?_)
      · have hf := if_t hq hf
        exact b_X1_firstIn_B38 X hN (fun hf hP hS hl => ih hf hP hS hl) hf hP hS (lv_sub hl [0, 1, 2, 3, 4, 5, 6] rfl)
      · have hf := if_f hq hf
        refine lv_aload_n hx hb dX1_firstIn_23 rfl (lv_at hl 0 rfl) ?_
        refine fg_X1_21 X hP dX1_firstIn_24 ?_
        refine lv_iload hx hb dX1_firstIn_27 (lv_at hl 6 rfl) ?_
        obtain ⟨hi, x3, e_x3, hf⟩ := ld_some hf
        refine ldr (t0 := 0) X hP wC_10 rfl hi e_x3 dX1_firstIn_29 ?_
        refine lv_iload_n hx hb dX1_firstIn_30 rfl (lv_at hl 2 rfl) ?_
        refine lv_icmp_lt (tgt := 38) hx hb dX1_firstIn_31 (by decide) (fun hq => ?_) (fun hq => ?_)
        · have hf := if_t hq hf
          exact b_X1_firstIn_B38 X hN (fun hf hP hS hl => ih hf hP hS hl) hf hP hS (lv_sub hl [0, 1, 2, 3, 4, 5, 6] rfl)
        · have hf := if_f hq hf
          refine lv_iconst (v := 1) hx hb dX1_firstIn_34 rfl ?_
          refine lv_goto (tgt := 39) hx hb dX1_firstIn_35 (by decide) ?_
          exact b_X1_firstIn_B39 X hN (fun hf hP hS hl => ih hf hP hS hl) hf hP hS (lv_sub hl [0, 1, 2, 3, 4, 5, 6] rfl)
set_option maxHeartbeats 4000000 in
set_option maxRecDepth 100000 in
theorem b_X1_firstIn (X : cx p s m meth c args cX1_firstIn 9 (some .int) RX1 D [(cI, .int)]) (hN : nj ad 34) {σ : St} {a1 a2 a3 a4 a5 : Int32} {r : Int32} (hf : f_X1_firstIn a1 a2 a3 a4 a5 σ = some r) {H : Heap} {locs : List Loc} {ls : Array Slot} (hP : va_P D vwCl (wC ad cI σ) H) (hS : va_S (aw ad 34) s.heap H locs) (hl : lv_has ls 9 [(0, .ref (ad 1)), (1, .int a1), (2, .int a2), (3, .int a3), (4, .int a4), (5, .int a5)]) : W p l e rm_X1_firstIn s m args below meth c H locs 0 0 (MQ below (qI D (wC ad cI) (aw ad 34) r σ) args s 0 0 (aw ad 34)) (F0 m 0 ls []) := by
  obtain ⟨hx, hb, hml, hown, hts, hr, hlk, hK⟩ := id X
  rw [f_X1_firstIn] at hf
  refine lv_iconst (v := 0) hx hb dX1_firstIn_0 rfl ?_
  refine lv_istore (lv' := [(6, .int 0), (0, .ref (ad 1)), (1, .int a1), (2, .int a2), (3, .int a3), (4, .int a4), (5, .int a5)]) hx hb dX1_firstIn_1 hl (by decide) rfl (fun ls hl => ?_)
  exact b_X1_firstIn_L3 X hN _ hf hP hS (lv_sub hl [1, 2, 3, 4, 5, 6, 0] rfl)
set_option maxHeartbeats 4000000 in
set_option maxRecDepth 100000 in
theorem c_X1_firstIn {l : Launch} {D : va_G} {ad : Nat → Nat} {cI : ClassId} (hN : nj ad 34) {σ : St} {a1 a2 a3 a4 a5 : Int32} {r : Int32} (hf : f_X1_firstIn a1 a2 a3 a4 a5 σ = some r) : Met l yX1_firstIn (.code yX1_firstIn cX1_firstIn 9 (some .int) :: wsL_law) rm_X1_firstIn (va_Pc [.ref (ad 1), .int a1, .int a2, .int a3, .int a4, .int a5] (pw D (wC ad cI) [(cI, .int)] σ)) (qI D (wC ad cI) (aw ad 34) r σ) 0 0 (aw ad 34) :=
  met_mk (by decide) rfl (Nat.le_of_ble_eq_true rfl) (fun p e s m below meth c X hP ls hl => b_X1_firstIn X hN hf hP va_S.rf hl)
set_option maxHeartbeats 4000000 in
set_option maxRecDepth 100000 in
theorem b_X1_meets (X : cx p s m meth c args cX1_meets 6 (some .boolean) RX1 D [(cI, .int)]) (hN : nj ad 34) {σ : St} {a1 a2 a3 a4 a5 : Int32} {r : Int32} (hf : f_X1_meets a1 a2 a3 a4 a5 σ = some r) {H : Heap} {locs : List Loc} {ls : Array Slot} (hP : va_P D vwCl (wC ad cI σ) H) (hS : va_S (aw ad 34) s.heap H locs) (hl : lv_has ls 6 [(0, .ref (ad 1)), (1, .int a1), (2, .int a2), (3, .int a3), (4, .int a4), (5, .int a5)]) : W p l e rm_X1_meets s m args below meth c H locs 0 0 (MQ below (qI D (wC ad cI) (aw ad 34) r σ) args s 0 0 (aw ad 34)) (F0 m 0 ls []) := by
  obtain ⟨hx, hb, hml, hown, hts, hr, hlk, hK⟩ := id X
  rw [f_X1_meets] at hf
  refine lv_aload_n hx hb dX1_meets_0 rfl (lv_at hl 0 rfl) ?_
  refine lv_iload_n hx hb dX1_meets_1 rfl (lv_at hl 1 rfl) ?_
  refine lv_iload_n hx hb dX1_meets_2 rfl (lv_at hl 2 rfl) ?_
  refine lv_iload_n hx hb dX1_meets_3 rfl (lv_at hl 3 rfl) ?_
  refine lv_iload hx hb dX1_meets_4 (lv_at hl 4 rfl) ?_
  refine lv_iload hx hb dX1_meets_6 (lv_at hl 5 rfl) ?_
  obtain ⟨x1, hc, hf⟩ := bi_some hf
  refine kVi (As := [.int a1, .int a2, .int a3, .int a4, .int a5]) (rest := []) (wd := (wC ad cI)) (q0 := 1) (ci := 1) X (c_X1_firstIn (l := l) (D := D) (σ := σ) hN hc) (cw_X1_37 X.2.2.2.2.1 ⟨Nat.le_of_ble_eq_true rfl, Nat.le_of_ble_eq_true rfl⟩) rfl rfl hP hS hl rfl rfl (Nat.le_of_ble_eq_true rfl) dX1_meets_8 (fun H locs hP hS => ?_)
  refine lv_bipush (v := (-9)) hx hb dX1_meets_11 rfl ?_
  refine lv_icmp_eq (tgt := 20) hx hb dX1_meets_13 (by decide) (fun hq => ?_) (fun hq => ?_)
  · have hf := if_t hq hf
    refine lv_iconst (v := 0) hx hb dX1_meets_20 rfl ?_
    exact rZ X hP hS hf dX1_meets_21
  · have hf := if_f hq hf
    refine lv_iconst (v := 1) hx hb dX1_meets_16 rfl ?_
    refine lv_goto (tgt := 21) hx hb dX1_meets_17 (by decide) ?_
    exact rZ X hP hS hf dX1_meets_21
set_option maxHeartbeats 4000000 in
set_option maxRecDepth 100000 in
theorem c_X1_meets {l : Launch} {D : va_G} {ad : Nat → Nat} {cI : ClassId} (hN : nj ad 34) {σ : St} {a1 a2 a3 a4 a5 : Int32} {r : Int32} (hf : f_X1_meets a1 a2 a3 a4 a5 σ = some r) : Met l yX1_meets (.code yX1_meets cX1_meets 6 (some .boolean) :: wsL_law) rm_X1_meets (va_Pc [.ref (ad 1), .int a1, .int a2, .int a3, .int a4, .int a5] (pw D (wC ad cI) [(cI, .int)] σ)) (qI D (wC ad cI) (aw ad 34) r σ) 0 0 (aw ad 34) :=
  met_mk (by decide) rfl (Nat.le_of_ble_eq_true rfl) (fun p e s m below meth c X hP ls hl => b_X1_meets X hN hf hP va_S.rf hl)
set_option maxHeartbeats 4000000 in
set_option maxRecDepth 100000 in
theorem b_X1_turnAbout_B46 (X : cx p s m meth c args cX1_turnAbout 5 (some .int) RX1 D [(cI, .int)]) (hN : nj ad 34) {σ : St} {a1 a2 a3 a4 : Int32} {r : Int32} {σ' : St} {K : Int32 → Int32 → St → Option (Int32 × St)} (hk : ∀ {σ : St} {b1 b2 : Int32} {H : Heap} {locs : List Loc} {ls : Array Slot}, K b1 b2 σ = some (r, σ') → va_P D vwCl (wC ad cI σ) H → va_S (aw ad 34) s.heap H locs → lv_has ls 5 [(0, .ref (ad 1)), (1, .int b1), (2, .int b2)] → W p l e rm_X1_turnAbout s m args below meth c H locs 0 0 (MQ below (qI D (wC ad cI) (aw ad 34) r σ') args s 0 0 (aw ad 34)) (F0 m 4 ls [])) (hf : f_X1_turnAbout_B46 K a1 a2 a3 a4 σ = some (r, σ')) {H : Heap} {locs : List Loc} {ls : Array Slot} (hP : va_P D vwCl (wC ad cI σ) H) (hS : va_S (aw ad 34) s.heap H locs) (hl : lv_has ls 5 [(0, .ref (ad 1)), (1, .int a1), (2, .int a2), (3, .int a3), (4, .int a4)]) : W p l e rm_X1_turnAbout s m args below meth c H locs 0 0 (MQ below (qI D (wC ad cI) (aw ad 34) r σ') args s 0 0 (aw ad 34)) (F0 m 46 ls []) := by
  obtain ⟨hx, hb, hml, hown, hts, hr, hlk, hK⟩ := id X
  rw [f_X1_turnAbout_B46] at hf
  refine lv_aload_n hx hb dX1_turnAbout_46 rfl (lv_at hl 0 rfl) ?_
  refine fg_X1_18 X hP dX1_turnAbout_47 ?_
  refine lv_iload_n hx hb dX1_turnAbout_50 rfl (lv_at hl 2 rfl) ?_
  refine lv_iload_n hx hb dX1_turnAbout_51 rfl (lv_at hl 3 rfl) ?_
  obtain ⟨hi, σ1, e_σ1, hf⟩ := sd_some hf
  refine str (t0 := 0) X hP (wC_D hN) hS wC_9 wC_s9 rfl hi e_σ1 dX1_turnAbout_52 (fun H locs hP hS => ?_)
  refine lv_aload_n hx hb dX1_turnAbout_53 rfl (lv_at hl 0 rfl) ?_
  refine fg_X1_21 X hP dX1_turnAbout_54 ?_
  refine lv_iload_n hx hb dX1_turnAbout_57 rfl (lv_at hl 2 rfl) ?_
  refine lv_iload hx hb dX1_turnAbout_58 (lv_at hl 4 rfl) ?_
  obtain ⟨hi, σ2, e_σ2, hf⟩ := sd_some hf
  refine str (t0 := 0) X hP (wC_D hN) hS wC_10 wC_s10 rfl hi e_σ2 dX1_turnAbout_60 (fun H locs hP hS => ?_)
  refine lv_iinc (v := (a2 + 1)) (lv' := [(2, .int (a2 + 1)), (0, .ref (ad 1)), (1, .int a1), (3, .int a3), (4, .int a4)]) hx hb dX1_turnAbout_61 hl (k := 2) rfl rfl (by decide) rfl (fun ls hl => ?_)
  refine lv_goto (tgt := 4) hx hb dX1_turnAbout_64 (by decide) ?_
  exact hk hf hP hS (lv_sub hl [1, 2, 0] rfl)
set_option maxHeartbeats 4000000 in
set_option maxRecDepth 100000 in
theorem b_X1_turnAbout_L4 (X : cx p s m meth c args cX1_turnAbout 5 (some .int) RX1 D [(cI, .int)]) (hN : nj ad 34) : ∀ (n : Nat) {σ : St} {a1 a2 : Int32} {r : Int32} {σ' : St}, f_X1_turnAbout_L4 n a1 a2 σ = some (r, σ') → ∀ {H : Heap} {locs : List Loc} {ls : Array Slot}, va_P D vwCl (wC ad cI σ) H → va_S (aw ad 34) s.heap H locs → lv_has ls 5 [(0, .ref (ad 1)), (1, .int a1), (2, .int a2)] → W p l e rm_X1_turnAbout s m args below meth c H locs 0 0 (MQ below (qI D (wC ad cI) (aw ad 34) r σ') args s 0 0 (aw ad 34)) (F0 m 4 ls []) := by
  intro n
  induction n with
  | zero =>
    intro σ a1 a2 r σ' hf
    rw [f_X1_turnAbout_L4] at hf
    cases hf
  | succ n ih =>
    intro σ a1 a2 r σ' hf H locs ls hP hS hl
    obtain ⟨hx, hb, hml, hown, hts, hr, hlk, hK⟩ := id X
    rw [f_X1_turnAbout_L4] at hf
    refine lv_iload_n hx hb dX1_turnAbout_4 rfl (lv_at hl 2 rfl) ?_
    refine lv_aload_n hx hb dX1_turnAbout_5 rfl (lv_at hl 0 rfl) ?_
    obtain ⟨x1, e_x1, hf⟩ := lf_some hf
    refine fg_X1_33 X hP e_x1 dX1_turnAbout_6 ?_
    refine lv_icmp_ge (tgt := 67) hx hb dX1_turnAbout_9 (by decide) (fun hq => ?_) (fun hq => ?_)
    · have hf := if_t hq hf
      refine lv_iload_n hx hb dX1_turnAbout_67 rfl (lv_at hl 1 rfl) ?_
      exact rIe X hP hS hf dX1_turnAbout_68
    · have hf := if_f hq hf
      refine lv_bipush (v := 7) hx hb dX1_turnAbout_12 rfl ?_
      refine lv_aload_n hx hb dX1_turnAbout_14 rfl (lv_at hl 0 rfl) ?_
      refine fg_X1_21 X hP dX1_turnAbout_15 ?_
      refine lv_iload_n hx hb dX1_turnAbout_18 rfl (lv_at hl 2 rfl) ?_
      obtain ⟨hi, x2, e_x2, hf⟩ := ld_some hf
      refine ldr (t0 := 0) X hP wC_10 rfl hi e_x2 dX1_turnAbout_19 ?_
      refine lv_isub hx hb dX1_turnAbout_20 ?_
      refine lv_istore_n (lv' := [(3, .int (7 - x2)), (0, .ref (ad 1)), (1, .int a1), (2, .int a2)]) hx hb dX1_turnAbout_21 rfl hl (by decide) rfl (fun ls hl => ?_)
      refine lv_bipush (v := 7) hx hb dX1_turnAbout_22 rfl ?_
      refine lv_aload_n hx hb dX1_turnAbout_24 rfl (lv_at hl 1 rfl) ?_
      refine fg_X1_18 X hP dX1_turnAbout_25 ?_
      refine lv_iload_n hx hb dX1_turnAbout_28 rfl (lv_at hl 3 rfl) ?_
      obtain ⟨hi, x3, e_x3, hf⟩ := ld_some hf
      refine ldr (t0 := 0) X hP wC_9 rfl hi e_x3 dX1_turnAbout_29 ?_
      refine lv_isub hx hb dX1_turnAbout_30 ?_
      refine lv_istore (lv' := [(4, .int (7 - x3)), (3, .int (7 - x2)), (0, .ref (ad 1)), (1, .int a1), (2, .int a2)]) hx hb dX1_turnAbout_31 hl (by decide) rfl (fun ls hl => ?_)
      refine lv_iload_n hx hb dX1_turnAbout_33 rfl (lv_at hl 1 rfl) ?_
      refine lv_aload_n hx hb dX1_turnAbout_34 rfl (lv_at hl 2 rfl) ?_
      refine fg_X1_18 X hP dX1_turnAbout_35 ?_
      refine lv_iload_n hx hb dX1_turnAbout_38 rfl (lv_at hl 4 rfl) ?_
      obtain ⟨hi, x4, e_x4, hf⟩ := ld_some hf
      refine ldr (t0 := 0) X hP wC_9 rfl hi e_x4 dX1_turnAbout_39 ?_
      refine lv_icmp_eq (tgt := 46) hx hb dX1_turnAbout_40 (by decide) (fun hq => ?_) (fun hq => ?_)
      · have hf := if_t hq hf
        exact b_X1_turnAbout_B46 X hN (fun hf hP hS hl => ih hf hP hS hl) hf hP hS (lv_sub hl [2, 3, 4, 1, 0] rfl)
      · have hf := if_f hq hf
        refine lv_iinc (v := (a1 + 1)) (lv' := [(1, .int (a1 + 1)), (4, .int (7 - x3)), (3, .int (7 - x2)), (0, .ref (ad 1)), (2, .int a2)]) hx hb dX1_turnAbout_43 hl (k := 3) rfl rfl (by decide) rfl (fun ls hl => ?_)
        exact b_X1_turnAbout_B46 X hN (fun hf hP hS hl => ih hf hP hS hl) hf hP hS (lv_sub hl [3, 0, 4, 2, 1] rfl)
set_option maxHeartbeats 4000000 in
set_option maxRecDepth 100000 in
theorem b_X1_turnAbout (X : cx p s m meth c args cX1_turnAbout 5 (some .int) RX1 D [(cI, .int)]) (hN : nj ad 34) {σ : St} {r : Int32} {σ' : St} (hf : f_X1_turnAbout σ = some (r, σ')) {H : Heap} {locs : List Loc} {ls : Array Slot} (hP : va_P D vwCl (wC ad cI σ) H) (hS : va_S (aw ad 34) s.heap H locs) (hl : lv_has ls 5 [(0, .ref (ad 1))]) : W p l e rm_X1_turnAbout s m args below meth c H locs 0 0 (MQ below (qI D (wC ad cI) (aw ad 34) r σ') args s 0 0 (aw ad 34)) (F0 m 0 ls []) := by
  obtain ⟨hx, hb, hml, hown, hts, hr, hlk, hK⟩ := id X
  rw [f_X1_turnAbout] at hf
  refine lv_iconst (v := 0) hx hb dX1_turnAbout_0 rfl ?_
  refine lv_istore_n (lv' := [(1, .int 0), (0, .ref (ad 1))]) hx hb dX1_turnAbout_1 rfl hl (by decide) rfl (fun ls hl => ?_)
  refine lv_iconst (v := 0) hx hb dX1_turnAbout_2 rfl ?_
  refine lv_istore_n (lv' := [(2, .int 0), (1, .int 0), (0, .ref (ad 1))]) hx hb dX1_turnAbout_3 rfl hl (by decide) rfl (fun ls hl => ?_)
  exact b_X1_turnAbout_L4 X hN _ hf hP hS (lv_sub hl [2, 1, 0] rfl)
set_option maxHeartbeats 4000000 in
set_option maxRecDepth 100000 in
theorem c_X1_turnAbout {l : Launch} {D : va_G} {ad : Nat → Nat} {cI : ClassId} (hN : nj ad 34) {σ : St} {r : Int32} {σ' : St} (hf : f_X1_turnAbout σ = some (r, σ')) : Met l yX1_turnAbout (.code yX1_turnAbout cX1_turnAbout 5 (some .int) :: wsL_law) rm_X1_turnAbout (va_Pc [.ref (ad 1)] (pw D (wC ad cI) [(cI, .int)] σ)) (qI D (wC ad cI) (aw ad 34) r σ') 0 0 (aw ad 34) :=
  met_mk (by decide) rfl (Nat.le_of_ble_eq_true rfl) (fun p e s m below meth c X hP ls hl => b_X1_turnAbout X hN hf hP va_S.rf hl)
set_option maxHeartbeats 4000000 in
set_option maxRecDepth 100000 in
theorem b_X1_manyOf_L4 (X : cx p s m meth c args cX1_manyOf 4 (some .int) RX1 D [(cI, .int)]) (hN : nj ad 34) : ∀ (n : Nat) {σ : St} {a1 a2 a3 : Int32} {r : Int32}, f_X1_manyOf_L4 σ n a1 a2 a3 = some r → ∀ {H : Heap} {locs : List Loc} {ls : Array Slot}, va_P D vwCl (wC ad cI σ) H → va_S (aw ad 34) s.heap H locs → lv_has ls 4 [(0, .ref (ad 1)), (1, .int a1), (2, .int a2), (3, .int a3)] → W p l e rm_X1_manyOf s m args below meth c H locs 0 0 (MQ below (qI D (wC ad cI) (aw ad 34) r σ) args s 0 0 (aw ad 34)) (F0 m 4 ls []) := by
  intro n
  induction n with
  | zero =>
    intro σ a1 a2 a3 r hf
    rw [f_X1_manyOf_L4] at hf
    cases hf
  | succ n ih =>
    intro σ a1 a2 a3 r hf H locs ls hP hS hl
    obtain ⟨hx, hb, hml, hown, hts, hr, hlk, hK⟩ := id X
    rw [f_X1_manyOf_L4] at hf
    refine lv_iload_n hx hb dX1_manyOf_4 rfl (lv_at hl 3 rfl) ?_
    refine lv_aload_n hx hb dX1_manyOf_5 rfl (lv_at hl 0 rfl) ?_
    obtain ⟨x1, e_x1, hf⟩ := lf_some hf
    refine fg_X1_33 X hP e_x1 dX1_manyOf_6 ?_
    refine lv_icmp_ge (tgt := 31) hx hb dX1_manyOf_9 (by decide) (fun hq => ?_) (fun hq => ?_)
    · have hf := if_t hq hf
      refine lv_iload_n hx hb dX1_manyOf_31 rfl (lv_at hl 2 rfl) ?_
      exact rI X hP hS hf dX1_manyOf_32
    · have hf := if_f hq hf
      refine lv_aload_n hx hb dX1_manyOf_12 rfl (lv_at hl 0 rfl) ?_
      refine fg_X1_15 X hP dX1_manyOf_13 ?_
      refine lv_iload_n hx hb dX1_manyOf_16 rfl (lv_at hl 3 rfl) ?_
      obtain ⟨hi, x2, e_x2, hf⟩ := ld_some hf
      refine ldr (t0 := 0) X hP wC_8 rfl hi e_x2 dX1_manyOf_17 ?_
      refine lv_iload_n hx hb dX1_manyOf_18 rfl (lv_at hl 1 rfl) ?_
      refine lv_icmp_ne (tgt := 25) hx hb dX1_manyOf_19 (by decide) (fun hq => ?_) (fun hq => ?_)
      · have hf := if_f hq hf
        refine lv_iinc (v := (a3 + 1)) (lv' := [(3, .int (a3 + 1)), (0, .ref (ad 1)), (1, .int a1), (2, .int a2)]) hx hb dX1_manyOf_25 hl (k := 3) rfl rfl (by decide) rfl (fun ls hl => ?_)
        refine lv_goto (tgt := 4) hx hb dX1_manyOf_28 (by decide) ?_
        exact ih hf hP hS (lv_sub hl [1, 2, 3, 0] rfl)
      · have hf := if_t hq hf
        refine lv_iinc (v := (a2 + 1)) (lv' := [(2, .int (a2 + 1)), (0, .ref (ad 1)), (1, .int a1), (3, .int a3)]) hx hb dX1_manyOf_22 hl (k := 2) rfl rfl (by decide) rfl (fun ls hl => ?_)
        refine lv_iinc (v := (a3 + 1)) (lv' := [(3, .int (a3 + 1)), (2, .int (a2 + 1)), (0, .ref (ad 1)), (1, .int a1)]) hx hb dX1_manyOf_25 hl (k := 3) rfl rfl (by decide) rfl (fun ls hl => ?_)
        refine lv_goto (tgt := 4) hx hb dX1_manyOf_28 (by decide) ?_
        exact ih hf hP hS (lv_sub hl [2, 3, 1, 0] rfl)
set_option maxHeartbeats 4000000 in
set_option maxRecDepth 100000 in
theorem b_X1_manyOf (X : cx p s m meth c args cX1_manyOf 4 (some .int) RX1 D [(cI, .int)]) (hN : nj ad 34) {σ : St} {a1 : Int32} {r : Int32} (hf : f_X1_manyOf a1 σ = some r) {H : Heap} {locs : List Loc} {ls : Array Slot} (hP : va_P D vwCl (wC ad cI σ) H) (hS : va_S (aw ad 34) s.heap H locs) (hl : lv_has ls 4 [(0, .ref (ad 1)), (1, .int a1)]) : W p l e rm_X1_manyOf s m args below meth c H locs 0 0 (MQ below (qI D (wC ad cI) (aw ad 34) r σ) args s 0 0 (aw ad 34)) (F0 m 0 ls []) := by
  obtain ⟨hx, hb, hml, hown, hts, hr, hlk, hK⟩ := id X
  rw [f_X1_manyOf] at hf
  refine lv_iconst (v := 0) hx hb dX1_manyOf_0 rfl ?_
  refine lv_istore_n (lv' := [(2, .int 0), (0, .ref (ad 1)), (1, .int a1)]) hx hb dX1_manyOf_1 rfl hl (by decide) rfl (fun ls hl => ?_)
  refine lv_iconst (v := 0) hx hb dX1_manyOf_2 rfl ?_
  refine lv_istore_n (lv' := [(3, .int 0), (2, .int 0), (0, .ref (ad 1)), (1, .int a1)]) hx hb dX1_manyOf_3 rfl hl (by decide) rfl (fun ls hl => ?_)
  exact b_X1_manyOf_L4 X hN _ hf hP hS (lv_sub hl [2, 3, 1, 0] rfl)
set_option maxHeartbeats 4000000 in
set_option maxRecDepth 100000 in
theorem c_X1_manyOf {l : Launch} {D : va_G} {ad : Nat → Nat} {cI : ClassId} (hN : nj ad 34) {σ : St} {a1 : Int32} {r : Int32} (hf : f_X1_manyOf a1 σ = some r) : Met l yX1_manyOf (.code yX1_manyOf cX1_manyOf 4 (some .int) :: wsL_law) rm_X1_manyOf (va_Pc [.ref (ad 1), .int a1] (pw D (wC ad cI) [(cI, .int)] σ)) (qI D (wC ad cI) (aw ad 34) r σ) 0 0 (aw ad 34) :=
  met_mk (by decide) rfl (Nat.le_of_ble_eq_true rfl) (fun p e s m below meth c X hP ls hl => b_X1_manyOf X hN hf hP va_S.rf hl)
set_option maxHeartbeats 4000000 in
set_option maxRecDepth 100000 in
theorem b_X1_headBelow_B43 (X : cx p s m meth c args cX1_headBelow 7 (some .int) RX1 D [(cI, .int)]) (hN : nj ad 34) {σ : St} {a1 a2 a3 a4 a5 t0 : Int32} {r : Int32} {K : Int32 → Int32 → Int32 → Int32 → Int32 → Option Int32} (hk : ∀ {b1 b2 b3 b4 b5 : Int32} {H : Heap} {locs : List Loc} {ls : Array Slot}, K b1 b2 b3 b4 b5 = some r → va_P D vwCl (wC ad cI σ) H → va_S (aw ad 34) s.heap H locs → lv_has ls 7 [(0, .ref (ad 1)), (1, .int b1), (2, .int b2), (3, .int b3), (4, .int b4), (5, .int b5)] → W p l e rm_X1_headBelow s m args below meth c H locs 0 0 (MQ below (qI D (wC ad cI) (aw ad 34) r σ) args s 0 0 (aw ad 34)) (F0 m 7 ls [])) (hf : f_X1_headBelow_B43 σ K a1 a2 a3 a4 a5 t0 = some r) {H : Heap} {locs : List Loc} {ls : Array Slot} (hP : va_P D vwCl (wC ad cI σ) H) (hS : va_S (aw ad 34) s.heap H locs) (hl : lv_has ls 7 [(0, .ref (ad 1)), (1, .int a1), (2, .int a2), (3, .int a3), (4, .int a4), (5, .int a5)]) : W p l e rm_X1_headBelow s m args below meth c H locs 0 0 (MQ below (qI D (wC ad cI) (aw ad 34) r σ) args s 0 0 (aw ad 34)) (F0 m 43 ls [.int t0]) := by
  obtain ⟨hx, hb, hml, hown, hts, hr, hlk, hK⟩ := id X
  rw [f_X1_headBelow_B43] at hf
  refine lv_istore (lv' := [(6, .int t0), (0, .ref (ad 1)), (1, .int a1), (2, .int a2), (3, .int a3), (4, .int a4), (5, .int a5)]) hx hb dX1_headBelow_43 hl (by decide) rfl (fun ls hl => ?_)
  refine lv_aload_n hx hb dX1_headBelow_45 rfl (lv_at hl 1 rfl) ?_
  refine fg_X1_15 X hP dX1_headBelow_46 ?_
  refine lv_iload hx hb dX1_headBelow_49 (lv_at hl 6 rfl) ?_
  obtain ⟨hi, x1, e_x1, hf⟩ := ld_some hf
  refine ldr (t0 := 0) X hP wC_8 rfl hi e_x1 dX1_headBelow_51 ?_
  refine lv_if_ne (tgt := 96) hx hb dX1_headBelow_52 (by decide) (fun hq => ?_) (fun hq => ?_)
  · have hf := if_f hq hf
    refine lv_iinc (v := (a5 + 1)) (lv' := [(5, .int (a5 + 1)), (6, .int t0), (0, .ref (ad 1)), (1, .int a1), (2, .int a2), (3, .int a3), (4, .int a4)]) hx hb dX1_headBelow_96 hl (k := 6) rfl rfl (by decide) rfl (fun ls hl => ?_)
    refine lv_goto (tgt := 7) hx hb dX1_headBelow_99 (by decide) ?_
    exact hk hf hP hS (lv_sub hl [2, 3, 4, 5, 6, 0] rfl)
  · have hf := if_t hq hf
    refine lv_aload_n hx hb dX1_headBelow_55 rfl (lv_at hl 1 rfl) ?_
    refine fg_X1_9 X hP dX1_headBelow_56 ?_
    refine lv_iload hx hb dX1_headBelow_59 (lv_at hl 6 rfl) ?_
    obtain ⟨hi, x2, e_x2, hf⟩ := ld_some hf
    refine ldr (t0 := 0) X hP wC_7 rfl hi e_x2 dX1_headBelow_61 ?_
    refine lv_iload_n hx hb dX1_headBelow_62 rfl (lv_at hl 2 rfl) ?_
    refine lv_icmp_ne (tgt := 96) hx hb dX1_headBelow_63 (by decide) (fun hq => ?_) (fun hq => ?_)
    · have hf := if_f hq hf
      refine lv_iinc (v := (a5 + 1)) (lv' := [(5, .int (a5 + 1)), (6, .int t0), (0, .ref (ad 1)), (1, .int a1), (2, .int a2), (3, .int a3), (4, .int a4)]) hx hb dX1_headBelow_96 hl (k := 6) rfl rfl (by decide) rfl (fun ls hl => ?_)
      refine lv_goto (tgt := 7) hx hb dX1_headBelow_99 (by decide) ?_
      exact hk hf hP hS (lv_sub hl [2, 3, 4, 5, 6, 0] rfl)
    · have hf := if_t hq hf
      refine lv_iload hx hb dX1_headBelow_66 (lv_at hl 0 rfl) ?_
      refine lv_if_eq (tgt := 96) hx hb dX1_headBelow_68 (by decide) (fun hq => ?_) (fun hq => ?_)
      · have hf := if_t hq hf
        refine lv_iinc (v := (a5 + 1)) (lv' := [(5, .int (a5 + 1)), (6, .int t0), (0, .ref (ad 1)), (1, .int a1), (2, .int a2), (3, .int a3), (4, .int a4)]) hx hb dX1_headBelow_96 hl (k := 6) rfl rfl (by decide) rfl (fun ls hl => ?_)
        refine lv_goto (tgt := 7) hx hb dX1_headBelow_99 (by decide) ?_
        exact hk hf hP hS (lv_sub hl [2, 3, 4, 5, 6, 0] rfl)
      · have hf := if_f hq hf
        refine lv_aload_n hx hb dX1_headBelow_71 rfl (lv_at hl 1 rfl) ?_
        refine fg_X1_24 X hP dX1_headBelow_72 ?_
        refine lv_iload hx hb dX1_headBelow_75 (lv_at hl 6 rfl) ?_
        obtain ⟨hi, x3, e_x3, hf⟩ := ld_some hf
        refine ldr (t0 := 0) X hP wC_11 rfl hi e_x3 dX1_headBelow_77 ?_
        refine lv_iload_n hx hb dX1_headBelow_78 rfl (lv_at hl 4 rfl) ?_
        refine lv_icmp_le (tgt := 96) hx hb dX1_headBelow_79 (by decide) (fun hq => ?_) (fun hq => ?_)
        · have hf := if_t hq hf
          refine lv_iinc (v := (a5 + 1)) (lv' := [(5, .int (a5 + 1)), (6, .int t0), (0, .ref (ad 1)), (1, .int a1), (2, .int a2), (3, .int a3), (4, .int a4)]) hx hb dX1_headBelow_96 hl (k := 6) rfl rfl (by decide) rfl (fun ls hl => ?_)
          refine lv_goto (tgt := 7) hx hb dX1_headBelow_99 (by decide) ?_
          exact hk hf hP hS (lv_sub hl [2, 3, 4, 5, 6, 0] rfl)
        · have hf := if_f hq hf
          refine lv_iload hx hb dX1_headBelow_82 (lv_at hl 5 rfl) ?_
          refine lv_aload_n hx hb dX1_headBelow_84 rfl (lv_at hl 1 rfl) ?_
          refine fg_X1_24 X hP dX1_headBelow_85 ?_
          refine lv_iload hx hb dX1_headBelow_88 (lv_at hl 6 rfl) ?_
          obtain ⟨hi, x4, e_x4, hf⟩ := ld_some hf
          refine ldr (t0 := 0) X hP wC_11 rfl hi e_x4 dX1_headBelow_90 ?_
          refine mm_X1_41 X hl (Nat.le_of_ble_eq_true rfl) (Nat.le_of_ble_eq_true rfl) dX1_headBelow_91 ?_
          refine lv_istore (lv' := [(4, .int (jmin a4 x4)), (6, .int t0), (0, .ref (ad 1)), (1, .int a1), (2, .int a2), (3, .int a3), (5, .int a5)]) hx hb dX1_headBelow_94 hl (by decide) rfl (fun ls hl => ?_)
          refine lv_iinc (v := (a5 + 1)) (lv' := [(5, .int (a5 + 1)), (4, .int (jmin a4 x4)), (6, .int t0), (0, .ref (ad 1)), (1, .int a1), (2, .int a2), (3, .int a3)]) hx hb dX1_headBelow_96 hl (k := 6) rfl rfl (by decide) rfl (fun ls hl => ?_)
          refine lv_goto (tgt := 7) hx hb dX1_headBelow_99 (by decide) ?_
          exact hk hf hP hS (lv_sub hl [3, 4, 5, 6, 1, 0] rfl)
set_option maxHeartbeats 4000000 in
set_option maxRecDepth 100000 in
theorem b_X1_headBelow_B42 (X : cx p s m meth c args cX1_headBelow 7 (some .int) RX1 D [(cI, .int)]) (hN : nj ad 34) {σ : St} {a1 a2 a3 a4 a5 : Int32} {r : Int32} {K : Int32 → Int32 → Int32 → Int32 → Int32 → Option Int32} (hk : ∀ {b1 b2 b3 b4 b5 : Int32} {H : Heap} {locs : List Loc} {ls : Array Slot}, K b1 b2 b3 b4 b5 = some r → va_P D vwCl (wC ad cI σ) H → va_S (aw ad 34) s.heap H locs → lv_has ls 7 [(0, .ref (ad 1)), (1, .int b1), (2, .int b2), (3, .int b3), (4, .int b4), (5, .int b5)] → W p l e rm_X1_headBelow s m args below meth c H locs 0 0 (MQ below (qI D (wC ad cI) (aw ad 34) r σ) args s 0 0 (aw ad 34)) (F0 m 7 ls [])) (hf : f_X1_headBelow_B42 σ K a1 a2 a3 a4 a5 = some r) {H : Heap} {locs : List Loc} {ls : Array Slot} (hP : va_P D vwCl (wC ad cI σ) H) (hS : va_S (aw ad 34) s.heap H locs) (hl : lv_has ls 7 [(0, .ref (ad 1)), (1, .int a1), (2, .int a2), (3, .int a3), (4, .int a4), (5, .int a5)]) : W p l e rm_X1_headBelow s m args below meth c H locs 0 0 (MQ below (qI D (wC ad cI) (aw ad 34) r σ) args s 0 0 (aw ad 34)) (F0 m 42 ls []) := by
  obtain ⟨hx, hb, hml, hown, hts, hr, hlk, hK⟩ := id X
  rw [f_X1_headBelow_B42] at hf
  refine lv_iconst (v := 0) hx hb dX1_headBelow_42 rfl ?_
  exact b_X1_headBelow_B43 X hN hk hf hP hS (lv_sub hl [0, 1, 2, 3, 4, 5] rfl)
set_option maxHeartbeats 4000000 in
set_option maxRecDepth 100000 in
theorem b_X1_headBelow_L7 (X : cx p s m meth c args cX1_headBelow 7 (some .int) RX1 D [(cI, .int)]) (hN : nj ad 34) : ∀ (n : Nat) {σ : St} {a1 a2 a3 a4 a5 : Int32} {r : Int32}, f_X1_headBelow_L7 σ n a1 a2 a3 a4 a5 = some r → ∀ {H : Heap} {locs : List Loc} {ls : Array Slot}, va_P D vwCl (wC ad cI σ) H → va_S (aw ad 34) s.heap H locs → lv_has ls 7 [(0, .ref (ad 1)), (1, .int a1), (2, .int a2), (3, .int a3), (4, .int a4), (5, .int a5)] → W p l e rm_X1_headBelow s m args below meth c H locs 0 0 (MQ below (qI D (wC ad cI) (aw ad 34) r σ) args s 0 0 (aw ad 34)) (F0 m 7 ls []) := by
  intro n
  induction n with
  | zero =>
    intro σ a1 a2 a3 a4 a5 r hf
    rw [f_X1_headBelow_L7] at hf
    cases hf
  | succ n ih =>
    intro σ a1 a2 a3 a4 a5 r hf H locs ls hP hS hl
    obtain ⟨hx, hb, hml, hown, hts, hr, hlk, hK⟩ := id X
    rw [f_X1_headBelow_L7] at hf
    refine lv_iload hx hb dX1_headBelow_7 (lv_at hl 5 rfl) ?_
    refine lv_aload_n hx hb dX1_headBelow_9 rfl (lv_at hl 0 rfl) ?_
    obtain ⟨x1, e_x1, hf⟩ := lf_some hf
    refine fg_X1_33 X hP e_x1 dX1_headBelow_10 ?_
    refine lv_icmp_ge (tgt := 102) hx hb dX1_headBelow_13 (by decide) (fun hq => ?_) (fun hq => ?_)
    · have hf := if_t hq hf
      refine lv_iload hx hb dX1_headBelow_102 (lv_at hl 4 rfl) ?_
      exact rI X hP hS hf dX1_headBelow_104
    · have hf := if_f hq hf
      refine lv_aload_n hx hb dX1_headBelow_16 rfl (lv_at hl 0 rfl) ?_
      refine fg_X1_18 X hP dX1_headBelow_17 ?_
      refine lv_iload hx hb dX1_headBelow_20 (lv_at hl 5 rfl) ?_
      obtain ⟨hi, x2, e_x2, hf⟩ := ld_some hf
      refine ldr (t0 := 0) X hP wC_9 rfl hi e_x2 dX1_headBelow_22 ?_
      refine lv_iload_n hx hb dX1_headBelow_23 rfl (lv_at hl 2 rfl) ?_
      refine lv_icmp_gt (tgt := 42) hx hb dX1_headBelow_24 (by decide) (fun hq => ?_) (fun hq => ?_)
      · have hf := if_t hq hf
        exact b_X1_headBelow_B42 X hN (fun hf hP hS hl => ih hf hP hS hl) hf hP hS (lv_sub hl [0, 1, 2, 3, 4, 5] rfl)
      · have hf := if_f hq hf
        refine lv_aload_n hx hb dX1_headBelow_27 rfl (lv_at hl 0 rfl) ?_
        refine fg_X1_21 X hP dX1_headBelow_28 ?_
        refine lv_iload hx hb dX1_headBelow_31 (lv_at hl 5 rfl) ?_
        obtain ⟨hi, x3, e_x3, hf⟩ := ld_some hf
        refine ldr (t0 := 0) X hP wC_10 rfl hi e_x3 dX1_headBelow_33 ?_
        refine lv_iload_n hx hb dX1_headBelow_34 rfl (lv_at hl 2 rfl) ?_
        refine lv_icmp_lt (tgt := 42) hx hb dX1_headBelow_35 (by decide) (fun hq => ?_) (fun hq => ?_)
        · have hf := if_t hq hf
          exact b_X1_headBelow_B42 X hN (fun hf hP hS hl => ih hf hP hS hl) hf hP hS (lv_sub hl [0, 1, 2, 3, 4, 5] rfl)
        · have hf := if_f hq hf
          refine lv_iconst (v := 1) hx hb dX1_headBelow_38 rfl ?_
          refine lv_goto (tgt := 43) hx hb dX1_headBelow_39 (by decide) ?_
          exact b_X1_headBelow_B43 X hN (fun hf hP hS hl => ih hf hP hS hl) hf hP hS (lv_sub hl [0, 1, 2, 3, 4, 5] rfl)
set_option maxHeartbeats 4000000 in
set_option maxRecDepth 100000 in
theorem b_X1_headBelow (X : cx p s m meth c args cX1_headBelow 7 (some .int) RX1 D [(cI, .int)]) (hN : nj ad 34) {σ : St} {a1 a2 a3 : Int32} {r : Int32} (hf : f_X1_headBelow a1 a2 a3 σ = some r) {H : Heap} {locs : List Loc} {ls : Array Slot} (hP : va_P D vwCl (wC ad cI σ) H) (hS : va_S (aw ad 34) s.heap H locs) (hl : lv_has ls 7 [(0, .ref (ad 1)), (1, .int a1), (2, .int a2), (3, .int a3)]) : W p l e rm_X1_headBelow s m args below meth c H locs 0 0 (MQ below (qI D (wC ad cI) (aw ad 34) r σ) args s 0 0 (aw ad 34)) (F0 m 0 ls []) := by
  obtain ⟨hx, hb, hml, hown, hts, hr, hlk, hK⟩ := id X
  rw [f_X1_headBelow] at hf
  refine lv_bipush (v := 30) hx hb dX1_headBelow_0 rfl ?_
  refine lv_istore (lv' := [(4, .int 30), (0, .ref (ad 1)), (1, .int a1), (2, .int a2), (3, .int a3)]) hx hb dX1_headBelow_2 hl (by decide) rfl (fun ls hl => ?_)
  refine lv_iconst (v := 0) hx hb dX1_headBelow_4 rfl ?_
  refine lv_istore (lv' := [(5, .int 0), (4, .int 30), (0, .ref (ad 1)), (1, .int a1), (2, .int a2), (3, .int a3)]) hx hb dX1_headBelow_5 hl (by decide) rfl (fun ls hl => ?_)
  exact b_X1_headBelow_L7 X hN _ hf hP hS (lv_sub hl [2, 3, 4, 5, 1, 0] rfl)
set_option maxHeartbeats 4000000 in
set_option maxRecDepth 100000 in
theorem c_X1_headBelow {l : Launch} {D : va_G} {ad : Nat → Nat} {cI : ClassId} (hN : nj ad 34) {σ : St} {a1 a2 a3 : Int32} {r : Int32} (hf : f_X1_headBelow a1 a2 a3 σ = some r) : Met l yX1_headBelow (.code yX1_headBelow cX1_headBelow 7 (some .int) :: wsL_law) rm_X1_headBelow (va_Pc [.ref (ad 1), .int a1, .int a2, .int a3] (pw D (wC ad cI) [(cI, .int)] σ)) (qI D (wC ad cI) (aw ad 34) r σ) 0 0 (aw ad 34) :=
  met_mk (by decide) rfl (Nat.le_of_ble_eq_true rfl) (fun p e s m below meth c X hP ls hl => b_X1_headBelow X hN hf hP va_S.rf hl)
set_option maxHeartbeats 4000000 in
set_option maxRecDepth 100000 in
theorem b_X1_isAhead (X : cx p s m meth c args cX1_isAhead 3 (some .boolean) RX1 D [(cI, .int)]) (hN : nj ad 34) {σ : St} {a1 a2 : Int32} {r : Int32} (hf : f_X1_isAhead a1 a2 σ = some r) {H : Heap} {locs : List Loc} {ls : Array Slot} (hP : va_P D vwCl (wC ad cI σ) H) (hS : va_S (aw ad 34) s.heap H locs) (hl : lv_has ls 3 [(0, .ref (ad 1)), (1, .int a1), (2, .int a2)]) : W p l e rm_X1_isAhead s m args below meth c H locs 0 0 (MQ below (qI D (wC ad cI) (aw ad 34) r σ) args s 0 0 (aw ad 34)) (F0 m 0 ls []) := by
  obtain ⟨hx, hb, hml, hown, hts, hr, hlk, hK⟩ := id X
  rw [f_X1_isAhead] at hf
  refine lv_aload_n hx hb dX1_isAhead_0 rfl (lv_at hl 0 rfl) ?_
  refine fg_X1_18 X hP dX1_isAhead_1 ?_
  refine lv_iload_n hx hb dX1_isAhead_4 rfl (lv_at hl 1 rfl) ?_
  obtain ⟨hi, x1, e_x1, hf⟩ := ld_some hf
  refine ldr (t0 := 0) X hP wC_9 rfl hi e_x1 dX1_isAhead_5 ?_
  refine lv_aload_n hx hb dX1_isAhead_6 rfl (lv_at hl 0 rfl) ?_
  refine fg_X1_18 X hP dX1_isAhead_7 ?_
  refine lv_iload_n hx hb dX1_isAhead_10 rfl (lv_at hl 2 rfl) ?_
  obtain ⟨hi, x2, e_x2, hf⟩ := ld_some hf
  refine ldr (t0 := 0) X hP wC_9 rfl hi e_x2 dX1_isAhead_11 ?_
  refine lv_icmp_lt (tgt := 45) hx hb dX1_isAhead_12 (by decide) (fun hq => ?_) (fun hq => ?_)
  · have hf := if_t hq hf
    refine lv_iconst (v := 1) hx hb dX1_isAhead_45 rfl ?_
    refine lv_goto (tgt := 50) hx hb dX1_isAhead_46 (by decide) ?_
    exact rZ X hP hS hf dX1_isAhead_50
  · have hf := if_f hq hf
    refine lv_aload_n hx hb dX1_isAhead_15 rfl (lv_at hl 0 rfl) ?_
    refine fg_X1_18 X hP dX1_isAhead_16 ?_
    refine lv_iload_n hx hb dX1_isAhead_19 rfl (lv_at hl 1 rfl) ?_
    obtain ⟨hi, x3, e_x3, hf⟩ := ld_some hf
    refine ldr (t0 := 0) X hP wC_9 rfl hi e_x3 dX1_isAhead_20 ?_
    refine lv_aload_n hx hb dX1_isAhead_21 rfl (lv_at hl 0 rfl) ?_
    refine fg_X1_18 X hP dX1_isAhead_22 ?_
    refine lv_iload_n hx hb dX1_isAhead_25 rfl (lv_at hl 2 rfl) ?_
    obtain ⟨hi, x4, e_x4, hf⟩ := ld_some hf
    refine ldr (t0 := 0) X hP wC_9 rfl hi e_x4 dX1_isAhead_26 ?_
    refine lv_icmp_ne (tgt := 49) hx hb dX1_isAhead_27 (by decide) (fun hq => ?_) (fun hq => ?_)
    · have hf := if_f hq hf
      refine lv_iconst (v := 0) hx hb dX1_isAhead_49 rfl ?_
      exact rZ X hP hS hf dX1_isAhead_50
    · have hf := if_t hq hf
      refine lv_aload_n hx hb dX1_isAhead_30 rfl (lv_at hl 0 rfl) ?_
      refine fg_X1_24 X hP dX1_isAhead_31 ?_
      refine lv_iload_n hx hb dX1_isAhead_34 rfl (lv_at hl 1 rfl) ?_
      obtain ⟨hi, x5, e_x5, hf⟩ := ld_some hf
      refine ldr (t0 := 0) X hP wC_11 rfl hi e_x5 dX1_isAhead_35 ?_
      refine lv_aload_n hx hb dX1_isAhead_36 rfl (lv_at hl 0 rfl) ?_
      refine fg_X1_24 X hP dX1_isAhead_37 ?_
      refine lv_iload_n hx hb dX1_isAhead_40 rfl (lv_at hl 2 rfl) ?_
      obtain ⟨hi, x6, e_x6, hf⟩ := ld_some hf
      refine ldr (t0 := 0) X hP wC_11 rfl hi e_x6 dX1_isAhead_41 ?_
      refine lv_icmp_ge (tgt := 49) hx hb dX1_isAhead_42 (by decide) (fun hq => ?_) (fun hq => ?_)
      · have hf := if_t hq hf
        refine lv_iconst (v := 0) hx hb dX1_isAhead_49 rfl ?_
        exact rZ X hP hS hf dX1_isAhead_50
      · have hf := if_f hq hf
        refine lv_iconst (v := 1) hx hb dX1_isAhead_45 rfl ?_
        refine lv_goto (tgt := 50) hx hb dX1_isAhead_46 (by decide) ?_
        exact rZ X hP hS hf dX1_isAhead_50
set_option maxHeartbeats 4000000 in
set_option maxRecDepth 100000 in
theorem c_X1_isAhead {l : Launch} {D : va_G} {ad : Nat → Nat} {cI : ClassId} (hN : nj ad 34) {σ : St} {a1 a2 : Int32} {r : Int32} (hf : f_X1_isAhead a1 a2 σ = some r) : Met l yX1_isAhead (.code yX1_isAhead cX1_isAhead 3 (some .boolean) :: wsL_law) rm_X1_isAhead (va_Pc [.ref (ad 1), .int a1, .int a2] (pw D (wC ad cI) [(cI, .int)] σ)) (qI D (wC ad cI) (aw ad 34) r σ) 0 0 (aw ad 34) :=
  met_mk (by decide) rfl (Nat.le_of_ble_eq_true rfl) (fun p e s m below meth c X hP ls hl => b_X1_isAhead X hN hf hP va_S.rf hl)
set_option maxHeartbeats 4000000 in
set_option maxRecDepth 100000 in
theorem b_X2_has (X : cx p s m meth c args cX2_has 2 (some .boolean) RX2 D [(cI, .int)]) (hN : nj ad 34) {σ : St} {a1 : Int32} {r : Int32} (hf : f_X2_has a1 σ = some r) {H : Heap} {locs : List Loc} {ls : Array Slot} (hP : va_P D vwCl (wC ad cI σ) H) (hS : va_S (aw ad 34) s.heap H locs) (hl : lv_has ls 2 [(0, .ref (ad 3)), (1, .int a1)]) : W p l e rm_X2_has s m args below meth c H locs 0 0 (MQ below (qI D (wC ad cI) (aw ad 34) r σ) args s 0 0 (aw ad 34)) (F0 m 0 ls []) := by
  obtain ⟨hx, hb, hml, hown, hts, hr, hlk, hK⟩ := id X
  rw [f_X2_has] at hf
  refine lv_iload_n hx hb dX2_has_0 rfl (lv_at hl 1 rfl) ?_
  refine lv_if_lt (tgt := 16) hx hb dX2_has_1 (by decide) (fun hq => ?_) (fun hq => ?_)
  · have hf := if_t hq hf
    refine lv_iconst (v := 0) hx hb dX2_has_16 rfl ?_
    exact rZ X hP hS hf dX2_has_17
  · have hf := if_f hq hf
    refine lv_iload_n hx hb dX2_has_4 rfl (lv_at hl 1 rfl) ?_
    refine lv_aload_n hx hb dX2_has_5 rfl (lv_at hl 0 rfl) ?_
    obtain ⟨x1, e_x1, hf⟩ := lf_some hf
    refine fg_X2_27 X hP e_x1 dX2_has_6 ?_
    refine lv_icmp_ge (tgt := 16) hx hb dX2_has_9 (by decide) (fun hq => ?_) (fun hq => ?_)
    · have hf := if_t hq hf
      refine lv_iconst (v := 0) hx hb dX2_has_16 rfl ?_
      exact rZ X hP hS hf dX2_has_17
    · have hf := if_f hq hf
      refine lv_iconst (v := 1) hx hb dX2_has_12 rfl ?_
      refine lv_goto (tgt := 17) hx hb dX2_has_13 (by decide) ?_
      exact rZ X hP hS hf dX2_has_17
set_option maxHeartbeats 4000000 in
set_option maxRecDepth 100000 in
theorem c_X2_has {l : Launch} {D : va_G} {ad : Nat → Nat} {cI : ClassId} (hN : nj ad 34) {σ : St} {a1 : Int32} {r : Int32} (hf : f_X2_has a1 σ = some r) : Met l yX2_has (.code yX2_has cX2_has 2 (some .boolean) :: wsL_law) rm_X2_has (va_Pc [.ref (ad 3), .int a1] (pw D (wC ad cI) [(cI, .int)] σ)) (qI D (wC ad cI) (aw ad 34) r σ) 0 0 (aw ad 34) :=
  met_mk (by decide) rfl (Nat.le_of_ble_eq_true rfl) (fun p e s m below meth c X hP ls hl => b_X2_has X hN hf hP va_S.rf hl)
set_option maxHeartbeats 4000000 in
set_option maxRecDepth 100000 in
theorem b_X2_add (X : cx p s m meth c args cX2_add 7 (some .int) RX2 D [(cI, .int)]) (hN : nj ad 34) {σ : St} {a1 a2 a3 a4 a5 : Int32} {r : Int32} {σ' : St} (hf : f_X2_add a1 a2 a3 a4 a5 σ = some (r, σ')) {H : Heap} {locs : List Loc} {ls : Array Slot} (hP : va_P D vwCl (wC ad cI σ) H) (hS : va_S (aw ad 34) s.heap H locs) (hl : lv_has ls 7 [(0, .ref (ad 3)), (1, .int a1), (2, .int a2), (3, .int a3), (4, .int a4), (5, .int a5)]) : W p l e rm_X2_add s m args below meth c H locs 0 0 (MQ below (qI D (wC ad cI) (aw ad 34) r σ') args s 0 0 (aw ad 34)) (F0 m 0 ls []) := by
  obtain ⟨hx, hb, hml, hown, hts, hr, hlk, hK⟩ := id X
  rw [f_X2_add] at hf
  refine lv_aload_n hx hb dX2_add_0 rfl (lv_at hl 0 rfl) ?_
  obtain ⟨x1, e_x1, hf⟩ := lf_some hf
  refine fg_X2_27 X hP e_x1 dX2_add_1 ?_
  refine lv_istore (lv' := [(6, .int x1), (0, .ref (ad 3)), (1, .int a1), (2, .int a2), (3, .int a3), (4, .int a4), (5, .int a5)]) hx hb dX2_add_4 hl (by decide) rfl (fun ls hl => ?_)
  refine lv_aload_n hx hb dX2_add_6 rfl (lv_at hl 1 rfl) ?_
  refine fg_X2_9 X hP dX2_add_7 ?_
  refine lv_iload hx hb dX2_add_10 (lv_at hl 0 rfl) ?_
  refine lv_iload_n hx hb dX2_add_12 rfl (lv_at hl 2 rfl) ?_
  obtain ⟨hi, σ2, e_σ2, hf⟩ := sd_some hf
  refine str (t0 := 0) X hP (wC_D hN) hS wC_16 wC_s16 rfl hi e_σ2 dX2_add_13 (fun H locs hP hS => ?_)
  refine lv_aload_n hx hb dX2_add_14 rfl (lv_at hl 1 rfl) ?_
  refine fg_X2_15 X hP dX2_add_15 ?_
  refine lv_iload hx hb dX2_add_18 (lv_at hl 0 rfl) ?_
  refine lv_iload_n hx hb dX2_add_20 rfl (lv_at hl 3 rfl) ?_
  obtain ⟨hi, σ3, e_σ3, hf⟩ := sd_some hf
  refine str (t0 := 0) X hP (wC_D hN) hS wC_17 wC_s17 rfl hi e_σ3 dX2_add_21 (fun H locs hP hS => ?_)
  refine lv_aload_n hx hb dX2_add_22 rfl (lv_at hl 1 rfl) ?_
  refine fg_X2_18 X hP dX2_add_23 ?_
  refine lv_iload hx hb dX2_add_26 (lv_at hl 0 rfl) ?_
  refine lv_iload_n hx hb dX2_add_28 rfl (lv_at hl 4 rfl) ?_
  obtain ⟨hi, σ4, e_σ4, hf⟩ := sd_some hf
  refine str (t0 := 0) X hP (wC_D hN) hS wC_18 wC_s18 rfl hi e_σ4 dX2_add_29 (fun H locs hP hS => ?_)
  refine lv_aload_n hx hb dX2_add_30 rfl (lv_at hl 1 rfl) ?_
  refine fg_X2_21 X hP dX2_add_31 ?_
  refine lv_iload hx hb dX2_add_34 (lv_at hl 0 rfl) ?_
  refine lv_iload hx hb dX2_add_36 (lv_at hl 5 rfl) ?_
  obtain ⟨hi, σ5, e_σ5, hf⟩ := sd_some hf
  refine str (t0 := 0) X hP (wC_D hN) hS wC_19 wC_s19 rfl hi e_σ5 dX2_add_38 (fun H locs hP hS => ?_)
  refine lv_aload_n hx hb dX2_add_39 rfl (lv_at hl 1 rfl) ?_
  refine fg_X2_24 X hP dX2_add_40 ?_
  refine lv_iload hx hb dX2_add_43 (lv_at hl 0 rfl) ?_
  refine lv_iload hx hb dX2_add_45 (lv_at hl 6 rfl) ?_
  obtain ⟨hi, σ6, e_σ6, hf⟩ := sd_some hf
  refine str (t0 := 0) X hP (wC_D hN) hS wC_20 wC_s20 rfl hi e_σ6 dX2_add_47 (fun H locs hP hS => ?_)
  refine lv_aload_n hx hb dX2_add_48 rfl (lv_at hl 1 rfl) ?_
  refine lv_dup hx hb dX2_add_49 rfl ?_
  obtain ⟨x7, e_x7, hf⟩ := lf_some hf
  refine fg_X2_27 X hP e_x7 dX2_add_50 ?_
  refine lv_iconst (v := 1) hx hb dX2_add_53 rfl ?_
  refine lv_iadd hx hb dX2_add_54 ?_
  obtain ⟨σ8, e_σ8, hf⟩ := sf_some hf
  refine fp_X2_27 X hN hP hS e_σ8 dX2_add_55 (fun H locs hP hS => ?_)
  refine lv_iload hx hb dX2_add_58 (lv_at hl 0 rfl) ?_
  exact rIe X hP hS hf dX2_add_60
set_option maxHeartbeats 4000000 in
set_option maxRecDepth 100000 in
theorem c_X2_add {l : Launch} {D : va_G} {ad : Nat → Nat} {cI : ClassId} (hN : nj ad 34) {σ : St} {a1 a2 a3 a4 a5 : Int32} {r : Int32} {σ' : St} (hf : f_X2_add a1 a2 a3 a4 a5 σ = some (r, σ')) : Met l yX2_add (.code yX2_add cX2_add 7 (some .int) :: wsL_law) rm_X2_add (va_Pc [.ref (ad 3), .int a1, .int a2, .int a3, .int a4, .int a5] (pw D (wC ad cI) [(cI, .int)] σ)) (qI D (wC ad cI) (aw ad 34) r σ') 0 0 (aw ad 34) :=
  met_mk (by decide) rfl (Nat.le_of_ble_eq_true rfl) (fun p e s m below meth c X hP ls hl => b_X2_add X hN hf hP va_S.rf hl)
set_option maxHeartbeats 4000000 in
set_option maxRecDepth 100000 in
theorem b_X2_turnAbout_L2 (X : cx p s m meth c args cX2_turnAbout 3 none RX2 D [(cI, .int)]) (hN : nj ad 34) : ∀ (n : Nat) {σ : St} {a1 : Int32} {σ' : St}, f_X2_turnAbout_L2 n a1 σ = some σ' → ∀ {H : Heap} {locs : List Loc} {ls : Array Slot}, va_P D vwCl (wC ad cI σ) H → va_S (aw ad 34) s.heap H locs → lv_has ls 3 [(0, .ref (ad 3)), (1, .int a1)] → W p l e rm_X2_turnAbout s m args below meth c H locs 0 0 (MQ below (qV D (wC ad cI) (aw ad 34) σ') args s 0 0 (aw ad 34)) (F0 m 2 ls []) := by
  intro n
  induction n with
  | zero =>
    intro σ a1 σ' hf
    rw [f_X2_turnAbout_L2] at hf
    cases hf
  | succ n ih =>
    intro σ a1 σ' hf H locs ls hP hS hl
    obtain ⟨hx, hb, hml, hown, hts, hr, hlk, hK⟩ := id X
    rw [f_X2_turnAbout_L2] at hf
    refine lv_iload_n hx hb dX2_turnAbout_2 rfl (lv_at hl 1 rfl) ?_
    refine lv_aload_n hx hb dX2_turnAbout_3 rfl (lv_at hl 0 rfl) ?_
    obtain ⟨x1, e_x1, hf⟩ := lf_some hf
    refine fg_X2_27 X hP e_x1 dX2_turnAbout_4 ?_
    refine lv_icmp_ge (tgt := 75) hx hb dX2_turnAbout_7 (by decide) (fun hq => ?_) (fun hq => ?_)
    · have hf := if_t hq hf
      exact rVe X hP hS hf dX2_turnAbout_75
    · have hf := if_f hq hf
      refine lv_aload_n hx hb dX2_turnAbout_10 rfl (lv_at hl 0 rfl) ?_
      refine fg_X2_15 X hP dX2_turnAbout_11 ?_
      refine lv_iload_n hx hb dX2_turnAbout_14 rfl (lv_at hl 1 rfl) ?_
      obtain ⟨hi, x2, e_x2, hf⟩ := ld_some hf
      refine ldr (t0 := 0) X hP wC_17 rfl hi e_x2 dX2_turnAbout_15 ?_
      refine lv_if_ne (tgt := 37) hx hb dX2_turnAbout_16 (by decide) (fun hq => ?_) (fun hq => ?_)
      · have hf := if_f hq hf
        refine lv_bipush (v := 7) hx hb dX2_turnAbout_37 rfl ?_
        refine lv_aload_n hx hb dX2_turnAbout_39 rfl (lv_at hl 0 rfl) ?_
        refine fg_X2_24 X hP dX2_turnAbout_40 ?_
        refine lv_iload_n hx hb dX2_turnAbout_43 rfl (lv_at hl 1 rfl) ?_
        obtain ⟨hi, x3, e_x3, hf⟩ := ld_some hf
        refine ldr (t0 := 0) X hP wC_20 rfl hi e_x3 dX2_turnAbout_44 ?_
        refine lv_isub hx hb dX2_turnAbout_45 ?_
        refine lv_istore_n (lv' := [(2, .int (7 - x3)), (0, .ref (ad 3)), (1, .int a1)]) hx hb dX2_turnAbout_46 rfl hl (by decide) rfl (fun ls hl => ?_)
        refine lv_aload_n hx hb dX2_turnAbout_47 rfl (lv_at hl 1 rfl) ?_
        refine fg_X2_24 X hP dX2_turnAbout_48 ?_
        refine lv_iload_n hx hb dX2_turnAbout_51 rfl (lv_at hl 2 rfl) ?_
        refine lv_bipush (v := 7) hx hb dX2_turnAbout_52 rfl ?_
        refine lv_aload_n hx hb dX2_turnAbout_54 rfl (lv_at hl 1 rfl) ?_
        refine fg_X2_21 X hP dX2_turnAbout_55 ?_
        refine lv_iload_n hx hb dX2_turnAbout_58 rfl (lv_at hl 2 rfl) ?_
        obtain ⟨hi, x4, e_x4, hf⟩ := ld_some hf
        refine ldr (t0 := 0) X hP wC_19 rfl hi e_x4 dX2_turnAbout_59 ?_
        refine lv_isub hx hb dX2_turnAbout_60 ?_
        obtain ⟨hi, σ5, e_σ5, hf⟩ := sd_some hf
        refine str (t0 := 0) X hP (wC_D hN) hS wC_20 wC_s20 rfl hi e_σ5 dX2_turnAbout_61 (fun H locs hP hS => ?_)
        refine lv_aload_n hx hb dX2_turnAbout_62 rfl (lv_at hl 1 rfl) ?_
        refine fg_X2_21 X hP dX2_turnAbout_63 ?_
        refine lv_iload_n hx hb dX2_turnAbout_66 rfl (lv_at hl 2 rfl) ?_
        refine lv_iload_n hx hb dX2_turnAbout_67 rfl (lv_at hl 0 rfl) ?_
        obtain ⟨hi, σ6, e_σ6, hf⟩ := sd_some hf
        refine str (t0 := 0) X hP (wC_D hN) hS wC_19 wC_s19 rfl hi e_σ6 dX2_turnAbout_68 (fun H locs hP hS => ?_)
        refine lv_iinc (v := (a1 + 1)) (lv' := [(1, .int (a1 + 1)), (2, .int (7 - x3)), (0, .ref (ad 3))]) hx hb dX2_turnAbout_69 hl (k := 2) rfl rfl (by decide) rfl (fun ls hl => ?_)
        refine lv_goto (tgt := 2) hx hb dX2_turnAbout_72 (by decide) ?_
        exact ih hf hP hS (lv_sub hl [2, 0] rfl)
      · have hf := if_t hq hf
        refine lv_aload_n hx hb dX2_turnAbout_19 rfl (lv_at hl 0 rfl) ?_
        refine fg_X2_18 X hP dX2_turnAbout_20 ?_
        refine lv_iload_n hx hb dX2_turnAbout_23 rfl (lv_at hl 1 rfl) ?_
        refine lv_bipush (v := 8) hx hb dX2_turnAbout_24 rfl ?_
        refine lv_aload_n hx hb dX2_turnAbout_26 rfl (lv_at hl 0 rfl) ?_
        refine fg_X2_18 X hP dX2_turnAbout_27 ?_
        refine lv_iload_n hx hb dX2_turnAbout_30 rfl (lv_at hl 1 rfl) ?_
        obtain ⟨hi, x7, e_x7, hf⟩ := ld_some hf
        refine ldr (t0 := 0) X hP wC_18 rfl hi e_x7 dX2_turnAbout_31 ?_
        refine lv_isub hx hb dX2_turnAbout_32 ?_
        obtain ⟨hi, σ8, e_σ8, hf⟩ := sd_some hf
        refine str (t0 := 0) X hP (wC_D hN) hS wC_18 wC_s18 rfl hi e_σ8 dX2_turnAbout_33 (fun H locs hP hS => ?_)
        refine lv_goto (tgt := 69) hx hb dX2_turnAbout_34 (by decide) ?_
        refine lv_iinc (v := (a1 + 1)) (lv' := [(1, .int (a1 + 1)), (0, .ref (ad 3))]) hx hb dX2_turnAbout_69 hl (k := 1) rfl rfl (by decide) rfl (fun ls hl => ?_)
        refine lv_goto (tgt := 2) hx hb dX2_turnAbout_72 (by decide) ?_
        exact ih hf hP hS (lv_sub hl [1, 0] rfl)
set_option maxHeartbeats 4000000 in
set_option maxRecDepth 100000 in
theorem b_X2_turnAbout (X : cx p s m meth c args cX2_turnAbout 3 none RX2 D [(cI, .int)]) (hN : nj ad 34) {σ : St} {σ' : St} (hf : f_X2_turnAbout σ = some σ') {H : Heap} {locs : List Loc} {ls : Array Slot} (hP : va_P D vwCl (wC ad cI σ) H) (hS : va_S (aw ad 34) s.heap H locs) (hl : lv_has ls 3 [(0, .ref (ad 3))]) : W p l e rm_X2_turnAbout s m args below meth c H locs 0 0 (MQ below (qV D (wC ad cI) (aw ad 34) σ') args s 0 0 (aw ad 34)) (F0 m 0 ls []) := by
  obtain ⟨hx, hb, hml, hown, hts, hr, hlk, hK⟩ := id X
  rw [f_X2_turnAbout] at hf
  refine lv_iconst (v := 0) hx hb dX2_turnAbout_0 rfl ?_
  refine lv_istore_n (lv' := [(1, .int 0), (0, .ref (ad 3))]) hx hb dX2_turnAbout_1 rfl hl (by decide) rfl (fun ls hl => ?_)
  exact b_X2_turnAbout_L2 X hN _ hf hP hS (lv_sub hl [1, 0] rfl)
set_option maxHeartbeats 4000000 in
set_option maxRecDepth 100000 in
theorem c_X2_turnAbout {l : Launch} {D : va_G} {ad : Nat → Nat} {cI : ClassId} (hN : nj ad 34) {σ : St} {σ' : St} (hf : f_X2_turnAbout σ = some σ') : Met l yX2_turnAbout (.code yX2_turnAbout cX2_turnAbout 3 none :: wsL_law) rm_X2_turnAbout (va_Pc [.ref (ad 3)] (pw D (wC ad cI) [(cI, .int)] σ)) (qV D (wC ad cI) (aw ad 34) σ') 0 0 (aw ad 34) :=
  met_mk (by decide) rfl (Nat.le_of_ble_eq_true rfl) (fun p e s m below meth c X hP ls hl => b_X2_turnAbout X hN hf hP va_S.rf hl)
end WALK
