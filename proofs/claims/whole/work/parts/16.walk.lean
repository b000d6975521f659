section WALK
variable {p : Program} {l : Launch} {e : Env} {s : State} {m : MethodId} {args : Array Value} {below : List Frame} {meth : Method} {c : Code} {D : va_G} {ad : Nat → Nat} {cI cZ : ClassId}
set_option maxHeartbeats 4000000 in
set_option maxRecDepth 100000 in
theorem b_X7_ofBlock (X : cx p s m meth c args cX7_ofBlock 3 (some .int) RX7 D [(cI, .int), (cZ, .boolean)]) (hN : nj ad 30) {σ : St} {a1 a2 : Int32} {r : Int32} (hf : f_X7_ofBlock a1 a2 σ = some r) {H : Heap} {locs : List Loc} {ls : Array Slot} (hP : va_P D vwCl (wM ad cI cZ σ) H) (hS : va_S (aw ad 30) s.heap H locs) (hl : lv_has ls 3 [(0, .ref (ad 0)), (1, .int a1), (2, .int a2)]) : W p l e rm_X7_ofBlock s m args below meth c H locs 0 0 (MQ below (qI D (wM ad cI cZ) (aw ad 30) r σ) args s 0 0 (aw ad 30)) (F0 m 0 ls []) := by
  obtain ⟨hx, hb, hml, hown, hts, hr, hlk, hK⟩ := id X
  rw [f_X7_ofBlock] at hf
  refine lv_aload_n hx hb dX7_ofBlock_0 rfl (lv_at hl 0 rfl) ?_
  refine lv_iload_n hx hb dX7_ofBlock_1 rfl (lv_at hl 1 rfl) ?_
  obtain ⟨x1, hc, hf⟩ := bi_some hf
  refine kVi (As := [.int a1]) (rest := []) (wd := (wM ad cI cZ)) (q0 := 0) (ci := 7) X (c_X7_isBlock (l := l) (D := D) (σ := σ) hN hc) (cw_X7_110 X.2.2.2.2.1 ⟨Nat.le_of_ble_eq_true rfl, Nat.le_of_ble_eq_true rfl⟩) rfl rfl hP hS hl rfl rfl (Nat.le_of_ble_eq_true rfl) dX7_ofBlock_2 (fun H locs hP hS => ?_)
  refine lv_if_ne (tgt := 10) hx hb dX7_ofBlock_5 (by decide) (fun hq => ?_) (fun hq => ?_)
  · have hf := if_f hq hf
    refine lv_iload_n hx hb dX7_ofBlock_10 rfl (lv_at hl 2 rfl) ?_
    by_cases q0 : a2 = 0
    · have hf := if_t q0 hf
      refine lv_tableIn (off := 41) (tgt := 52) hx hb dX7_ofBlock_11 (by rw [q0]; decide) (by rw [q0]; decide) (by rw [q0]; rfl) (by decide) ?_
      refine lv_aload_n hx hb dX7_ofBlock_52 rfl (lv_at hl 0 rfl) ?_
      refine fg_X7_7 X hP dX7_ofBlock_53 ?_
      refine lv_iload_n hx hb dX7_ofBlock_56 rfl (lv_at hl 1 rfl) ?_
      obtain ⟨hi, x2, e_x2, hf⟩ := ld_some hf
      refine ldr (t0 := 0) X hP wM_1 rfl hi e_x2 dX7_ofBlock_57 ?_
      exact rI X hP hS hf dX7_ofBlock_58
    · have hf := if_f q0 hf
      by_cases q1 : a2 = 1
      · have hf := if_t q1 hf
        refine lv_tableIn (off := 48) (tgt := 59) hx hb dX7_ofBlock_11 (by rw [q1]; decide) (by rw [q1]; decide) (by rw [q1]; rfl) (by decide) ?_
        refine lv_aload_n hx hb dX7_ofBlock_59 rfl (lv_at hl 0 rfl) ?_
        refine fg_X7_13 X hP dX7_ofBlock_60 ?_
        refine lv_iload_n hx hb dX7_ofBlock_63 rfl (lv_at hl 1 rfl) ?_
        obtain ⟨hi, x3, e_x3, hf⟩ := ld_some hf
        refine ldr (t0 := 0) X hP wM_2 rfl hi e_x3 dX7_ofBlock_64 ?_
        exact rI X hP hS hf dX7_ofBlock_65
      · have hf := if_f q1 hf
        by_cases q2 : a2 = 2
        · have hf := if_t q2 hf
          refine lv_tableIn (off := 55) (tgt := 66) hx hb dX7_ofBlock_11 (by rw [q2]; decide) (by rw [q2]; decide) (by rw [q2]; rfl) (by decide) ?_
          refine lv_aload_n hx hb dX7_ofBlock_66 rfl (lv_at hl 0 rfl) ?_
          refine fg_X7_16 X hP dX7_ofBlock_67 ?_
          refine lv_iload_n hx hb dX7_ofBlock_70 rfl (lv_at hl 1 rfl) ?_
          obtain ⟨hi, x4, e_x4, hf⟩ := ld_some hf
          refine ldr (t0 := 0) X hP wM_3 rfl hi e_x4 dX7_ofBlock_71 ?_
          exact rI X hP hS hf dX7_ofBlock_72
        · have hf := if_f q2 hf
          by_cases q3 : a2 = 3
          · have hf := if_t q3 hf
            refine lv_tableIn (off := 62) (tgt := 73) hx hb dX7_ofBlock_11 (by rw [q3]; decide) (by rw [q3]; decide) (by rw [q3]; rfl) (by decide) ?_
            refine lv_aload_n hx hb dX7_ofBlock_73 rfl (lv_at hl 0 rfl) ?_
            refine fg_X7_19 X hP dX7_ofBlock_74 ?_
            refine lv_iload_n hx hb dX7_ofBlock_77 rfl (lv_at hl 1 rfl) ?_
            obtain ⟨hi, x5, e_x5, hf⟩ := ld_some hf
            refine ldr (t0 := 0) X hP wM_4 rfl hi e_x5 dX7_ofBlock_78 ?_
            exact rI X hP hS hf dX7_ofBlock_79
          · have hf := if_f q3 hf
            by_cases q4 : a2 = 4
            · have hf := if_t q4 hf
              refine lv_tableIn (off := 69) (tgt := 80) hx hb dX7_ofBlock_11 (by rw [q4]; decide) (by rw [q4]; decide) (by rw [q4]; rfl) (by decide) ?_
              refine lv_aload_n hx hb dX7_ofBlock_80 rfl (lv_at hl 0 rfl) ?_
              refine fg_X7_22 X hP dX7_ofBlock_81 ?_
              refine lv_iload_n hx hb dX7_ofBlock_84 rfl (lv_at hl 1 rfl) ?_
              obtain ⟨hi, x6, e_x6, hf⟩ := ld_some hf
              refine ldr (t0 := 0) X hP wM_5 rfl hi e_x6 dX7_ofBlock_85 ?_
              exact rI X hP hS hf dX7_ofBlock_86
            · have hf := if_f q4 hf
              by_cases q5 : a2 = 5
              · have hf := if_t q5 hf
                refine lv_tableIn (off := 76) (tgt := 87) hx hb dX7_ofBlock_11 (by rw [q5]; decide) (by rw [q5]; decide) (by rw [q5]; rfl) (by decide) ?_
                refine lv_aload_n hx hb dX7_ofBlock_87 rfl (lv_at hl 0 rfl) ?_
                refine fg_X7_25 X hP dX7_ofBlock_88 ?_
                refine lv_iload_n hx hb dX7_ofBlock_91 rfl (lv_at hl 1 rfl) ?_
                obtain ⟨hi, x7, e_x7, hf⟩ := ld_some hf
                refine ldr (t0 := 0) X hP wM_6 rfl hi e_x7 dX7_ofBlock_92 ?_
                exact rI X hP hS hf dX7_ofBlock_93
              · have hf := if_f q5 hf
                by_cases q6 : a2 = 6
                · have hf := if_t q6 hf
                  refine lv_tableIn (off := 83) (tgt := 94) hx hb dX7_ofBlock_11 (by rw [q6]; decide) (by rw [q6]; decide) (by rw [q6]; rfl) (by decide) ?_
                  refine lv_aload_n hx hb dX7_ofBlock_94 rfl (lv_at hl 0 rfl) ?_
                  refine fg_X7_28 X hP dX7_ofBlock_95 ?_
                  refine lv_iload_n hx hb dX7_ofBlock_98 rfl (lv_at hl 1 rfl) ?_
                  obtain ⟨hi, x8, e_x8, hf⟩ := ld_some hf
                  refine ldr (t0 := 0) X hP wM_7 rfl hi e_x8 dX7_ofBlock_99 ?_
                  exact rI X hP hS hf dX7_ofBlock_100
                · have hf := if_f q6 hf
                  refine lv_tableOut (tgt := 101) hx hb dX7_ofBlock_11 (sw_out 6 (by decide) (fun j hj => ?_)) (by decide) ?_
                  · match j, hj with
                    | 0, _ => exact q0
                    | 1, _ => exact q1
                    | 2, _ => exact q2
                    | 3, _ => exact q3
                    | 4, _ => exact q4
                    | 5, _ => exact q5
                    | 6, _ => exact q6
                    | j + 7, hj => exact absurd hj (by omega)
                  · refine lv_bipush (v := (-2)) hx hb dX7_ofBlock_101 rfl ?_
                    exact rI X hP hS hf dX7_ofBlock_103
  · have hf := if_t hq hf
    refine lv_iconst (v := (-1)) hx hb dX7_ofBlock_8 rfl ?_
    exact rI X hP hS hf dX7_ofBlock_9
set_option maxHeartbeats 4000000 in
set_option maxRecDepth 100000 in
theorem c_X7_ofBlock {l : Launch} {D : va_G} {ad : Nat → Nat} {cI cZ : ClassId} (hN : nj ad 30) {σ : St} {a1 a2 : Int32} {r : Int32} (hf : f_X7_ofBlock a1 a2 σ = some r) : Met l yX7_ofBlock (.code yX7_ofBlock cX7_ofBlock 3 (some .int) :: wsL_law) rm_X7_ofBlock (va_Pc [.ref (ad 0), .int a1, .int a2] (pw D (wM ad cI cZ) [(cI, .int), (cZ, .boolean)] σ)) (qI D (wM ad cI cZ) (aw ad 30) r σ) 0 0 (aw ad 30) :=
  met_mk (by decide) rfl (Nat.le_of_ble_eq_true rfl) (fun p e s m below meth c X hP ls hl => b_X7_ofBlock X hN hf hP va_S.rf hl)
set_option maxHeartbeats 4000000 in
set_option maxRecDepth 100000 in
theorem b_X7_ofLine (X : cx p s m meth c args cX7_ofLine 3 (some .int) RX7 D [(cI, .int), (cZ, .boolean)]) (hN : nj ad 30) {σ : St} {a1 a2 : Int32} {r : Int32} (hf : f_X7_ofLine a1 a2 σ = some r) {H : Heap} {locs : List Loc} {ls : Array Slot} (hP : va_P D vwCl (wM ad cI cZ σ) H) (hS : va_S (aw ad 30) s.heap H locs) (hl : lv_has ls 3 [(0, .ref (ad 0)), (1, .int a1), (2, .int a2)]) : W p l e rm_X7_ofLine s m args below meth c H locs 0 0 (MQ below (qI D (wM ad cI cZ) (aw ad 30) r σ) args s 0 0 (aw ad 30)) (F0 m 0 ls []) := by
  obtain ⟨hx, hb, hml, hown, hts, hr, hlk, hK⟩ := id X
  rw [f_X7_ofLine] at hf
  refine lv_iload_n hx hb dX7_ofLine_0 rfl (lv_at hl 1 rfl) ?_
  refine lv_iconst (v := 0) hx hb dX7_ofLine_1 rfl ?_
  refine lv_aload_n hx hb dX7_ofLine_2 rfl (lv_at hl 0 rfl) ?_
  obtain ⟨x1, e_x1, hf⟩ := lf_some hf
  refine fg_X7_114 X hP e_x1 dX7_ofLine_3 ?_
  refine lv_iconst (v := 1) hx hb dX7_ofLine_6 rfl ?_
  refine lv_isub hx hb dX7_ofLine_7 ?_
  obtain ⟨x2, hc, hf⟩ := bi_some hf
  refine kSi (As := [.int a1, .int 0, .int (x1 - 1)]) (rest := []) (wd := (wM ad cI cZ)) X (c_X7_within (l := l) (D := D) (σ := σ) hN hc) (cw_X7_102 X.2.2.2.2.1 ⟨Nat.le_of_ble_eq_true rfl, Nat.le_of_ble_eq_true rfl⟩) hP hS hl rfl rfl (Nat.le_of_ble_eq_true rfl) dX7_ofLine_8 (fun H locs hP hS => ?_)
  refine lv_if_ne (tgt := 16) hx hb dX7_ofLine_11 (by decide) (fun hq => ?_) (fun hq => ?_)
  · have hf := if_f hq hf
    refine lv_iload_n hx hb dX7_ofLine_16 rfl (lv_at hl 2 rfl) ?_
    by_cases q0 : a2 = 0
    · have hf := if_t q0 hf
      refine lv_tableIn (off := 35) (tgt := 52) hx hb dX7_ofLine_17 (by rw [q0]; decide) (by rw [q0]; decide) (by rw [q0]; rfl) (by decide) ?_
      refine lv_aload_n hx hb dX7_ofLine_52 rfl (lv_at hl 0 rfl) ?_
      refine fg_X7_37 X hP dX7_ofLine_53 ?_
      refine lv_iload_n hx hb dX7_ofLine_56 rfl (lv_at hl 1 rfl) ?_
      obtain ⟨hi, x3, e_x3, hf⟩ := ld_some hf
      refine ldr (t0 := 0) X hP wM_10 rfl hi e_x3 dX7_ofLine_57 ?_
      exact rI X hP hS hf dX7_ofLine_58
    · have hf := if_f q0 hf
      by_cases q1 : a2 = 1
      · have hf := if_t q1 hf
        refine lv_tableIn (off := 42) (tgt := 59) hx hb dX7_ofLine_17 (by rw [q1]; decide) (by rw [q1]; decide) (by rw [q1]; rfl) (by decide) ?_
        refine lv_aload_n hx hb dX7_ofLine_59 rfl (lv_at hl 0 rfl) ?_
        refine fg_X7_40 X hP dX7_ofLine_60 ?_
        refine lv_iload_n hx hb dX7_ofLine_63 rfl (lv_at hl 1 rfl) ?_
        obtain ⟨hi, x4, e_x4, hf⟩ := ld_some hf
        refine ldr (t0 := 0) X hP wM_11 rfl hi e_x4 dX7_ofLine_64 ?_
        exact rI X hP hS hf dX7_ofLine_65
      · have hf := if_f q1 hf
        by_cases q2 : a2 = 2
        · have hf := if_t q2 hf
          refine lv_tableIn (off := 49) (tgt := 66) hx hb dX7_ofLine_17 (by rw [q2]; decide) (by rw [q2]; decide) (by rw [q2]; rfl) (by decide) ?_
          refine lv_aload_n hx hb dX7_ofLine_66 rfl (lv_at hl 0 rfl) ?_
          refine fg_X7_43 X hP dX7_ofLine_67 ?_
          refine lv_iload_n hx hb dX7_ofLine_70 rfl (lv_at hl 1 rfl) ?_
          obtain ⟨hi, x5, e_x5, hf⟩ := ld_some hf
          refine ldr (t0 := 0) X hP wM_12 rfl hi e_x5 dX7_ofLine_71 ?_
          exact rI X hP hS hf dX7_ofLine_72
        · have hf := if_f q2 hf
          by_cases q3 : a2 = 3
          · have hf := if_t q3 hf
            refine lv_tableIn (off := 56) (tgt := 73) hx hb dX7_ofLine_17 (by rw [q3]; decide) (by rw [q3]; decide) (by rw [q3]; rfl) (by decide) ?_
            refine lv_aload_n hx hb dX7_ofLine_73 rfl (lv_at hl 0 rfl) ?_
            refine fg_X7_46 X hP dX7_ofLine_74 ?_
            refine lv_iload_n hx hb dX7_ofLine_77 rfl (lv_at hl 1 rfl) ?_
            obtain ⟨hi, x6, e_x6, hf⟩ := ld_some hf
            refine ldr (t0 := 0) X hP wM_13 rfl hi e_x6 dX7_ofLine_78 ?_
            exact rI X hP hS hf dX7_ofLine_79
          · have hf := if_f q3 hf
            by_cases q4 : a2 = 4
            · have hf := if_t q4 hf
              refine lv_tableIn (off := 63) (tgt := 80) hx hb dX7_ofLine_17 (by rw [q4]; decide) (by rw [q4]; decide) (by rw [q4]; rfl) (by decide) ?_
              refine lv_aload_n hx hb dX7_ofLine_80 rfl (lv_at hl 0 rfl) ?_
              refine fg_X7_49 X hP dX7_ofLine_81 ?_
              refine lv_iload_n hx hb dX7_ofLine_84 rfl (lv_at hl 1 rfl) ?_
              obtain ⟨hi, x7, e_x7, hf⟩ := ld_some hf
              refine ldr (t0 := 0) X hP wM_14 rfl hi e_x7 dX7_ofLine_85 ?_
              exact rI X hP hS hf dX7_ofLine_86
            · have hf := if_f q4 hf
              refine lv_tableOut (tgt := 87) hx hb dX7_ofLine_17 (sw_out 4 (by decide) (fun j hj => ?_)) (by decide) ?_
              · match j, hj with
                | 0, _ => exact q0
                | 1, _ => exact q1
                | 2, _ => exact q2
                | 3, _ => exact q3
                | 4, _ => exact q4
                | j + 5, hj => exact absurd hj (by omega)
              · refine lv_bipush (v := (-2)) hx hb dX7_ofLine_87 rfl ?_
                exact rI X hP hS hf dX7_ofLine_89
  · have hf := if_t hq hf
    refine lv_iconst (v := (-1)) hx hb dX7_ofLine_14 rfl ?_
    exact rI X hP hS hf dX7_ofLine_15
set_option maxHeartbeats 4000000 in
set_option maxRecDepth 100000 in
theorem c_X7_ofLine {l : Launch} {D : va_G} {ad : Nat → Nat} {cI cZ : ClassId} (hN : nj ad 30) {σ : St} {a1 a2 : Int32} {r : Int32} (hf : f_X7_ofLine a1 a2 σ = some r) : Met l yX7_ofLine (.code yX7_ofLine cX7_ofLine 3 (some .int) :: wsL_law) rm_X7_ofLine (va_Pc [.ref (ad 0), .int a1, .int a2] (pw D (wM ad cI cZ) [(cI, .int), (cZ, .boolean)] σ)) (qI D (wM ad cI cZ) (aw ad 30) r σ) 0 0 (aw ad 30) :=
  met_mk (by decide) rfl (Nat.le_of_ble_eq_true rfl) (fun p e s m below meth c X hP ls hl => b_X7_ofLine X hN hf hP va_S.rf hl)
set_option maxHeartbeats 4000000 in
set_option maxRecDepth 100000 in
theorem b_X7_at_L35 (X : cx p s m meth c args cX7_at 5 (some .int) RX7 D [(cI, .int), (cZ, .boolean)]) (hN : nj ad 30) : ∀ (n : Nat) {σ : St} {a1 a2 a3 a4 : Int32} {r : Int32}, f_X7_at_L35 σ n a1 a2 a3 a4 = some r → ∀ {H : Heap} {locs : List Loc} {ls : Array Slot}, va_P D vwCl (wM ad cI cZ σ) H → va_S (aw ad 30) s.heap H locs → lv_has ls 5 [(0, .ref (ad 0)), (1, .int a1), (2, .int a2), (3, .int a3), (4, .int a4)] → W p l e rm_X7_at s m args below meth c H locs 0 0 (MQ below (qI D (wM ad cI cZ) (aw ad 30) r σ) args s 0 0 (aw ad 30)) (F0 m 35 ls []) := by
  intro n
  induction n with
  | zero =>
    intro σ a1 a2 a3 a4 r hf
    rw [f_X7_at_L35] at hf
    cases hf
  | succ n ih =>
    intro σ a1 a2 a3 a4 r hf H locs ls hP hS hl
    obtain ⟨hx, hb, hml, hown, hts, hr, hlk, hK⟩ := id X
    rw [f_X7_at_L35] at hf
    refine lv_iload hx hb dX7_at_35 (lv_at hl 4 rfl) ?_
    refine lv_aload_n hx hb dX7_at_37 rfl (lv_at hl 0 rfl) ?_
    obtain ⟨x1, e_x1, hf⟩ := lf_some hf
    refine fg_X7_98 X hP e_x1 dX7_at_38 ?_
    refine lv_icmp_ge (tgt := 77) hx hb dX7_at_41 (by decide) (fun hq => ?_) (fun hq => ?_)
    · have hf := if_t hq hf
      refine lv_bipush (v := (-9)) hx hb dX7_at_77 rfl ?_
      exact rI X hP hS hf dX7_at_79
    · have hf := if_f hq hf
      refine lv_aload_n hx hb dX7_at_44 rfl (lv_at hl 0 rfl) ?_
      refine fg_X7_7 X hP dX7_at_45 ?_
      refine lv_iload hx hb dX7_at_48 (lv_at hl 4 rfl) ?_
      obtain ⟨hi, x2, e_x2, hf⟩ := ld_some hf
      refine ldr (t0 := 0) X hP wM_1 rfl hi e_x2 dX7_at_50 ?_
      refine lv_iload_n hx hb dX7_at_51 rfl (lv_at hl 1 rfl) ?_
      refine lv_icmp_ne (tgt := 71) hx hb dX7_at_52 (by decide) (fun hq => ?_) (fun hq => ?_)
      · have hf := if_f hq hf
        refine lv_iinc (v := (a4 + 1)) (lv' := [(4, .int (a4 + 1)), (0, .ref (ad 0)), (1, .int a1), (2, .int a2), (3, .int a3)]) hx hb dX7_at_71 hl (k := 4) rfl rfl (by decide) rfl (fun ls hl => ?_)
        refine lv_goto (tgt := 35) hx hb dX7_at_74 (by decide) ?_
        exact ih hf hP hS (lv_sub hl [1, 2, 3, 4, 0] rfl)
      · have hf := if_t hq hf
        refine lv_aload_n hx hb dX7_at_55 rfl (lv_at hl 0 rfl) ?_
        refine lv_iload hx hb dX7_at_56 (lv_at hl 4 rfl) ?_
        refine lv_iload_n hx hb dX7_at_58 rfl (lv_at hl 2 rfl) ?_
        refine lv_iload_n hx hb dX7_at_59 rfl (lv_at hl 2 rfl) ?_
        refine lv_iload_n hx hb dX7_at_60 rfl (lv_at hl 3 rfl) ?_
        refine lv_iload_n hx hb dX7_at_61 rfl (lv_at hl 3 rfl) ?_
        obtain ⟨x3, hc, hf⟩ := bi_some hf
        refine kVi (As := [.int a4, .int a2, .int a2, .int a3, .int a3]) (rest := []) (wd := (wM ad cI cZ)) (q0 := 0) (ci := 7) X (c_X7_isMeeting (l := l) (D := D) (σ := σ) hN hc) (cw_X7_106 X.2.2.2.2.1 ⟨Nat.le_of_ble_eq_true rfl, Nat.le_of_ble_eq_true rfl⟩) rfl rfl hP hS hl rfl rfl (Nat.le_of_ble_eq_true rfl) dX7_at_62 (fun H locs hP hS => ?_)
        refine lv_if_eq (tgt := 71) hx hb dX7_at_65 (by decide) (fun hq => ?_) (fun hq => ?_)
        · have hf := if_t hq hf
          refine lv_iinc (v := (a4 + 1)) (lv' := [(4, .int (a4 + 1)), (0, .ref (ad 0)), (1, .int a1), (2, .int a2), (3, .int a3)]) hx hb dX7_at_71 hl (k := 4) rfl rfl (by decide) rfl (fun ls hl => ?_)
          refine lv_goto (tgt := 35) hx hb dX7_at_74 (by decide) ?_
          exact ih hf hP hS (lv_sub hl [1, 2, 3, 4, 0] rfl)
        · have hf := if_f hq hf
          refine lv_iload hx hb dX7_at_68 (lv_at hl 4 rfl) ?_
          exact rI X hP hS hf dX7_at_70
set_option maxHeartbeats 4000000 in
set_option maxRecDepth 100000 in
theorem b_X7_at (X : cx p s m meth c args cX7_at 5 (some .int) RX7 D [(cI, .int), (cZ, .boolean)]) (hN : nj ad 30) {σ : St} {a1 a2 a3 : Int32} {r : Int32} (hf : f_X7_at a1 a2 a3 σ = some r) {H : Heap} {locs : List Loc} {ls : Array Slot} (hP : va_P D vwCl (wM ad cI cZ σ) H) (hS : va_S (aw ad 30) s.heap H locs) (hl : lv_has ls 5 [(0, .ref (ad 0)), (1, .int a1), (2, .int a2), (3, .int a3)]) : W p l e rm_X7_at s m args below meth c H locs 0 0 (MQ below (qI D (wM ad cI cZ) (aw ad 30) r σ) args s 0 0 (aw ad 30)) (F0 m 0 ls []) := by
  obtain ⟨hx, hb, hml, hown, hts, hr, hlk, hK⟩ := id X
  rw [f_X7_at] at hf
  refine lv_iload_n hx hb dX7_at_0 rfl (lv_at hl 1 rfl) ?_
  refine lv_iconst (v := 0) hx hb dX7_at_1 rfl ?_
  refine lv_iconst (v := 3) hx hb dX7_at_2 rfl ?_
  obtain ⟨x1, hc, hf⟩ := bi_some hf
  refine kSi (As := [.int a1, .int 0, .int 3]) (rest := []) (wd := (wM ad cI cZ)) X (c_X7_within (l := l) (D := D) (σ := σ) hN hc) (cw_X7_102 X.2.2.2.2.1 ⟨Nat.le_of_ble_eq_true rfl, Nat.le_of_ble_eq_true rfl⟩) hP hS hl rfl rfl (Nat.le_of_ble_eq_true rfl) dX7_at_3 (fun H locs hP hS => ?_)
  refine lv_if_eq (tgt := 29) hx hb dX7_at_6 (by decide) (fun hq => ?_) (fun hq => ?_)
  · have hf := if_t hq hf
    refine lv_bipush (v := (-2)) hx hb dX7_at_29 rfl ?_
    exact rI X hP hS hf dX7_at_31
  · have hf := if_f hq hf
    refine lv_iload_n hx hb dX7_at_9 rfl (lv_at hl 2 rfl) ?_
    refine lv_iconst (v := 0) hx hb dX7_at_10 rfl ?_
    refine lv_bipush (v := 7) hx hb dX7_at_11 rfl ?_
    obtain ⟨x2, hc, hf⟩ := bi_some hf
    refine kSi (As := [.int a2, .int 0, .int 7]) (rest := []) (wd := (wM ad cI cZ)) X (c_X7_within (l := l) (D := D) (σ := σ) hN hc) (cw_X7_102 X.2.2.2.2.1 ⟨Nat.le_of_ble_eq_true rfl, Nat.le_of_ble_eq_true rfl⟩) hP hS hl rfl rfl (Nat.le_of_ble_eq_true rfl) dX7_at_13 (fun H locs hP hS => ?_)
    refine lv_if_eq (tgt := 29) hx hb dX7_at_16 (by decide) (fun hq => ?_) (fun hq => ?_)
    · have hf := if_t hq hf
      refine lv_bipush (v := (-2)) hx hb dX7_at_29 rfl ?_
      exact rI X hP hS hf dX7_at_31
    · have hf := if_f hq hf
      refine lv_iload_n hx hb dX7_at_19 rfl (lv_at hl 3 rfl) ?_
      refine lv_iconst (v := 0) hx hb dX7_at_20 rfl ?_
      refine lv_bipush (v := 29) hx hb dX7_at_21 rfl ?_
      obtain ⟨x3, hc, hf⟩ := bi_some hf
      refine kSi (As := [.int a3, .int 0, .int 29]) (rest := []) (wd := (wM ad cI cZ)) X (c_X7_within (l := l) (D := D) (σ := σ) hN hc) (cw_X7_102 X.2.2.2.2.1 ⟨Nat.le_of_ble_eq_true rfl, Nat.le_of_ble_eq_true rfl⟩) hP hS hl rfl rfl (Nat.le_of_ble_eq_true rfl) dX7_at_23 (fun H locs hP hS => ?_)
      refine lv_if_ne (tgt := 32) hx hb dX7_at_26 (by decide) (fun hq => ?_) (fun hq => ?_)
      · have hf := if_f hq hf
        refine lv_iconst (v := 0) hx hb dX7_at_32 rfl ?_
        refine lv_istore (lv' := [(4, .int 0), (0, .ref (ad 0)), (1, .int a1), (2, .int a2), (3, .int a3)]) hx hb dX7_at_33 hl (by decide) rfl (fun ls hl => ?_)
        exact b_X7_at_L35 X hN _ hf hP hS (lv_sub hl [1, 2, 3, 4, 0] rfl)
      · have hf := if_t hq hf
        refine lv_bipush (v := (-2)) hx hb dX7_at_29 rfl ?_
        exact rI X hP hS hf dX7_at_31
set_option maxHeartbeats 4000000 in
set_option maxRecDepth 100000 in
theorem c_X7_at {l : Launch} {D : va_G} {ad : Nat → Nat} {cI cZ : ClassId} (hN : nj ad 30) {σ : St} {a1 a2 a3 : Int32} {r : Int32} (hf : f_X7_at a1 a2 a3 σ = some r) : Met l yX7_at (.code yX7_at cX7_at 5 (some .int) :: wsL_law) rm_X7_at (va_Pc [.ref (ad 0), .int a1, .int a2, .int a3] (pw D (wM ad cI cZ) [(cI, .int), (cZ, .boolean)] σ)) (qI D (wM ad cI cZ) (aw ad 30) r σ) 0 0 (aw ad 30) :=
  met_mk (by decide) rfl (Nat.le_of_ble_eq_true rfl) (fun p e s m below meth c X hP ls hl => b_X7_at X hN hf hP va_S.rf hl)
set_option maxHeartbeats 4000000 in
set_option maxRecDepth 100000 in
theorem b_X7_isHead (X : cx p s m meth c args cX7_isHead 2 (some .boolean) RX7 D [(cI, .int), (cZ, .boolean)]) (hN : nj ad 30) {σ : St} {a1 : Int32} {r : Int32} (hf : f_X7_isHead a1 σ = some r) {H : Heap} {locs : List Loc} {ls : Array Slot} (hP : va_P D vwCl (wM ad cI cZ σ) H) (hS : va_S (aw ad 30) s.heap H locs) (hl : lv_has ls 2 [(0, .ref (ad 0)), (1, .int a1)]) : W p l e rm_X7_isHead s m args below meth c H locs 0 0 (MQ below (qI D (wM ad cI cZ) (aw ad 30) r σ) args s 0 0 (aw ad 30)) (F0 m 0 ls []) := by
  obtain ⟨hx, hb, hml, hown, hts, hr, hlk, hK⟩ := id X
  rw [f_X7_isHead] at hf
  refine lv_aload_n hx hb dX7_isHead_0 rfl (lv_at hl 0 rfl) ?_
  refine lv_iload_n hx hb dX7_isHead_1 rfl (lv_at hl 1 rfl) ?_
  obtain ⟨x1, hc, hf⟩ := bi_some hf
  refine kVi (As := [.int a1]) (rest := []) (wd := (wM ad cI cZ)) (q0 := 0) (ci := 7) X (c_X7_isBlock (l := l) (D := D) (σ := σ) hN hc) (cw_X7_110 X.2.2.2.2.1 ⟨Nat.le_of_ble_eq_true rfl, Nat.le_of_ble_eq_true rfl⟩) rfl rfl hP hS hl rfl rfl (Nat.le_of_ble_eq_true rfl) dX7_isHead_2 (fun H locs hP hS => ?_)
  refine lv_if_eq (tgt := 21) hx hb dX7_isHead_5 (by decide) (fun hq => ?_) (fun hq => ?_)
  · have hf := if_t hq hf
    refine lv_iconst (v := 0) hx hb dX7_isHead_21 rfl ?_
    exact rZ X hP hS hf dX7_isHead_22
  · have hf := if_f hq hf
    refine lv_aload_n hx hb dX7_isHead_8 rfl (lv_at hl 0 rfl) ?_
    refine fg_X7_13 X hP dX7_isHead_9 ?_
    refine lv_iload_n hx hb dX7_isHead_12 rfl (lv_at hl 1 rfl) ?_
    obtain ⟨hi, x2, e_x2, hf⟩ := ld_some hf
    refine ldr (t0 := 0) X hP wM_2 rfl hi e_x2 dX7_isHead_13 ?_
    refine lv_if_ne (tgt := 21) hx hb dX7_isHead_14 (by decide) (fun hq => ?_) (fun hq => ?_)
    · have hf := if_f hq hf
      refine lv_iconst (v := 0) hx hb dX7_isHead_21 rfl ?_
      exact rZ X hP hS hf dX7_isHead_22
    · have hf := if_t hq hf
      refine lv_iconst (v := 1) hx hb dX7_isHead_17 rfl ?_
      refine lv_goto (tgt := 22) hx hb dX7_isHead_18 (by decide) ?_
      exact rZ X hP hS hf dX7_isHead_22
set_option maxHeartbeats 4000000 in
set_option maxRecDepth 100000 in
theorem c_X7_isHead {l : Launch} {D : va_G} {ad : Nat → Nat} {cI cZ : ClassId} (hN : nj ad 30) {σ : St} {a1 : Int32} {r : Int32} (hf : f_X7_isHead a1 σ = some r) : Met l yX7_isHead (.code yX7_isHead cX7_isHead 2 (some .boolean) :: wsL_law) rm_X7_isHead (va_Pc [.ref (ad 0), .int a1] (pw D (wM ad cI cZ) [(cI, .int), (cZ, .boolean)] σ)) (qI D (wM ad cI cZ) (aw ad 30) r σ) 0 0 (aw ad 30) :=
  met_mk (by decide) rfl (Nat.le_of_ble_eq_true rfl) (fun p e s m below meth c X hP ls hl => b_X7_isHead X hN hf hP va_S.rf hl)
set_option maxHeartbeats 4000000 in
set_option maxRecDepth 100000 in
theorem b_X7_isUpright_L3 (X : cx p s m meth c args cX7_isUpright 6 (some .boolean) RX7 D [(cI, .int), (cZ, .boolean)]) (hN : nj ad 30) : ∀ (n : Nat) {σ : St} {a1 a2 a3 a4 a5 : Int32} {r : Int32}, f_X7_isUpright_L3 σ n a1 a2 a3 a4 a5 = some r → ∀ {H : Heap} {locs : List Loc} {ls : Array Slot}, va_P D vwCl (wM ad cI cZ σ) H → va_S (aw ad 30) s.heap H locs → lv_has ls 6 [(0, .ref (ad 0)), (1, .int a1), (2, .int a2), (3, .int a3), (4, .int a4), (5, .int a5)] → W p l e rm_X7_isUpright s m args below meth c H locs 0 0 (MQ below (qI D (wM ad cI cZ) (aw ad 30) r σ) args s 0 0 (aw ad 30)) (F0 m 3 ls []) := by
  intro n
  induction n with
  | zero =>
    intro σ a1 a2 a3 a4 a5 r hf
    rw [f_X7_isUpright_L3] at hf
    cases hf
  | succ n ih =>
    intro σ a1 a2 a3 a4 a5 r hf H locs ls hP hS hl
    obtain ⟨hx, hb, hml, hown, hts, hr, hlk, hK⟩ := id X
    rw [f_X7_isUpright_L3] at hf
    refine lv_iload hx hb dX7_isUpright_3 (lv_at hl 5 rfl) ?_
    refine lv_aload_n hx hb dX7_isUpright_5 rfl (lv_at hl 0 rfl) ?_
    obtain ⟨x1, e_x1, hf⟩ := lf_some hf
    refine fg_X7_114 X hP e_x1 dX7_isUpright_6 ?_
    refine lv_icmp_ge (tgt := 75) hx hb dX7_isUpright_9 (by decide) (fun hq => ?_) (fun hq => ?_)
    · have hf := if_t hq hf
      refine lv_iconst (v := 0) hx hb dX7_isUpright_75 rfl ?_
      exact rZ X hP hS hf dX7_isUpright_76
    · have hf := if_f hq hf
      refine lv_aload_n hx hb dX7_isUpright_12 rfl (lv_at hl 0 rfl) ?_
      refine fg_X7_37 X hP dX7_isUpright_13 ?_
      refine lv_iload hx hb dX7_isUpright_16 (lv_at hl 5 rfl) ?_
      obtain ⟨hi, x2, e_x2, hf⟩ := ld_some hf
      refine ldr (t0 := 0) X hP wM_10 rfl hi e_x2 dX7_isUpright_18 ?_
      refine lv_iload_n hx hb dX7_isUpright_19 rfl (lv_at hl 1 rfl) ?_
      refine lv_icmp_ne (tgt := 69) hx hb dX7_isUpright_20 (by decide) (fun hq => ?_) (fun hq => ?_)
      · have hf := if_f hq hf
        refine lv_iinc (v := (a5 + 1)) (lv' := [(5, .int (a5 + 1)), (0, .ref (ad 0)), (1, .int a1), (2, .int a2), (3, .int a3), (4, .int a4)]) hx hb dX7_isUpright_69 hl (k := 5) rfl rfl (by decide) rfl (fun ls hl => ?_)
        refine lv_goto (tgt := 3) hx hb dX7_isUpright_72 (by decide) ?_
        exact ih hf hP hS (lv_sub hl [1, 2, 3, 4, 5, 0] rfl)
      · have hf := if_t hq hf
        refine lv_aload_n hx hb dX7_isUpright_23 rfl (lv_at hl 0 rfl) ?_
        refine fg_X7_40 X hP dX7_isUpright_24 ?_
        refine lv_iload hx hb dX7_isUpright_27 (lv_at hl 5 rfl) ?_
        obtain ⟨hi, x3, e_x3, hf⟩ := ld_some hf
        refine ldr (t0 := 0) X hP wM_11 rfl hi e_x3 dX7_isUpright_29 ?_
        refine lv_if_ne (tgt := 69) hx hb dX7_isUpright_30 (by decide) (fun hq => ?_) (fun hq => ?_)
        · have hf := if_f hq hf
          refine lv_iinc (v := (a5 + 1)) (lv' := [(5, .int (a5 + 1)), (0, .ref (ad 0)), (1, .int a1), (2, .int a2), (3, .int a3), (4, .int a4)]) hx hb dX7_isUpright_69 hl (k := 5) rfl rfl (by decide) rfl (fun ls hl => ?_)
          refine lv_goto (tgt := 3) hx hb dX7_isUpright_72 (by decide) ?_
          exact ih hf hP hS (lv_sub hl [1, 2, 3, 4, 5, 0] rfl)
        · have hf := if_t hq hf
          refine lv_aload_n hx hb dX7_isUpright_33 rfl (lv_at hl 0 rfl) ?_
          refine fg_X7_43 X hP dX7_isUpright_34 ?_
          refine lv_iload hx hb dX7_isUpright_37 (lv_at hl 5 rfl) ?_
          obtain ⟨hi, x4, e_x4, hf⟩ := ld_some hf
          refine ldr (t0 := 0) X hP wM_12 rfl hi e_x4 dX7_isUpright_39 ?_
          refine lv_iload_n hx hb dX7_isUpright_40 rfl (lv_at hl 2 rfl) ?_
          refine lv_icmp_ne (tgt := 69) hx hb dX7_isUpright_41 (by decide) (fun hq => ?_) (fun hq => ?_)
          · have hf := if_f hq hf
            refine lv_iinc (v := (a5 + 1)) (lv' := [(5, .int (a5 + 1)), (0, .ref (ad 0)), (1, .int a1), (2, .int a2), (3, .int a3), (4, .int a4)]) hx hb dX7_isUpright_69 hl (k := 5) rfl rfl (by decide) rfl (fun ls hl => ?_)
            refine lv_goto (tgt := 3) hx hb dX7_isUpright_72 (by decide) ?_
            exact ih hf hP hS (lv_sub hl [1, 2, 3, 4, 5, 0] rfl)
          · have hf := if_t hq hf
            refine lv_aload_n hx hb dX7_isUpright_44 rfl (lv_at hl 0 rfl) ?_
            refine fg_X7_46 X hP dX7_isUpright_45 ?_
            refine lv_iload hx hb dX7_isUpright_48 (lv_at hl 5 rfl) ?_
            obtain ⟨hi, x5, e_x5, hf⟩ := ld_some hf
            refine ldr (t0 := 0) X hP wM_13 rfl hi e_x5 dX7_isUpright_50 ?_
            refine lv_iload hx hb dX7_isUpright_51 (lv_at hl 4 rfl) ?_
            refine lv_icmp_gt (tgt := 69) hx hb dX7_isUpright_53 (by decide) (fun hq => ?_) (fun hq => ?_)
            · have hf := if_t hq hf
              refine lv_iinc (v := (a5 + 1)) (lv' := [(5, .int (a5 + 1)), (0, .ref (ad 0)), (1, .int a1), (2, .int a2), (3, .int a3), (4, .int a4)]) hx hb dX7_isUpright_69 hl (k := 5) rfl rfl (by decide) rfl (fun ls hl => ?_)
              refine lv_goto (tgt := 3) hx hb dX7_isUpright_72 (by decide) ?_
              exact ih hf hP hS (lv_sub hl [1, 2, 3, 4, 5, 0] rfl)
            · have hf := if_f hq hf
              refine lv_aload_n hx hb dX7_isUpright_56 rfl (lv_at hl 0 rfl) ?_
              refine fg_X7_49 X hP dX7_isUpright_57 ?_
              refine lv_iload hx hb dX7_isUpright_60 (lv_at hl 5 rfl) ?_
              obtain ⟨hi, x6, e_x6, hf⟩ := ld_some hf
              refine ldr (t0 := 0) X hP wM_14 rfl hi e_x6 dX7_isUpright_62 ?_
              refine lv_iload_n hx hb dX7_isUpright_63 rfl (lv_at hl 3 rfl) ?_
              refine lv_icmp_lt (tgt := 69) hx hb dX7_isUpright_64 (by decide) (fun hq => ?_) (fun hq => ?_)
              · have hf := if_t hq hf
                refine lv_iinc (v := (a5 + 1)) (lv' := [(5, .int (a5 + 1)), (0, .ref (ad 0)), (1, .int a1), (2, .int a2), (3, .int a3), (4, .int a4)]) hx hb dX7_isUpright_69 hl (k := 5) rfl rfl (by decide) rfl (fun ls hl => ?_)
                refine lv_goto (tgt := 3) hx hb dX7_isUpright_72 (by decide) ?_
                exact ih hf hP hS (lv_sub hl [1, 2, 3, 4, 5, 0] rfl)
              · have hf := if_f hq hf
                refine lv_iconst (v := 1) hx hb dX7_isUpright_67 rfl ?_
                exact rZ X hP hS hf dX7_isUpright_68
set_option maxHeartbeats 4000000 in
set_option maxRecDepth 100000 in
theorem b_X7_isUpright (X : cx p s m meth c args cX7_isUpright 6 (some .boolean) RX7 D [(cI, .int), (cZ, .boolean)]) (hN : nj ad 30) {σ : St} {a1 a2 a3 a4 : Int32} {r : Int32} (hf : f_X7_isUpright a1 a2 a3 a4 σ = some r) {H : Heap} {locs : List Loc} {ls : Array Slot} (hP : va_P D vwCl (wM ad cI cZ σ) H) (hS : va_S (aw ad 30) s.heap H locs) (hl : lv_has ls 6 [(0, .ref (ad 0)), (1, .int a1), (2, .int a2), (3, .int a3), (4, .int a4)]) : W p l e rm_X7_isUpright s m args below meth c H locs 0 0 (MQ below (qI D (wM ad cI cZ) (aw ad 30) r σ) args s 0 0 (aw ad 30)) (F0 m 0 ls []) := by
  obtain ⟨hx, hb, hml, hown, hts, hr, hlk, hK⟩ := id X
  rw [f_X7_isUpright] at hf
  refine lv_iconst (v := 0) hx hb dX7_isUpright_0 rfl ?_
  refine lv_istore (lv' := [(5, .int 0), (0, .ref (ad 0)), (1, .int a1), (2, .int a2), (3, .int a3), (4, .int a4)]) hx hb dX7_isUpright_1 hl (by decide) rfl (fun ls hl => ?_)
  exact b_X7_isUpright_L3 X hN _ hf hP hS (lv_sub hl [1, 2, 3, 4, 5, 0] rfl)
set_option maxHeartbeats 4000000 in
set_option maxRecDepth 100000 in
theorem c_X7_isUpright {l : Launch} {D : va_G} {ad : Nat → Nat} {cI cZ : ClassId} (hN : nj ad 30) {σ : St} {a1 a2 a3 a4 : Int32} {r : Int32} (hf : f_X7_isUpright a1 a2 a3 a4 σ = some r) : Met l yX7_isUpright (.code yX7_isUpright cX7_isUpright 6 (some .boolean) :: wsL_law) rm_X7_isUpright (va_Pc [.ref (ad 0), .int a1, .int a2, .int a3, .int a4] (pw D (wM ad cI cZ) [(cI, .int), (cZ, .boolean)] σ)) (qI D (wM ad cI cZ) (aw ad 30) r σ) 0 0 (aw ad 30) :=
  met_mk (by decide) rfl (Nat.le_of_ble_eq_true rfl) (fun p e s m below meth c X hP ls hl => b_X7_isUpright X hN hf hP va_S.rf hl)
set_option maxHeartbeats 4000000 in
set_option maxRecDepth 100000 in
theorem b_X7_reachesAcross_L41 (X : cx p s m meth c args cX7_reachesAcross 4 (some .boolean) RX7 D [(cI, .int), (cZ, .boolean)]) (hN : nj ad 30) : ∀ (n : Nat) {σ : St} {a1 a2 a3 : Int32} {r : Int32}, f_X7_reachesAcross_L41 σ n a1 a2 a3 = some r → ∀ {H : Heap} {locs : List Loc} {ls : Array Slot}, va_P D vwCl (wM ad cI cZ σ) H → va_S (aw ad 30) s.heap H locs → lv_has ls 4 [(0, .ref (ad 0)), (1, .int a1), (2, .int a2), (3, .int a3)] → W p l e rm_X7_reachesAcross s m args below meth c H locs 0 0 (MQ below (qI D (wM ad cI cZ) (aw ad 30) r σ) args s 0 0 (aw ad 30)) (F0 m 41 ls []) := by
  intro n
  induction n with
  | zero =>
    intro σ a1 a2 a3 r hf
    rw [f_X7_reachesAcross_L41] at hf
    cases hf
  | succ n ih =>
    intro σ a1 a2 a3 r hf H locs ls hP hS hl
    obtain ⟨hx, hb, hml, hown, hts, hr, hlk, hK⟩ := id X
    rw [f_X7_reachesAcross_L41] at hf
    refine lv_iload_n hx hb dX7_reachesAcross_41 rfl (lv_at hl 3 rfl) ?_
    refine lv_iload_n hx hb dX7_reachesAcross_42 rfl (lv_at hl 2 rfl) ?_
    refine lv_icmp_gt (tgt := 84) hx hb dX7_reachesAcross_43 (by decide) (fun hq => ?_) (fun hq => ?_)
    · have hf := if_t hq hf
      refine lv_iconst (v := 1) hx hb dX7_reachesAcross_84 rfl ?_
      exact rZ X hP hS hf dX7_reachesAcross_85
    · have hf := if_f hq hf
      refine lv_aload_n hx hb dX7_reachesAcross_46 rfl (lv_at hl 0 rfl) ?_
      refine lv_aload_n hx hb dX7_reachesAcross_47 rfl (lv_at hl 0 rfl) ?_
      refine fg_X7_7 X hP dX7_reachesAcross_48 ?_
      refine lv_iload_n hx hb dX7_reachesAcross_51 rfl (lv_at hl 1 rfl) ?_
      obtain ⟨hi, x1, e_x1, hf⟩ := ld_some hf
      refine ldr (t0 := 0) X hP wM_1 rfl hi e_x1 dX7_reachesAcross_52 ?_
      refine lv_iload_n hx hb dX7_reachesAcross_53 rfl (lv_at hl 3 rfl) ?_
      refine lv_aload_n hx hb dX7_reachesAcross_54 rfl (lv_at hl 0 rfl) ?_
      refine fg_X7_25 X hP dX7_reachesAcross_55 ?_
      refine lv_iload_n hx hb dX7_reachesAcross_58 rfl (lv_at hl 1 rfl) ?_
      obtain ⟨hi, x2, e_x2, hf⟩ := ld_some hf
      refine ldr (t0 := 0) X hP wM_6 rfl hi e_x2 dX7_reachesAcross_59 ?_
      refine lv_iconst (v := 1) hx hb dX7_reachesAcross_60 rfl ?_
      refine lv_iadd hx hb dX7_reachesAcross_61 ?_
      refine lv_aload_n hx hb dX7_reachesAcross_62 rfl (lv_at hl 0 rfl) ?_
      refine fg_X7_25 X hP dX7_reachesAcross_63 ?_
      refine lv_iload_n hx hb dX7_reachesAcross_66 rfl (lv_at hl 1 rfl) ?_
      obtain ⟨hi, x3, e_x3, hf⟩ := ld_some hf
      refine ldr (t0 := 0) X hP wM_6 rfl hi e_x3 dX7_reachesAcross_67 ?_
      refine lv_iconst (v := 1) hx hb dX7_reachesAcross_68 rfl ?_
      refine lv_iadd hx hb dX7_reachesAcross_69 ?_
      obtain ⟨x4, hc, hf⟩ := bi_some hf
      refine kVi (As := [.int x1, .int a3, .int (x2 + 1), .int (x3 + 1)]) (rest := []) (wd := (wM ad cI cZ)) (q0 := 0) (ci := 7) X (c_X7_isUpright (l := l) (D := D) (σ := σ) hN hc) (cw_X7_117 X.2.2.2.2.1 ⟨Nat.le_of_ble_eq_true rfl, Nat.le_of_ble_eq_true rfl⟩) rfl rfl hP hS hl rfl rfl (Nat.le_of_ble_eq_true rfl) dX7_reachesAcross_70 (fun H locs hP hS => ?_)
      refine lv_if_eq (tgt := 78) hx hb dX7_reachesAcross_73 (by decide) (fun hq => ?_) (fun hq => ?_)
      · have hf := if_t hq hf
        refine lv_iinc (v := (a3 + 1)) (lv' := [(3, .int (a3 + 1)), (0, .ref (ad 0)), (1, .int a1), (2, .int a2)]) hx hb dX7_reachesAcross_78 hl (k := 3) rfl rfl (by decide) rfl (fun ls hl => ?_)
        refine lv_goto (tgt := 41) hx hb dX7_reachesAcross_81 (by decide) ?_
        exact ih hf hP hS (lv_sub hl [1, 2, 3, 0] rfl)
      · have hf := if_f hq hf
        refine lv_iconst (v := 0) hx hb dX7_reachesAcross_76 rfl ?_
        exact rZ X hP hS hf dX7_reachesAcross_77
set_option maxHeartbeats 4000000 in
set_option maxRecDepth 100000 in
theorem b_X7_reachesAcross (X : cx p s m meth c args cX7_reachesAcross 4 (some .boolean) RX7 D [(cI, .int), (cZ, .boolean)]) (hN : nj ad 30) {σ : St} {a1 a2 : Int32} {r : Int32} (hf : f_X7_reachesAcross a1 a2 σ = some r) {H : Heap} {locs : List Loc} {ls : Array Slot} (hP : va_P D vwCl (wM ad cI cZ σ) H) (hS : va_S (aw ad 30) s.heap H locs) (hl : lv_has ls 4 [(0, .ref (ad 0)), (1, .int a1), (2, .int a2)]) : W p l e rm_X7_reachesAcross s m args below meth c H locs 0 0 (MQ below (qI D (wM ad cI cZ) (aw ad 30) r σ) args s 0 0 (aw ad 30)) (F0 m 0 ls []) := by
  obtain ⟨hx, hb, hml, hown, hts, hr, hlk, hK⟩ := id X
  rw [f_X7_reachesAcross] at hf
  refine lv_aload_n hx hb dX7_reachesAcross_0 rfl (lv_at hl 0 rfl) ?_
  refine fg_X7_25 X hP dX7_reachesAcross_1 ?_
  refine lv_iload_n hx hb dX7_reachesAcross_4 rfl (lv_at hl 1 rfl) ?_
  obtain ⟨hi, x1, e_x1, hf⟩ := ld_some hf
  refine ldr (t0 := 0) X hP wM_6 rfl hi e_x1 dX7_reachesAcross_5 ?_
  refine lv_bipush (v := 29) hx hb dX7_reachesAcross_6 rfl ?_
  refine lv_icmp_eq (tgt := 30) hx hb dX7_reachesAcross_8 (by decide) (fun hq => ?_) (fun hq => ?_)
  · have hf := if_t hq hf
    refine lv_iconst (v := 0) hx hb dX7_reachesAcross_30 rfl ?_
    exact rZ X hP hS hf dX7_reachesAcross_31
  · have hf := if_f hq hf
    refine lv_iload_n hx hb dX7_reachesAcross_11 rfl (lv_at hl 2 rfl) ?_
    refine lv_aload_n hx hb dX7_reachesAcross_12 rfl (lv_at hl 0 rfl) ?_
    refine fg_X7_16 X hP dX7_reachesAcross_13 ?_
    refine lv_iload_n hx hb dX7_reachesAcross_16 rfl (lv_at hl 1 rfl) ?_
    obtain ⟨hi, x2, e_x2, hf⟩ := ld_some hf
    refine ldr (t0 := 0) X hP wM_3 rfl hi e_x2 dX7_reachesAcross_17 ?_
    refine lv_aload_n hx hb dX7_reachesAcross_18 rfl (lv_at hl 0 rfl) ?_
    refine fg_X7_19 X hP dX7_reachesAcross_19 ?_
    refine lv_iload_n hx hb dX7_reachesAcross_22 rfl (lv_at hl 1 rfl) ?_
    obtain ⟨hi, x3, e_x3, hf⟩ := ld_some hf
    refine ldr (t0 := 0) X hP wM_4 rfl hi e_x3 dX7_reachesAcross_23 ?_
    obtain ⟨x4, hc, hf⟩ := bi_some hf
    refine kSi (As := [.int a2, .int x2, .int x3]) (rest := []) (wd := (wM ad cI cZ)) X (c_X7_within (l := l) (D := D) (σ := σ) hN hc) (cw_X7_102 X.2.2.2.2.1 ⟨Nat.le_of_ble_eq_true rfl, Nat.le_of_ble_eq_true rfl⟩) hP hS hl rfl rfl (Nat.le_of_ble_eq_true rfl) dX7_reachesAcross_24 (fun H locs hP hS => ?_)
    refine lv_if_ne (tgt := 32) hx hb dX7_reachesAcross_27 (by decide) (fun hq => ?_) (fun hq => ?_)
    · have hf := if_f hq hf
      refine lv_aload_n hx hb dX7_reachesAcross_32 rfl (lv_at hl 0 rfl) ?_
      refine fg_X7_16 X hP dX7_reachesAcross_33 ?_
      refine lv_iload_n hx hb dX7_reachesAcross_36 rfl (lv_at hl 1 rfl) ?_
      obtain ⟨hi, x5, e_x5, hf⟩ := ld_some hf
      refine ldr (t0 := 0) X hP wM_3 rfl hi e_x5 dX7_reachesAcross_37 ?_
      refine lv_iconst (v := 1) hx hb dX7_reachesAcross_38 rfl ?_
      refine lv_iadd hx hb dX7_reachesAcross_39 ?_
      refine lv_istore_n (lv' := [(3, .int (x5 + 1)), (0, .ref (ad 0)), (1, .int a1), (2, .int a2)]) hx hb dX7_reachesAcross_40 rfl hl (by decide) rfl (fun ls hl => ?_)
      exact b_X7_reachesAcross_L41 X hN _ hf hP hS (lv_sub hl [1, 2, 3, 0] rfl)
    · have hf := if_t hq hf
      refine lv_iconst (v := 0) hx hb dX7_reachesAcross_30 rfl ?_
      exact rZ X hP hS hf dX7_reachesAcross_31
set_option maxHeartbeats 4000000 in
set_option maxRecDepth 100000 in
theorem c_X7_reachesAcross {l : Launch} {D : va_G} {ad : Nat → Nat} {cI cZ : ClassId} (hN : nj ad 30) {σ : St} {a1 a2 : Int32} {r : Int32} (hf : f_X7_reachesAcross a1 a2 σ = some r) : Met l yX7_reachesAcross (.code yX7_reachesAcross cX7_reachesAcross 4 (some .boolean) :: wsL_law) rm_X7_reachesAcross (va_Pc [.ref (ad 0), .int a1, .int a2] (pw D (wM ad cI cZ) [(cI, .int), (cZ, .boolean)] σ)) (qI D (wM ad cI cZ) (aw ad 30) r σ) 0 0 (aw ad 30) :=
  met_mk (by decide) rfl (Nat.le_of_ble_eq_true rfl) (fun p e s m below meth c X hP ls hl => b_X7_reachesAcross X hN hf hP va_S.rf hl)
set_option maxHeartbeats 4000000 in
set_option maxRecDepth 100000 in
theorem b_X7_lastRow_B217 (X : cx p s m meth c args cX7_lastRow 7 (some .int) RX7 D [(cI, .int), (cZ, .boolean)]) (hN : nj ad 30) {σ : St} {a1 a2 a3 a4 a5 t0 : Int32} {r : Int32} {K : Int32 → Int32 → Int32 → Int32 → Int32 → Option Int32} (hk : ∀ {b1 b2 b3 b4 b5 : Int32} {H : Heap} {locs : List Loc} {ls : Array Slot}, K b1 b2 b3 b4 b5 = some r → va_P D vwCl (wM ad cI cZ σ) H → va_S (aw ad 30) s.heap H locs → lv_has ls 7 [(0, .ref (ad 0)), (1, .int b1), (2, .int b2), (3, .int b3), (4, .int b4), (5, .int b5)] → W p l e rm_X7_lastRow s m args below meth c H locs 0 0 (MQ below (qI D (wM ad cI cZ) (aw ad 30) r σ) args s 0 0 (aw ad 30)) (F0 m 144 ls [])) (hf : f_X7_lastRow_B217 σ K a1 a2 a3 a4 a5 t0 = some r) {H : Heap} {locs : List Loc} {ls : Array Slot} (hP : va_P D vwCl (wM ad cI cZ σ) H) (hS : va_S (aw ad 30) s.heap H locs) (hl : lv_has ls 7 [(0, .ref (ad 0)), (1, .int a1), (2, .int a2), (3, .int a3), (4, .int a4), (5, .int a5)]) : W p l e rm_X7_lastRow s m args below meth c H locs 0 0 (MQ below (qI D (wM ad cI cZ) (aw ad 30) r σ) args s 0 0 (aw ad 30)) (F0 m 217 ls [.int t0]) := by
  obtain ⟨hx, hb, hml, hown, hts, hr, hlk, hK⟩ := id X
  rw [f_X7_lastRow_B217] at hf
  refine lv_istore (lv' := [(6, .int t0), (0, .ref (ad 0)), (1, .int a1), (2, .int a2), (3, .int a3), (4, .int a4), (5, .int a5)]) hx hb dX7_lastRow_217 hl (by decide) rfl (fun ls hl => ?_)
  refine lv_iload hx hb dX7_lastRow_219 (lv_at hl 0 rfl) ?_
  refine lv_if_eq (tgt := 250) hx hb dX7_lastRow_221 (by decide) (fun hq => ?_) (fun hq => ?_)
  · have hf := if_t hq hf
    refine lv_iload hx hb dX7_lastRow_250 (lv_at hl 5 rfl) ?_
    refine lv_istore (lv' := [(4, .int a4), (6, .int t0), (0, .ref (ad 0)), (1, .int a1), (2, .int a2), (3, .int a3), (5, .int a5)]) hx hb dX7_lastRow_252 hl (by decide) rfl (fun ls hl => ?_)
    refine lv_iinc (v := (a5 + 1)) (lv' := [(5, .int (a5 + 1)), (4, .int a4), (6, .int t0), (0, .ref (ad 0)), (1, .int a1), (2, .int a2), (3, .int a3)]) hx hb dX7_lastRow_254 hl (k := 6) rfl rfl (by decide) rfl (fun ls hl => ?_)
    refine lv_goto (tgt := 144) hx hb dX7_lastRow_257 (by decide) ?_
    exact hk hf hP hS (lv_sub hl [3, 4, 5, 6, 1, 0] rfl)
  · have hf := if_f hq hf
    refine lv_aload_n hx hb dX7_lastRow_224 rfl (lv_at hl 1 rfl) ?_
    refine fg_X7_43 X hP dX7_lastRow_225 ?_
    refine lv_iload hx hb dX7_lastRow_228 (lv_at hl 6 rfl) ?_
    obtain ⟨hi, x1, e_x1, hf⟩ := ld_some hf
    refine ldr (t0 := 0) X hP wM_12 rfl hi e_x1 dX7_lastRow_230 ?_
    refine lv_iconst (v := 1) hx hb dX7_lastRow_231 rfl ?_
    refine lv_isub hx hb dX7_lastRow_232 ?_
    refine lv_iload hx hb dX7_lastRow_233 (lv_at hl 5 rfl) ?_
    refine lv_icmp_ge (tgt := 250) hx hb dX7_lastRow_235 (by decide) (fun hq => ?_) (fun hq => ?_)
    · have hf := if_t hq hf
      refine lv_iload hx hb dX7_lastRow_250 (lv_at hl 5 rfl) ?_
      refine lv_istore (lv' := [(4, .int a4), (6, .int t0), (0, .ref (ad 0)), (1, .int a1), (2, .int a2), (3, .int a3), (5, .int a5)]) hx hb dX7_lastRow_252 hl (by decide) rfl (fun ls hl => ?_)
      refine lv_iinc (v := (a5 + 1)) (lv' := [(5, .int (a5 + 1)), (4, .int a4), (6, .int t0), (0, .ref (ad 0)), (1, .int a1), (2, .int a2), (3, .int a3)]) hx hb dX7_lastRow_254 hl (k := 6) rfl rfl (by decide) rfl (fun ls hl => ?_)
      refine lv_goto (tgt := 144) hx hb dX7_lastRow_257 (by decide) ?_
      exact hk hf hP hS (lv_sub hl [3, 4, 5, 6, 1, 0] rfl)
    · have hf := if_f hq hf
      refine lv_aload_n hx hb dX7_lastRow_238 rfl (lv_at hl 1 rfl) ?_
      refine fg_X7_43 X hP dX7_lastRow_239 ?_
      refine lv_iload hx hb dX7_lastRow_242 (lv_at hl 6 rfl) ?_
      obtain ⟨hi, x2, e_x2, hf⟩ := ld_some hf
      refine ldr (t0 := 0) X hP wM_12 rfl hi e_x2 dX7_lastRow_244 ?_
      refine lv_iconst (v := 1) hx hb dX7_lastRow_245 rfl ?_
      refine lv_isub hx hb dX7_lastRow_246 ?_
      refine lv_goto (tgt := 252) hx hb dX7_lastRow_247 (by decide) ?_
      refine lv_istore (lv' := [(4, .int (x2 - 1)), (6, .int t0), (0, .ref (ad 0)), (1, .int a1), (2, .int a2), (3, .int a3), (5, .int a5)]) hx hb dX7_lastRow_252 hl (by decide) rfl (fun ls hl => ?_)
      refine lv_iinc (v := (a5 + 1)) (lv' := [(5, .int (a5 + 1)), (4, .int (x2 - 1)), (6, .int t0), (0, .ref (ad 0)), (1, .int a1), (2, .int a2), (3, .int a3)]) hx hb dX7_lastRow_254 hl (k := 6) rfl rfl (by decide) rfl (fun ls hl => ?_)
      refine lv_goto (tgt := 144) hx hb dX7_lastRow_257 (by decide) ?_
      exact hk hf hP hS (lv_sub hl [3, 4, 5, 6, 1, 0] rfl)
set_option maxHeartbeats 4000000 in
set_option maxRecDepth 100000 in
theorem b_X7_lastRow_B216 (X : cx p s m meth c args cX7_lastRow 7 (some .int) RX7 D [(cI, .int), (cZ, .boolean)]) (hN : nj ad 30) {σ : St} {a1 a2 a3 a4 a5 : Int32} {r : Int32} {K : Int32 → Int32 → Int32 → Int32 → Int32 → Option Int32} (hk : ∀ {b1 b2 b3 b4 b5 : Int32} {H : Heap} {locs : List Loc} {ls : Array Slot}, K b1 b2 b3 b4 b5 = some r → va_P D vwCl (wM ad cI cZ σ) H → va_S (aw ad 30) s.heap H locs → lv_has ls 7 [(0, .ref (ad 0)), (1, .int b1), (2, .int b2), (3, .int b3), (4, .int b4), (5, .int b5)] → W p l e rm_X7_lastRow s m args below meth c H locs 0 0 (MQ below (qI D (wM ad cI cZ) (aw ad 30) r σ) args s 0 0 (aw ad 30)) (F0 m 144 ls [])) (hf : f_X7_lastRow_B216 σ K a1 a2 a3 a4 a5 = some r) {H : Heap} {locs : List Loc} {ls : Array Slot} (hP : va_P D vwCl (wM ad cI cZ σ) H) (hS : va_S (aw ad 30) s.heap H locs) (hl : lv_has ls 7 [(0, .ref (ad 0)), (1, .int a1), (2, .int a2), (3, .int a3), (4, .int a4), (5, .int a5)]) : W p l e rm_X7_lastRow s m args below meth c H locs 0 0 (MQ below (qI D (wM ad cI cZ) (aw ad 30) r σ) args s 0 0 (aw ad 30)) (F0 m 216 ls []) := by
  obtain ⟨hx, hb, hml, hown, hts, hr, hlk, hK⟩ := id X
  rw [f_X7_lastRow_B216] at hf
  refine lv_iconst (v := 0) hx hb dX7_lastRow_216 rfl ?_
  exact b_X7_lastRow_B217 X hN hk hf hP hS (lv_sub hl [0, 1, 2, 3, 4, 5] rfl)
set_option maxHeartbeats 4000000 in
set_option maxRecDepth 100000 in
theorem b_X7_lastRow_L144 (X : cx p s m meth c args cX7_lastRow 7 (some .int) RX7 D [(cI, .int), (cZ, .boolean)]) (hN : nj ad 30) : ∀ (n : Nat) {σ : St} {a1 a2 a3 a4 a5 : Int32} {r : Int32}, f_X7_lastRow_L144 σ n a1 a2 a3 a4 a5 = some r → ∀ {H : Heap} {locs : List Loc} {ls : Array Slot}, va_P D vwCl (wM ad cI cZ σ) H → va_S (aw ad 30) s.heap H locs → lv_has ls 7 [(0, .ref (ad 0)), (1, .int a1), (2, .int a2), (3, .int a3), (4, .int a4), (5, .int a5)] → W p l e rm_X7_lastRow s m args below meth c H locs 0 0 (MQ below (qI D (wM ad cI cZ) (aw ad 30) r σ) args s 0 0 (aw ad 30)) (F0 m 144 ls []) := by
  intro n
  induction n with
  | zero =>
    intro σ a1 a2 a3 a4 a5 r hf
    rw [f_X7_lastRow_L144] at hf
    cases hf
  | succ n ih =>
    intro σ a1 a2 a3 a4 a5 r hf H locs ls hP hS hl
    obtain ⟨hx, hb, hml, hown, hts, hr, hlk, hK⟩ := id X
    rw [f_X7_lastRow_L144] at hf
    refine lv_iload hx hb dX7_lastRow_144 (lv_at hl 5 rfl) ?_
    refine lv_aload_n hx hb dX7_lastRow_146 rfl (lv_at hl 0 rfl) ?_
    obtain ⟨x1, e_x1, hf⟩ := lf_some hf
    refine fg_X7_114 X hP e_x1 dX7_lastRow_147 ?_
    refine lv_icmp_ge (tgt := 260) hx hb dX7_lastRow_150 (by decide) (fun hq => ?_) (fun hq => ?_)
    · have hf := if_t hq hf
      refine lv_iload hx hb dX7_lastRow_260 (lv_at hl 4 rfl) ?_
      refine lv_iload_n hx hb dX7_lastRow_262 rfl (lv_at hl 3 rfl) ?_
      refine lv_icmp_le (tgt := 271) hx hb dX7_lastRow_263 (by decide) (fun hq => ?_) (fun hq => ?_)
      · have hf := if_t hq hf
        refine lv_bipush (v := (-9)) hx hb dX7_lastRow_271 rfl ?_
        exact rI X hP hS hf dX7_lastRow_273
      · have hf := if_f hq hf
        refine lv_iload hx hb dX7_lastRow_266 (lv_at hl 4 rfl) ?_
        refine lv_goto (tgt := 273) hx hb dX7_lastRow_268 (by decide) ?_
        exact rI X hP hS hf dX7_lastRow_273
    · have hf := if_f hq hf
      refine lv_aload_n hx hb dX7_lastRow_153 rfl (lv_at hl 0 rfl) ?_
      refine fg_X7_37 X hP dX7_lastRow_154 ?_
      refine lv_iload hx hb dX7_lastRow_157 (lv_at hl 5 rfl) ?_
      obtain ⟨hi, x2, e_x2, hf⟩ := ld_some hf
      refine ldr (t0 := 0) X hP wM_10 rfl hi e_x2 dX7_lastRow_159 ?_
      refine lv_aload_n hx hb dX7_lastRow_160 rfl (lv_at hl 0 rfl) ?_
      refine fg_X7_7 X hP dX7_lastRow_161 ?_
      refine lv_iload_n hx hb dX7_lastRow_164 rfl (lv_at hl 1 rfl) ?_
      obtain ⟨hi, x3, e_x3, hf⟩ := ld_some hf
      refine ldr (t0 := 0) X hP wM_1 rfl hi e_x3 dX7_lastRow_165 ?_
      refine lv_icmp_ne (tgt := 216) hx hb dX7_lastRow_166 (by decide) (fun hq => ?_) (fun hq => ?_)
      · have hf := if_f hq hf
        exact b_X7_lastRow_B216 X hN (fun hf hP hS hl => ih hf hP hS hl) hf hP hS (lv_sub hl [0, 1, 2, 3, 4, 5] rfl)
      · have hf := if_t hq hf
        refine lv_aload_n hx hb dX7_lastRow_169 rfl (lv_at hl 0 rfl) ?_
        refine fg_X7_40 X hP dX7_lastRow_170 ?_
        refine lv_iload hx hb dX7_lastRow_173 (lv_at hl 5 rfl) ?_
        obtain ⟨hi, x4, e_x4, hf⟩ := ld_some hf
        refine ldr (t0 := 0) X hP wM_11 rfl hi e_x4 dX7_lastRow_175 ?_
        refine lv_iconst (v := 1) hx hb dX7_lastRow_176 rfl ?_
        refine lv_icmp_ne (tgt := 216) hx hb dX7_lastRow_177 (by decide) (fun hq => ?_) (fun hq => ?_)
        · have hf := if_f hq hf
          exact b_X7_lastRow_B216 X hN (fun hf hP hS hl => ih hf hP hS hl) hf hP hS (lv_sub hl [0, 1, 2, 3, 4, 5] rfl)
        · have hf := if_t hq hf
          refine lv_iload_n hx hb dX7_lastRow_180 rfl (lv_at hl 2 rfl) ?_
          refine lv_aload_n hx hb dX7_lastRow_181 rfl (lv_at hl 0 rfl) ?_
          refine fg_X7_46 X hP dX7_lastRow_182 ?_
          refine lv_iload hx hb dX7_lastRow_185 (lv_at hl 5 rfl) ?_
          obtain ⟨hi, x5, e_x5, hf⟩ := ld_some hf
          refine ldr (t0 := 0) X hP wM_13 rfl hi e_x5 dX7_lastRow_187 ?_
          refine lv_aload_n hx hb dX7_lastRow_188 rfl (lv_at hl 0 rfl) ?_
          refine fg_X7_49 X hP dX7_lastRow_189 ?_
          refine lv_iload hx hb dX7_lastRow_192 (lv_at hl 5 rfl) ?_
          obtain ⟨hi, x6, e_x6, hf⟩ := ld_some hf
          refine ldr (t0 := 0) X hP wM_14 rfl hi e_x6 dX7_lastRow_194 ?_
          obtain ⟨x7, hc, hf⟩ := bi_some hf
          refine kSi (As := [.int a2, .int x5, .int x6]) (rest := []) (wd := (wM ad cI cZ)) X (c_X7_within (l := l) (D := D) (σ := σ) hN hc) (cw_X7_102 X.2.2.2.2.1 ⟨Nat.le_of_ble_eq_true rfl, Nat.le_of_ble_eq_true rfl⟩) hP hS hl rfl rfl (Nat.le_of_ble_eq_true rfl) dX7_lastRow_195 (fun H locs hP hS => ?_)
          refine lv_if_eq (tgt := 216) hx hb dX7_lastRow_198 (by decide) (fun hq => ?_) (fun hq => ?_)
          · have hf := if_t hq hf
            exact b_X7_lastRow_B216 X hN (fun hf hP hS hl => ih hf hP hS hl) hf hP hS (lv_sub hl [0, 1, 2, 3, 4, 5] rfl)
          · have hf := if_f hq hf
            refine lv_aload_n hx hb dX7_lastRow_201 rfl (lv_at hl 0 rfl) ?_
            refine fg_X7_43 X hP dX7_lastRow_202 ?_
            refine lv_iload hx hb dX7_lastRow_205 (lv_at hl 5 rfl) ?_
            obtain ⟨hi, x8, e_x8, hf⟩ := ld_some hf
            refine ldr (t0 := 0) X hP wM_12 rfl hi e_x8 dX7_lastRow_207 ?_
            refine lv_iload_n hx hb dX7_lastRow_208 rfl (lv_at hl 3 rfl) ?_
            refine lv_icmp_le (tgt := 216) hx hb dX7_lastRow_209 (by decide) (fun hq => ?_) (fun hq => ?_)
            · have hf := if_t hq hf
              exact b_X7_lastRow_B216 X hN (fun hf hP hS hl => ih hf hP hS hl) hf hP hS (lv_sub hl [0, 1, 2, 3, 4, 5] rfl)
            · have hf := if_f hq hf
              refine lv_iconst (v := 1) hx hb dX7_lastRow_212 rfl ?_
              refine lv_goto (tgt := 217) hx hb dX7_lastRow_213 (by decide) ?_
              exact b_X7_lastRow_B217 X hN (fun hf hP hS hl => ih hf hP hS hl) hf hP hS (lv_sub hl [0, 1, 2, 3, 4, 5] rfl)
set_option maxHeartbeats 4000000 in
set_option maxRecDepth 100000 in
theorem b_X7_lastRow_B98 (X : cx p s m meth c args cX7_lastRow 7 (some .int) RX7 D [(cI, .int), (cZ, .boolean)]) (hN : nj ad 30) {σ : St} {a1 a2 a3 a4 a5 t0 : Int32} {r : Int32} {K : Int32 → Int32 → Int32 → Int32 → Int32 → Option Int32} (hk : ∀ {b1 b2 b3 b4 b5 : Int32} {H : Heap} {locs : List Loc} {ls : Array Slot}, K b1 b2 b3 b4 b5 = some r → va_P D vwCl (wM ad cI cZ σ) H → va_S (aw ad 30) s.heap H locs → lv_has ls 7 [(0, .ref (ad 0)), (1, .int b1), (2, .int b2), (3, .int b3), (4, .int b4), (5, .int b5)] → W p l e rm_X7_lastRow s m args below meth c H locs 0 0 (MQ below (qI D (wM ad cI cZ) (aw ad 30) r σ) args s 0 0 (aw ad 30)) (F0 m 26 ls [])) (hf : f_X7_lastRow_B98 σ K a1 a2 a3 a4 a5 t0 = some r) {H : Heap} {locs : List Loc} {ls : Array Slot} (hP : va_P D vwCl (wM ad cI cZ σ) H) (hS : va_S (aw ad 30) s.heap H locs) (hl : lv_has ls 7 [(0, .ref (ad 0)), (1, .int a1), (2, .int a2), (3, .int a3), (4, .int a4), (5, .int a5)]) : W p l e rm_X7_lastRow s m args below meth c H locs 0 0 (MQ below (qI D (wM ad cI cZ) (aw ad 30) r σ) args s 0 0 (aw ad 30)) (F0 m 98 ls [.int t0]) := by
  obtain ⟨hx, hb, hml, hown, hts, hr, hlk, hK⟩ := id X
  rw [f_X7_lastRow_B98] at hf
  refine lv_istore (lv' := [(6, .int t0), (0, .ref (ad 0)), (1, .int a1), (2, .int a2), (3, .int a3), (4, .int a4), (5, .int a5)]) hx hb dX7_lastRow_98 hl (by decide) rfl (fun ls hl => ?_)
  refine lv_iload hx hb dX7_lastRow_100 (lv_at hl 0 rfl) ?_
  refine lv_if_eq (tgt := 131) hx hb dX7_lastRow_102 (by decide) (fun hq => ?_) (fun hq => ?_)
  · have hf := if_t hq hf
    refine lv_iload hx hb dX7_lastRow_131 (lv_at hl 5 rfl) ?_
    refine lv_istore (lv' := [(4, .int a4), (6, .int t0), (0, .ref (ad 0)), (1, .int a1), (2, .int a2), (3, .int a3), (5, .int a5)]) hx hb dX7_lastRow_133 hl (by decide) rfl (fun ls hl => ?_)
    refine lv_iinc (v := (a5 + 1)) (lv' := [(5, .int (a5 + 1)), (4, .int a4), (6, .int t0), (0, .ref (ad 0)), (1, .int a1), (2, .int a2), (3, .int a3)]) hx hb dX7_lastRow_135 hl (k := 6) rfl rfl (by decide) rfl (fun ls hl => ?_)
    refine lv_goto (tgt := 26) hx hb dX7_lastRow_138 (by decide) ?_
    exact hk hf hP hS (lv_sub hl [3, 4, 5, 6, 1, 0] rfl)
  · have hf := if_f hq hf
    refine lv_aload_n hx hb dX7_lastRow_105 rfl (lv_at hl 1 rfl) ?_
    refine fg_X7_22 X hP dX7_lastRow_106 ?_
    refine lv_iload hx hb dX7_lastRow_109 (lv_at hl 6 rfl) ?_
    obtain ⟨hi, x1, e_x1, hf⟩ := ld_some hf
    refine ldr (t0 := 0) X hP wM_5 rfl hi e_x1 dX7_lastRow_111 ?_
    refine lv_iconst (v := 1) hx hb dX7_lastRow_112 rfl ?_
    refine lv_isub hx hb dX7_lastRow_113 ?_
    refine lv_iload hx hb dX7_lastRow_114 (lv_at hl 5 rfl) ?_
    refine lv_icmp_ge (tgt := 131) hx hb dX7_lastRow_116 (by decide) (fun hq => ?_) (fun hq => ?_)
    · have hf := if_t hq hf
      refine lv_iload hx hb dX7_lastRow_131 (lv_at hl 5 rfl) ?_
      refine lv_istore (lv' := [(4, .int a4), (6, .int t0), (0, .ref (ad 0)), (1, .int a1), (2, .int a2), (3, .int a3), (5, .int a5)]) hx hb dX7_lastRow_133 hl (by decide) rfl (fun ls hl => ?_)
      refine lv_iinc (v := (a5 + 1)) (lv' := [(5, .int (a5 + 1)), (4, .int a4), (6, .int t0), (0, .ref (ad 0)), (1, .int a1), (2, .int a2), (3, .int a3)]) hx hb dX7_lastRow_135 hl (k := 6) rfl rfl (by decide) rfl (fun ls hl => ?_)
      refine lv_goto (tgt := 26) hx hb dX7_lastRow_138 (by decide) ?_
      exact hk hf hP hS (lv_sub hl [3, 4, 5, 6, 1, 0] rfl)
    · have hf := if_f hq hf
      refine lv_aload_n hx hb dX7_lastRow_119 rfl (lv_at hl 1 rfl) ?_
      refine fg_X7_22 X hP dX7_lastRow_120 ?_
      refine lv_iload hx hb dX7_lastRow_123 (lv_at hl 6 rfl) ?_
      obtain ⟨hi, x2, e_x2, hf⟩ := ld_some hf
      refine ldr (t0 := 0) X hP wM_5 rfl hi e_x2 dX7_lastRow_125 ?_
      refine lv_iconst (v := 1) hx hb dX7_lastRow_126 rfl ?_
      refine lv_isub hx hb dX7_lastRow_127 ?_
      refine lv_goto (tgt := 133) hx hb dX7_lastRow_128 (by decide) ?_
      refine lv_istore (lv' := [(4, .int (x2 - 1)), (6, .int t0), (0, .ref (ad 0)), (1, .int a1), (2, .int a2), (3, .int a3), (5, .int a5)]) hx hb dX7_lastRow_133 hl (by decide) rfl (fun ls hl => ?_)
      refine lv_iinc (v := (a5 + 1)) (lv' := [(5, .int (a5 + 1)), (4, .int (x2 - 1)), (6, .int t0), (0, .ref (ad 0)), (1, .int a1), (2, .int a2), (3, .int a3)]) hx hb dX7_lastRow_135 hl (k := 6) rfl rfl (by decide) rfl (fun ls hl => ?_)
      refine lv_goto (tgt := 26) hx hb dX7_lastRow_138 (by decide) ?_
      exact hk hf hP hS (lv_sub hl [3, 4, 5, 6, 1, 0] rfl)
set_option maxHeartbeats 4000000 in
set_option maxRecDepth 100000 in
theorem b_X7_lastRow_B97 (X : cx p s m meth c args cX7_lastRow 7 (some .int) RX7 D [(cI, .int), (cZ, .boolean)]) (hN : nj ad 30) {σ : St} {a1 a2 a3 a4 a5 : Int32} {r : Int32} {K : Int32 → Int32 → Int32 → Int32 → Int32 → Option Int32} (hk : ∀ {b1 b2 b3 b4 b5 : Int32} {H : Heap} {locs : List Loc} {ls : Array Slot}, K b1 b2 b3 b4 b5 = some r → va_P D vwCl (wM ad cI cZ σ) H → va_S (aw ad 30) s.heap H locs → lv_has ls 7 [(0, .ref (ad 0)), (1, .int b1), (2, .int b2), (3, .int b3), (4, .int b4), (5, .int b5)] → W p l e rm_X7_lastRow s m args below meth c H locs 0 0 (MQ below (qI D (wM ad cI cZ) (aw ad 30) r σ) args s 0 0 (aw ad 30)) (F0 m 26 ls [])) (hf : f_X7_lastRow_B97 σ K a1 a2 a3 a4 a5 = some r) {H : Heap} {locs : List Loc} {ls : Array Slot} (hP : va_P D vwCl (wM ad cI cZ σ) H) (hS : va_S (aw ad 30) s.heap H locs) (hl : lv_has ls 7 [(0, .ref (ad 0)), (1, .int a1), (2, .int a2), (3, .int a3), (4, .int a4), (5, .int a5)]) : W p l e rm_X7_lastRow s m args below meth c H locs 0 0 (MQ below (qI D (wM ad cI cZ) (aw ad 30) r σ) args s 0 0 (aw ad 30)) (F0 m 97 ls []) := by
  obtain ⟨hx, hb, hml, hown, hts, hr, hlk, hK⟩ := id X
  rw [f_X7_lastRow_B97] at hf
  refine lv_iconst (v := 0) hx hb dX7_lastRow_97 rfl ?_
  exact b_X7_lastRow_B98 X hN hk hf hP hS (lv_sub hl [0, 1, 2, 3, 4, 5] rfl)
set_option maxHeartbeats 4000000 in
set_option maxRecDepth 100000 in
theorem b_X7_lastRow_L26 (X : cx p s m meth c args cX7_lastRow 7 (some .int) RX7 D [(cI, .int), (cZ, .boolean)]) (hN : nj ad 30) : ∀ (n : Nat) {σ : St} {a1 a2 a3 a4 a5 : Int32} {r : Int32}, f_X7_lastRow_L26 σ n a1 a2 a3 a4 a5 = some r → ∀ {H : Heap} {locs : List Loc} {ls : Array Slot}, va_P D vwCl (wM ad cI cZ σ) H → va_S (aw ad 30) s.heap H locs → lv_has ls 7 [(0, .ref (ad 0)), (1, .int a1), (2, .int a2), (3, .int a3), (4, .int a4), (5, .int a5)] → W p l e rm_X7_lastRow s m args below meth c H locs 0 0 (MQ below (qI D (wM ad cI cZ) (aw ad 30) r σ) args s 0 0 (aw ad 30)) (F0 m 26 ls []) := by
  intro n
  induction n with
  | zero =>
    intro σ a1 a2 a3 a4 a5 r hf
    rw [f_X7_lastRow_L26] at hf
    cases hf
  | succ n ih =>
    intro σ a1 a2 a3 a4 a5 r hf H locs ls hP hS hl
    obtain ⟨hx, hb, hml, hown, hts, hr, hlk, hK⟩ := id X
    rw [f_X7_lastRow_L26] at hf
    refine lv_iload hx hb dX7_lastRow_26 (lv_at hl 5 rfl) ?_
    refine lv_aload_n hx hb dX7_lastRow_28 rfl (lv_at hl 0 rfl) ?_
    obtain ⟨x1, e_x1, hf⟩ := lf_some hf
    refine fg_X7_98 X hP e_x1 dX7_lastRow_29 ?_
    refine lv_icmp_ge (tgt := 141) hx hb dX7_lastRow_32 (by decide) (fun hq => ?_) (fun hq => ?_)
    · have hf := if_t hq hf
      refine lv_iconst (v := 0) hx hb dX7_lastRow_141 rfl ?_
      refine lv_istore (lv' := [(5, .int 0), (0, .ref (ad 0)), (1, .int a1), (2, .int a2), (3, .int a3), (4, .int a4)]) hx hb dX7_lastRow_142 hl (by decide) rfl (fun ls hl => ?_)
      exact b_X7_lastRow_L144 X hN _ hf hP hS (lv_sub hl [1, 2, 3, 4, 5, 0] rfl)
    · have hf := if_f hq hf
      refine lv_aload_n hx hb dX7_lastRow_35 rfl (lv_at hl 0 rfl) ?_
      refine fg_X7_7 X hP dX7_lastRow_36 ?_
      refine lv_iload hx hb dX7_lastRow_39 (lv_at hl 5 rfl) ?_
      obtain ⟨hi, x2, e_x2, hf⟩ := ld_some hf
      refine ldr (t0 := 0) X hP wM_1 rfl hi e_x2 dX7_lastRow_41 ?_
      refine lv_aload_n hx hb dX7_lastRow_42 rfl (lv_at hl 0 rfl) ?_
      refine fg_X7_7 X hP dX7_lastRow_43 ?_
      refine lv_iload_n hx hb dX7_lastRow_46 rfl (lv_at hl 1 rfl) ?_
      obtain ⟨hi, x3, e_x3, hf⟩ := ld_some hf
      refine ldr (t0 := 0) X hP wM_1 rfl hi e_x3 dX7_lastRow_47 ?_
      refine lv_icmp_ne (tgt := 97) hx hb dX7_lastRow_48 (by decide) (fun hq => ?_) (fun hq => ?_)
      · have hf := if_f hq hf
        exact b_X7_lastRow_B97 X hN (fun hf hP hS hl => ih hf hP hS hl) hf hP hS (lv_sub hl [0, 1, 2, 3, 4, 5] rfl)
      · have hf := if_t hq hf
        refine lv_aload_n hx hb dX7_lastRow_51 rfl (lv_at hl 0 rfl) ?_
        refine fg_X7_13 X hP dX7_lastRow_52 ?_
        refine lv_iload hx hb dX7_lastRow_55 (lv_at hl 5 rfl) ?_
        obtain ⟨hi, x4, e_x4, hf⟩ := ld_some hf
        refine ldr (t0 := 0) X hP wM_2 rfl hi e_x4 dX7_lastRow_57 ?_
        refine lv_if_ne (tgt := 97) hx hb dX7_lastRow_58 (by decide) (fun hq => ?_) (fun hq => ?_)
        · have hf := if_f hq hf
          exact b_X7_lastRow_B97 X hN (fun hf hP hS hl => ih hf hP hS hl) hf hP hS (lv_sub hl [0, 1, 2, 3, 4, 5] rfl)
        · have hf := if_t hq hf
          refine lv_iload_n hx hb dX7_lastRow_61 rfl (lv_at hl 2 rfl) ?_
          refine lv_aload_n hx hb dX7_lastRow_62 rfl (lv_at hl 0 rfl) ?_
          refine fg_X7_16 X hP dX7_lastRow_63 ?_
          refine lv_iload hx hb dX7_lastRow_66 (lv_at hl 5 rfl) ?_
          obtain ⟨hi, x5, e_x5, hf⟩ := ld_some hf
          refine ldr (t0 := 0) X hP wM_3 rfl hi e_x5 dX7_lastRow_68 ?_
          refine lv_aload_n hx hb dX7_lastRow_69 rfl (lv_at hl 0 rfl) ?_
          refine fg_X7_19 X hP dX7_lastRow_70 ?_
          refine lv_iload hx hb dX7_lastRow_73 (lv_at hl 5 rfl) ?_
          obtain ⟨hi, x6, e_x6, hf⟩ := ld_some hf
          refine ldr (t0 := 0) X hP wM_4 rfl hi e_x6 dX7_lastRow_75 ?_
          obtain ⟨x7, hc, hf⟩ := bi_some hf
          refine kSi (As := [.int a2, .int x5, .int x6]) (rest := []) (wd := (wM ad cI cZ)) X (c_X7_within (l := l) (D := D) (σ := σ) hN hc) (cw_X7_102 X.2.2.2.2.1 ⟨Nat.le_of_ble_eq_true rfl, Nat.le_of_ble_eq_true rfl⟩) hP hS hl rfl rfl (Nat.le_of_ble_eq_true rfl) dX7_lastRow_76 (fun H locs hP hS => ?_)
          refine lv_if_eq (tgt := 97) hx hb dX7_lastRow_79 (by decide) (fun hq => ?_) (fun hq => ?_)
          · have hf := if_t hq hf
            exact b_X7_lastRow_B97 X hN (fun hf hP hS hl => ih hf hP hS hl) hf hP hS (lv_sub hl [0, 1, 2, 3, 4, 5] rfl)
          · have hf := if_f hq hf
            refine lv_aload_n hx hb dX7_lastRow_82 rfl (lv_at hl 0 rfl) ?_
            refine fg_X7_22 X hP dX7_lastRow_83 ?_
            refine lv_iload hx hb dX7_lastRow_86 (lv_at hl 5 rfl) ?_
            obtain ⟨hi, x8, e_x8, hf⟩ := ld_some hf
            refine ldr (t0 := 0) X hP wM_5 rfl hi e_x8 dX7_lastRow_88 ?_
            refine lv_iload_n hx hb dX7_lastRow_89 rfl (lv_at hl 3 rfl) ?_
            refine lv_icmp_le (tgt := 97) hx hb dX7_lastRow_90 (by decide) (fun hq => ?_) (fun hq => ?_)
            · have hf := if_t hq hf
              exact b_X7_lastRow_B97 X hN (fun hf hP hS hl => ih hf hP hS hl) hf hP hS (lv_sub hl [0, 1, 2, 3, 4, 5] rfl)
            · have hf := if_f hq hf
              refine lv_iconst (v := 1) hx hb dX7_lastRow_93 rfl ?_
              refine lv_goto (tgt := 98) hx hb dX7_lastRow_94 (by decide) ?_
              exact b_X7_lastRow_B98 X hN (fun hf hP hS hl => ih hf hP hS hl) hf hP hS (lv_sub hl [0, 1, 2, 3, 4, 5] rfl)
set_option maxHeartbeats 4000000 in
set_option maxRecDepth 100000 in
theorem b_X7_lastRow (X : cx p s m meth c args cX7_lastRow 7 (some .int) RX7 D [(cI, .int), (cZ, .boolean)]) (hN : nj ad 30) {σ : St} {a1 a2 : Int32} {r : Int32} (hf : f_X7_lastRow a1 a2 σ = some r) {H : Heap} {locs : List Loc} {ls : Array Slot} (hP : va_P D vwCl (wM ad cI cZ σ) H) (hS : va_S (aw ad 30) s.heap H locs) (hl : lv_has ls 7 [(0, .ref (ad 0)), (1, .int a1), (2, .int a2)]) : W p l e rm_X7_lastRow s m args below meth c H locs 0 0 (MQ below (qI D (wM ad cI cZ) (aw ad 30) r σ) args s 0 0 (aw ad 30)) (F0 m 0 ls []) := by
  obtain ⟨hx, hb, hml, hown, hts, hr, hlk, hK⟩ := id X
  rw [f_X7_lastRow] at hf
  refine lv_aload_n hx hb dX7_lastRow_0 rfl (lv_at hl 0 rfl) ?_
  refine lv_iload_n hx hb dX7_lastRow_1 rfl (lv_at hl 1 rfl) ?_
  refine lv_iload_n hx hb dX7_lastRow_2 rfl (lv_at hl 2 rfl) ?_
  obtain ⟨x1, hc, hf⟩ := bi_some hf
  refine kVi (As := [.int a1, .int a2]) (rest := []) (wd := (wM ad cI cZ)) (q0 := 0) (ci := 7) X (c_X7_reachesAcross (l := l) (D := D) (σ := σ) hN hc) (cw_X7_121 X.2.2.2.2.1 ⟨Nat.le_of_ble_eq_true rfl, Nat.le_of_ble_eq_true rfl⟩) rfl rfl hP hS hl rfl rfl (Nat.le_of_ble_eq_true rfl) dX7_lastRow_3 (fun H locs hP hS => ?_)
  refine lv_if_ne (tgt := 12) hx hb dX7_lastRow_6 (by decide) (fun hq => ?_) (fun hq => ?_)
  · have hf := if_f hq hf
    refine lv_aload_n hx hb dX7_lastRow_12 rfl (lv_at hl 0 rfl) ?_
    refine fg_X7_25 X hP dX7_lastRow_13 ?_
    refine lv_iload_n hx hb dX7_lastRow_16 rfl (lv_at hl 1 rfl) ?_
    obtain ⟨hi, x2, e_x2, hf⟩ := ld_some hf
    refine ldr (t0 := 0) X hP wM_6 rfl hi e_x2 dX7_lastRow_17 ?_
    refine lv_istore_n (lv' := [(3, .int x2), (0, .ref (ad 0)), (1, .int a1), (2, .int a2)]) hx hb dX7_lastRow_18 rfl hl (by decide) rfl (fun ls hl => ?_)
    refine lv_bipush (v := 29) hx hb dX7_lastRow_19 rfl ?_
    refine lv_istore (lv' := [(4, .int 29), (3, .int x2), (0, .ref (ad 0)), (1, .int a1), (2, .int a2)]) hx hb dX7_lastRow_21 hl (by decide) rfl (fun ls hl => ?_)
    refine lv_iconst (v := 0) hx hb dX7_lastRow_23 rfl ?_
    refine lv_istore (lv' := [(5, .int 0), (4, .int 29), (3, .int x2), (0, .ref (ad 0)), (1, .int a1), (2, .int a2)]) hx hb dX7_lastRow_24 hl (by decide) rfl (fun ls hl => ?_)
    exact b_X7_lastRow_L26 X hN _ hf hP hS (lv_sub hl [3, 4, 5, 2, 1, 0] rfl)
  · have hf := if_t hq hf
    refine lv_bipush (v := (-9)) hx hb dX7_lastRow_9 rfl ?_
    exact rI X hP hS hf dX7_lastRow_11
set_option maxHeartbeats 4000000 in
set_option maxRecDepth 100000 in
theorem c_X7_lastRow {l : Launch} {D : va_G} {ad : Nat → Nat} {cI cZ : ClassId} (hN : nj ad 30) {σ : St} {a1 a2 : Int32} {r : Int32} (hf : f_X7_lastRow a1 a2 σ = some r) : Met l yX7_lastRow (.code yX7_lastRow cX7_lastRow 7 (some .int) :: wsL_law) rm_X7_lastRow (va_Pc [.ref (ad 0), .int a1, .int a2] (pw D (wM ad cI cZ) [(cI, .int), (cZ, .boolean)] σ)) (qI D (wM ad cI cZ) (aw ad 30) r σ) 0 0 (aw ad 30) :=
  met_mk (by decide) rfl (Nat.le_of_ble_eq_true rfl) (fun p e s m below meth c X hP ls hl => b_X7_lastRow X hN hf hP va_S.rf hl)
set_option maxHeartbeats 4000000 in
set_option maxRecDepth 100000 in
theorem b_X7_headOver_B63 (X : cx p s m meth c args cX7_headOver 4 (some .int) RX7 D [(cI, .int), (cZ, .boolean)]) (hN : nj ad 30) {σ : St} {a1 a2 t0 : Int32} {r : Int32} {K : Int32 → Int32 → Option Int32} (hk : ∀ {b1 b2 : Int32} {H : Heap} {locs : List Loc} {ls : Array Slot}, K b1 b2 = some r → va_P D vwCl (wM ad cI cZ σ) H → va_S (aw ad 30) s.heap H locs → lv_has ls 4 [(0, .ref (ad 0)), (1, .int b1), (2, .int b2)] → W p l e rm_X7_headOver s m args below meth c H locs 0 0 (MQ below (qI D (wM ad cI cZ) (aw ad 30) r σ) args s 0 0 (aw ad 30)) (F0 m 2 ls [])) (hf : f_X7_headOver_B63 σ K a1 a2 t0 = some r) {H : Heap} {locs : List Loc} {ls : Array Slot} (hP : va_P D vwCl (wM ad cI cZ σ) H) (hS : va_S (aw ad 30) s.heap H locs) (hl : lv_has ls 4 [(0, .ref (ad 0)), (1, .int a1), (2, .int a2)]) : W p l e rm_X7_headOver s m args below meth c H locs 0 0 (MQ below (qI D (wM ad cI cZ) (aw ad 30) r σ) args s 0 0 (aw ad 30)) (F0 m 63 ls [.int t0]) := by
  obtain ⟨hx, hb, hml, hown, hts, hr, hlk, hK⟩ := id X
  rw [f_X7_headOver_B63] at hf
  refine lv_istore_n (lv' := [(3, .int t0), (0, .ref (ad 0)), (1, .int a1), (2, .int a2)]) hx hb dX7_headOver_63 rfl hl (by decide) rfl (fun ls hl => ?_)
  refine lv_iload_n hx hb dX7_headOver_64 rfl (lv_at hl 0 rfl) ?_
  refine lv_if_eq (tgt := 90) hx hb dX7_headOver_65 (by decide) (fun hq => ?_) (fun hq => ?_)
  · have hf := if_t hq hf
    refine lv_iinc (v := (a2 + 1)) (lv' := [(2, .int (a2 + 1)), (3, .int t0), (0, .ref (ad 0)), (1, .int a1)]) hx hb dX7_headOver_90 hl (k := 3) rfl rfl (by decide) rfl (fun ls hl => ?_)
    refine lv_goto (tgt := 2) hx hb dX7_headOver_93 (by decide) ?_
    exact hk hf hP hS (lv_sub hl [2, 3, 0] rfl)
  · have hf := if_f hq hf
    refine lv_aload_n hx hb dX7_headOver_68 rfl (lv_at hl 1 rfl) ?_
    refine lv_iload_n hx hb dX7_headOver_69 rfl (lv_at hl 3 rfl) ?_
    refine lv_aload_n hx hb dX7_headOver_70 rfl (lv_at hl 1 rfl) ?_
    refine fg_X7_16 X hP dX7_headOver_71 ?_
    refine lv_iload_n hx hb dX7_headOver_74 rfl (lv_at hl 2 rfl) ?_
    obtain ⟨hi, x1, e_x1, hf⟩ := ld_some hf
    refine ldr (t0 := 0) X hP wM_3 rfl hi e_x1 dX7_headOver_75 ?_
    obtain ⟨x2, hc, hf⟩ := bi_some hf
    refine kVi (As := [.int a2, .int x1]) (rest := []) (wd := (wM ad cI cZ)) (q0 := 0) (ci := 7) X (c_X7_lastRow (l := l) (D := D) (σ := σ) hN hc) (cw_X7_125 X.2.2.2.2.1 ⟨Nat.le_of_ble_eq_true rfl, Nat.le_of_ble_eq_true rfl⟩) rfl rfl hP hS hl rfl rfl (Nat.le_of_ble_eq_true rfl) dX7_headOver_76 (fun H locs hP hS => ?_)
    refine lv_aload_n hx hb dX7_headOver_79 rfl (lv_at hl 1 rfl) ?_
    refine fg_X7_22 X hP dX7_headOver_80 ?_
    refine lv_iload_n hx hb dX7_headOver_83 rfl (lv_at hl 2 rfl) ?_
    obtain ⟨hi, x3, e_x3, hf⟩ := ld_some hf
    refine ldr (t0 := 0) X hP wM_5 rfl hi e_x3 dX7_headOver_84 ?_
    refine lv_icmp_lt (tgt := 90) hx hb dX7_headOver_85 (by decide) (fun hq => ?_) (fun hq => ?_)
    · have hf := if_t hq hf
      refine lv_iinc (v := (a2 + 1)) (lv' := [(2, .int (a2 + 1)), (3, .int t0), (0, .ref (ad 0)), (1, .int a1)]) hx hb dX7_headOver_90 hl (k := 3) rfl rfl (by decide) rfl (fun ls hl => ?_)
      refine lv_goto (tgt := 2) hx hb dX7_headOver_93 (by decide) ?_
      exact hk hf hP hS (lv_sub hl [2, 3, 0] rfl)
    · have hf := if_f hq hf
      refine lv_iload_n hx hb dX7_headOver_88 rfl (lv_at hl 3 rfl) ?_
      exact rI X hP hS hf dX7_headOver_89
set_option maxHeartbeats 4000000 in
set_option maxRecDepth 100000 in
theorem b_X7_headOver_B62 (X : cx p s m meth c args cX7_headOver 4 (some .int) RX7 D [(cI, .int), (cZ, .boolean)]) (hN : nj ad 30) {σ : St} {a1 a2 : Int32} {r : Int32} {K : Int32 → Int32 → Option Int32} (hk : ∀ {b1 b2 : Int32} {H : Heap} {locs : List Loc} {ls : Array Slot}, K b1 b2 = some r → va_P D vwCl (wM ad cI cZ σ) H → va_S (aw ad 30) s.heap H locs → lv_has ls 4 [(0, .ref (ad 0)), (1, .int b1), (2, .int b2)] → W p l e rm_X7_headOver s m args below meth c H locs 0 0 (MQ below (qI D (wM ad cI cZ) (aw ad 30) r σ) args s 0 0 (aw ad 30)) (F0 m 2 ls [])) (hf : f_X7_headOver_B62 σ K a1 a2 = some r) {H : Heap} {locs : List Loc} {ls : Array Slot} (hP : va_P D vwCl (wM ad cI cZ σ) H) (hS : va_S (aw ad 30) s.heap H locs) (hl : lv_has ls 4 [(0, .ref (ad 0)), (1, .int a1), (2, .int a2)]) : W p l e rm_X7_headOver s m args below meth c H locs 0 0 (MQ below (qI D (wM ad cI cZ) (aw ad 30) r σ) args s 0 0 (aw ad 30)) (F0 m 62 ls []) := by
  obtain ⟨hx, hb, hml, hown, hts, hr, hlk, hK⟩ := id X
  rw [f_X7_headOver_B62] at hf
  refine lv_iconst (v := 0) hx hb dX7_headOver_62 rfl ?_
  exact b_X7_headOver_B63 X hN hk hf hP hS (lv_sub hl [0, 1, 2] rfl)
set_option maxHeartbeats 4000000 in
set_option maxRecDepth 100000 in
theorem b_X7_headOver_L2 (X : cx p s m meth c args cX7_headOver 4 (some .int) RX7 D [(cI, .int), (cZ, .boolean)]) (hN : nj ad 30) : ∀ (n : Nat) {σ : St} {a1 a2 : Int32} {r : Int32}, f_X7_headOver_L2 σ n a1 a2 = some r → ∀ {H : Heap} {locs : List Loc} {ls : Array Slot}, va_P D vwCl (wM ad cI cZ σ) H → va_S (aw ad 30) s.heap H locs → lv_has ls 4 [(0, .ref (ad 0)), (1, .int a1), (2, .int a2)] → W p l e rm_X7_headOver s m args below meth c H locs 0 0 (MQ below (qI D (wM ad cI cZ) (aw ad 30) r σ) args s 0 0 (aw ad 30)) (F0 m 2 ls []) := by
  intro n
  induction n with
  | zero =>
    intro σ a1 a2 r hf
    rw [f_X7_headOver_L2] at hf
    cases hf
  | succ n ih =>
    intro σ a1 a2 r hf H locs ls hP hS hl
    obtain ⟨hx, hb, hml, hown, hts, hr, hlk, hK⟩ := id X
    rw [f_X7_headOver_L2] at hf
    refine lv_iload_n hx hb dX7_headOver_2 rfl (lv_at hl 2 rfl) ?_
    refine lv_aload_n hx hb dX7_headOver_3 rfl (lv_at hl 0 rfl) ?_
    obtain ⟨x1, e_x1, hf⟩ := lf_some hf
    refine fg_X7_98 X hP e_x1 dX7_headOver_4 ?_
    refine lv_icmp_ge (tgt := 96) hx hb dX7_headOver_7 (by decide) (fun hq => ?_) (fun hq => ?_)
    · have hf := if_t hq hf
      refine lv_bipush (v := (-9)) hx hb dX7_headOver_96 rfl ?_
      exact rI X hP hS hf dX7_headOver_98
    · have hf := if_f hq hf
      refine lv_aload_n hx hb dX7_headOver_10 rfl (lv_at hl 0 rfl) ?_
      refine fg_X7_13 X hP dX7_headOver_11 ?_
      refine lv_iload_n hx hb dX7_headOver_14 rfl (lv_at hl 2 rfl) ?_
      obtain ⟨hi, x2, e_x2, hf⟩ := ld_some hf
      refine ldr (t0 := 0) X hP wM_2 rfl hi e_x2 dX7_headOver_15 ?_
      refine lv_if_ne (tgt := 62) hx hb dX7_headOver_16 (by decide) (fun hq => ?_) (fun hq => ?_)
      · have hf := if_f hq hf
        exact b_X7_headOver_B62 X hN (fun hf hP hS hl => ih hf hP hS hl) hf hP hS (lv_sub hl [0, 1, 2] rfl)
      · have hf := if_t hq hf
        refine lv_aload_n hx hb dX7_headOver_19 rfl (lv_at hl 0 rfl) ?_
        refine fg_X7_7 X hP dX7_headOver_20 ?_
        refine lv_iload_n hx hb dX7_headOver_23 rfl (lv_at hl 2 rfl) ?_
        obtain ⟨hi, x3, e_x3, hf⟩ := ld_some hf
        refine ldr (t0 := 0) X hP wM_1 rfl hi e_x3 dX7_headOver_24 ?_
        refine lv_aload_n hx hb dX7_headOver_25 rfl (lv_at hl 0 rfl) ?_
        refine fg_X7_7 X hP dX7_headOver_26 ?_
        refine lv_iload_n hx hb dX7_headOver_29 rfl (lv_at hl 1 rfl) ?_
        obtain ⟨hi, x4, e_x4, hf⟩ := ld_some hf
        refine ldr (t0 := 0) X hP wM_1 rfl hi e_x4 dX7_headOver_30 ?_
        refine lv_icmp_ne (tgt := 62) hx hb dX7_headOver_31 (by decide) (fun hq => ?_) (fun hq => ?_)
        · have hf := if_f hq hf
          exact b_X7_headOver_B62 X hN (fun hf hP hS hl => ih hf hP hS hl) hf hP hS (lv_sub hl [0, 1, 2] rfl)
        · have hf := if_t hq hf
          refine lv_aload_n hx hb dX7_headOver_34 rfl (lv_at hl 0 rfl) ?_
          refine fg_X7_22 X hP dX7_headOver_35 ?_
          refine lv_iload_n hx hb dX7_headOver_38 rfl (lv_at hl 1 rfl) ?_
          obtain ⟨hi, x5, e_x5, hf⟩ := ld_some hf
          refine ldr (t0 := 0) X hP wM_5 rfl hi e_x5 dX7_headOver_39 ?_
          refine lv_aload_n hx hb dX7_headOver_40 rfl (lv_at hl 0 rfl) ?_
          refine fg_X7_25 X hP dX7_headOver_41 ?_
          refine lv_iload_n hx hb dX7_headOver_44 rfl (lv_at hl 2 rfl) ?_
          obtain ⟨hi, x6, e_x6, hf⟩ := ld_some hf
          refine ldr (t0 := 0) X hP wM_6 rfl hi e_x6 dX7_headOver_45 ?_
          refine lv_icmp_le (tgt := 62) hx hb dX7_headOver_46 (by decide) (fun hq => ?_) (fun hq => ?_)
          · have hf := if_t hq hf
            exact b_X7_headOver_B62 X hN (fun hf hP hS hl => ih hf hP hS hl) hf hP hS (lv_sub hl [0, 1, 2] rfl)
          · have hf := if_f hq hf
            refine lv_aload_n hx hb dX7_headOver_49 rfl (lv_at hl 0 rfl) ?_
            refine fg_X7_13 X hP dX7_headOver_50 ?_
            refine lv_iload_n hx hb dX7_headOver_53 rfl (lv_at hl 1 rfl) ?_
            obtain ⟨hi, x7, e_x7, hf⟩ := ld_some hf
            refine ldr (t0 := 0) X hP wM_2 rfl hi e_x7 dX7_headOver_54 ?_
            refine lv_if_eq (tgt := 62) hx hb dX7_headOver_55 (by decide) (fun hq => ?_) (fun hq => ?_)
            · have hf := if_t hq hf
              exact b_X7_headOver_B62 X hN (fun hf hP hS hl => ih hf hP hS hl) hf hP hS (lv_sub hl [0, 1, 2] rfl)
            · have hf := if_f hq hf
              refine lv_iconst (v := 1) hx hb dX7_headOver_58 rfl ?_
              refine lv_goto (tgt := 63) hx hb dX7_headOver_59 (by decide) ?_
              exact b_X7_headOver_B63 X hN (fun hf hP hS hl => ih hf hP hS hl) hf hP hS (lv_sub hl [0, 1, 2] rfl)
set_option maxHeartbeats 4000000 in
set_option maxRecDepth 100000 in
theorem b_X7_headOver (X : cx p s m meth c args cX7_headOver 4 (some .int) RX7 D [(cI, .int), (cZ, .boolean)]) (hN : nj ad 30) {σ : St} {a1 : Int32} {r : Int32} (hf : f_X7_headOver a1 σ = some r) {H : Heap} {locs : List Loc} {ls : Array Slot} (hP : va_P D vwCl (wM ad cI cZ σ) H) (hS : va_S (aw ad 30) s.heap H locs) (hl : lv_has ls 4 [(0, .ref (ad 0)), (1, .int a1)]) : W p l e rm_X7_headOver s m args below meth c H locs 0 0 (MQ below (qI D (wM ad cI cZ) (aw ad 30) r σ) args s 0 0 (aw ad 30)) (F0 m 0 ls []) := by
  obtain ⟨hx, hb, hml, hown, hts, hr, hlk, hK⟩ := id X
  rw [f_X7_headOver] at hf
  refine lv_iconst (v := 0) hx hb dX7_headOver_0 rfl ?_
  refine lv_istore_n (lv' := [(2, .int 0), (0, .ref (ad 0)), (1, .int a1)]) hx hb dX7_headOver_1 rfl hl (by decide) rfl (fun ls hl => ?_)
  exact b_X7_headOver_L2 X hN _ hf hP hS (lv_sub hl [1, 2, 0] rfl)
set_option maxHeartbeats 4000000 in
set_option maxRecDepth 100000 in
theorem c_X7_headOver {l : Launch} {D : va_G} {ad : Nat → Nat} {cI cZ : ClassId} (hN : nj ad 30) {σ : St} {a1 : Int32} {r : Int32} (hf : f_X7_headOver a1 σ = some r) : Met l yX7_headOver (.code yX7_headOver cX7_headOver 4 (some .int) :: wsL_law) rm_X7_headOver (va_Pc [.ref (ad 0), .int a1] (pw D (wM ad cI cZ) [(cI, .int), (cZ, .boolean)] σ)) (qI D (wM ad cI cZ) (aw ad 30) r σ) 0 0 (aw ad 30) :=
  met_mk (by decide) rfl (Nat.le_of_ble_eq_true rfl) (fun p e s m below meth c X hP ls hl => b_X7_headOver X hN hf hP va_S.rf hl)
set_option maxHeartbeats 4000000 in
set_option maxRecDepth 100000 in
theorem b_X7_comesBehind (X : cx p s m meth c args cX7_comesBehind 3 none RX7 D [(cI, .int), (cZ, .boolean)]) (hN : nj ad 30) {σ : St} {a1 a2 : Int32} {σ' : St} (hf : f_X7_comesBehind a1 a2 σ = some σ') {H : Heap} {locs : List Loc} {ls : Array Slot} (hP : va_P D vwCl (wM ad cI cZ σ) H) (hS : va_S (aw ad 30) s.heap H locs) (hl : lv_has ls 3 [(0, .ref (ad 0)), (1, .int a1), (2, .int a2)]) : W p l e rm_X7_comesBehind s m args below meth c H locs 0 0 (MQ below (qV D (wM ad cI cZ) (aw ad 30) σ') args s 0 0 (aw ad 30)) (F0 m 0 ls []) := by
  obtain ⟨hx, hb, hml, hown, hts, hr, hlk, hK⟩ := id X
  rw [f_X7_comesBehind] at hf
  refine lv_aload_n hx hb dX7_comesBehind_0 rfl (lv_at hl 0 rfl) ?_
  refine fg_X7_64 X hP dX7_comesBehind_1 ?_
  refine lv_bipush (v := 24) hx hb dX7_comesBehind_4 rfl ?_
  refine lv_iload_n hx hb dX7_comesBehind_6 rfl (lv_at hl 1 rfl) ?_
  refine lv_imul hx hb dX7_comesBehind_7 ?_
  refine lv_aload_n hx hb dX7_comesBehind_8 rfl (lv_at hl 0 rfl) ?_
  refine fg_X7_61 X hP dX7_comesBehind_9 ?_
  refine lv_iload_n hx hb dX7_comesBehind_12 rfl (lv_at hl 1 rfl) ?_
  obtain ⟨hi, x1, e_x1, hf⟩ := ld_some hf
  refine ldr (t0 := 0) X hP wM_18 rfl hi e_x1 dX7_comesBehind_13 ?_
  refine lv_iadd hx hb dX7_comesBehind_14 ?_
  refine lv_iload_n hx hb dX7_comesBehind_15 rfl (lv_at hl 2 rfl) ?_
  obtain ⟨hi, σ2, e_σ2, hf⟩ := sd_some hf
  refine str (t0 := 0) X hP (wM_D hN) hS wM_19 wM_s19 rfl hi e_σ2 dX7_comesBehind_16 (fun H locs hP hS => ?_)
  refine lv_aload_n hx hb dX7_comesBehind_17 rfl (lv_at hl 0 rfl) ?_
  refine fg_X7_61 X hP dX7_comesBehind_18 ?_
  refine lv_iload_n hx hb dX7_comesBehind_21 rfl (lv_at hl 1 rfl) ?_
  refine lv_dup2_11 hx hb dX7_comesBehind_22 rfl rfl ?_
  obtain ⟨hi, x3, e_x3, hf⟩ := ld_some hf
  refine ldr (t0 := 0) X hP wM_18 rfl hi e_x3 dX7_comesBehind_23 ?_
  refine lv_iconst (v := 1) hx hb dX7_comesBehind_24 rfl ?_
  refine lv_iadd hx hb dX7_comesBehind_25 ?_
  obtain ⟨hi, σ4, e_σ4, hf⟩ := sd_some hf
  refine str (t0 := 0) X hP (wM_D hN) hS wM_18 wM_s18 rfl hi e_σ4 dX7_comesBehind_26 (fun H locs hP hS => ?_)
  exact rVe X hP hS hf dX7_comesBehind_27
set_option maxHeartbeats 4000000 in
set_option maxRecDepth 100000 in
theorem c_X7_comesBehind {l : Launch} {D : va_G} {ad : Nat → Nat} {cI cZ : ClassId} (hN : nj ad 30) {σ : St} {a1 a2 : Int32} {σ' : St} (hf : f_X7_comesBehind a1 a2 σ = some σ') : Met l yX7_comesBehind (.code yX7_comesBehind cX7_comesBehind 3 none :: wsL_law) rm_X7_comesBehind (va_Pc [.ref (ad 0), .int a1, .int a2] (pw D (wM ad cI cZ) [(cI, .int), (cZ, .boolean)] σ)) (qV D (wM ad cI cZ) (aw ad 30) σ') 0 0 (aw ad 30) :=
  met_mk (by decide) rfl (Nat.le_of_ble_eq_true rfl) (fun p e s m below meth c X hP ls hl => b_X7_comesBehind X hN hf hP va_S.rf hl)
set_option maxHeartbeats 4000000 in
set_option maxRecDepth 100000 in
theorem b_X7_isAhead (X : cx p s m meth c args cX7_isAhead 3 (some .boolean) RX7 D [(cI, .int), (cZ, .boolean)]) (hN : nj ad 30) {σ : St} {a1 a2 : Int32} {r : Int32} (hf : f_X7_isAhead a1 a2 σ = some r) {H : Heap} {locs : List Loc} {ls : Array Slot} (hP : va_P D vwCl (wM ad cI cZ σ) H) (hS : va_S (aw ad 30) s.heap H locs) (hl : lv_has ls 3 [(0, .ref (ad 0)), (1, .int a1), (2, .int a2)]) : W p l e rm_X7_isAhead s m args below meth c H locs 0 0 (MQ below (qI D (wM ad cI cZ) (aw ad 30) r σ) args s 0 0 (aw ad 30)) (F0 m 0 ls []) := by
  obtain ⟨hx, hb, hml, hown, hts, hr, hlk, hK⟩ := id X
  rw [f_X7_isAhead] at hf
  refine lv_aload_n hx hb dX7_isAhead_0 rfl (lv_at hl 0 rfl) ?_
  refine fg_X7_16 X hP dX7_isAhead_1 ?_
  refine lv_iload_n hx hb dX7_isAhead_4 rfl (lv_at hl 1 rfl) ?_
  obtain ⟨hi, x1, e_x1, hf⟩ := ld_some hf
  refine ldr (t0 := 0) X hP wM_3 rfl hi e_x1 dX7_isAhead_5 ?_
  refine lv_aload_n hx hb dX7_isAhead_6 rfl (lv_at hl 0 rfl) ?_
  refine fg_X7_16 X hP dX7_isAhead_7 ?_
  refine lv_iload_n hx hb dX7_isAhead_10 rfl (lv_at hl 2 rfl) ?_
  obtain ⟨hi, x2, e_x2, hf⟩ := ld_some hf
  refine ldr (t0 := 0) X hP wM_3 rfl hi e_x2 dX7_isAhead_11 ?_
  refine lv_icmp_eq (tgt := 38) hx hb dX7_isAhead_12 (by decide) (fun hq => ?_) (fun hq => ?_)
  · have hf := if_t hq hf
    refine lv_aload_n hx hb dX7_isAhead_38 rfl (lv_at hl 0 rfl) ?_
    refine fg_X7_22 X hP dX7_isAhead_39 ?_
    refine lv_iload_n hx hb dX7_isAhead_42 rfl (lv_at hl 1 rfl) ?_
    obtain ⟨hi, x3, e_x3, hf⟩ := ld_some hf
    refine ldr (t0 := 0) X hP wM_5 rfl hi e_x3 dX7_isAhead_43 ?_
    refine lv_aload_n hx hb dX7_isAhead_44 rfl (lv_at hl 0 rfl) ?_
    refine fg_X7_22 X hP dX7_isAhead_45 ?_
    refine lv_iload_n hx hb dX7_isAhead_48 rfl (lv_at hl 2 rfl) ?_
    obtain ⟨hi, x4, e_x4, hf⟩ := ld_some hf
    refine ldr (t0 := 0) X hP wM_5 rfl hi e_x4 dX7_isAhead_49 ?_
    refine lv_icmp_ge (tgt := 57) hx hb dX7_isAhead_50 (by decide) (fun hq => ?_) (fun hq => ?_)
    · have hf := if_t hq hf
      refine lv_iconst (v := 0) hx hb dX7_isAhead_57 rfl ?_
      exact rZ X hP hS hf dX7_isAhead_58
    · have hf := if_f hq hf
      refine lv_iconst (v := 1) hx hb dX7_isAhead_53 rfl ?_
      refine lv_goto (tgt := 58) hx hb dX7_isAhead_54 (by decide) ?_
      exact rZ X hP hS hf dX7_isAhead_58
  · have hf := if_f hq hf
    refine lv_aload_n hx hb dX7_isAhead_15 rfl (lv_at hl 0 rfl) ?_
    refine fg_X7_16 X hP dX7_isAhead_16 ?_
    refine lv_iload_n hx hb dX7_isAhead_19 rfl (lv_at hl 1 rfl) ?_
    obtain ⟨hi, x5, e_x5, hf⟩ := ld_some hf
    refine ldr (t0 := 0) X hP wM_3 rfl hi e_x5 dX7_isAhead_20 ?_
    refine lv_aload_n hx hb dX7_isAhead_21 rfl (lv_at hl 0 rfl) ?_
    refine fg_X7_16 X hP dX7_isAhead_22 ?_
    refine lv_iload_n hx hb dX7_isAhead_25 rfl (lv_at hl 2 rfl) ?_
    obtain ⟨hi, x6, e_x6, hf⟩ := ld_some hf
    refine ldr (t0 := 0) X hP wM_3 rfl hi e_x6 dX7_isAhead_26 ?_
    refine lv_icmp_ge (tgt := 34) hx hb dX7_isAhead_27 (by decide) (fun hq => ?_) (fun hq => ?_)
    · have hf := if_t hq hf
      refine lv_iconst (v := 0) hx hb dX7_isAhead_34 rfl ?_
      refine lv_goto (tgt := 58) hx hb dX7_isAhead_35 (by decide) ?_
      exact rZ X hP hS hf dX7_isAhead_58
    · have hf := if_f hq hf
      refine lv_iconst (v := 1) hx hb dX7_isAhead_30 rfl ?_
      refine lv_goto (tgt := 58) hx hb dX7_isAhead_31 (by decide) ?_
      exact rZ X hP hS hf dX7_isAhead_58
set_option maxHeartbeats 4000000 in
set_option maxRecDepth 100000 in
theorem c_X7_isAhead {l : Launch} {D : va_G} {ad : Nat → Nat} {cI cZ : ClassId} (hN : nj ad 30) {σ : St} {a1 a2 : Int32} {r : Int32} (hf : f_X7_isAhead a1 a2 σ = some r) : Met l yX7_isAhead (.code yX7_isAhead cX7_isAhead 3 (some .boolean) :: wsL_law) rm_X7_isAhead (va_Pc [.ref (ad 0), .int a1, .int a2] (pw D (wM ad cI cZ) [(cI, .int), (cZ, .boolean)] σ)) (qI D (wM ad cI cZ) (aw ad 30) r σ) 0 0 (aw ad 30) :=
  met_mk (by decide) rfl (Nat.le_of_ble_eq_true rfl) (fun p e s m below meth c X hP ls hl => b_X7_isAhead X hN hf hP va_S.rf hl)
set_option maxHeartbeats 4000000 in
set_option maxRecDepth 100000 in
theorem b_X7_comesUnder_L15 (X : cx p s m meth c args cX7_comesUnder 4 none RX7 D [(cI, .int), (cZ, .boolean)]) (hN : nj ad 30) : ∀ (n : Nat) {σ : St} {a1 a2 a3 : Int32} {σ' : St}, f_X7_comesUnder_L15 n a1 a2 a3 σ = some σ' → ∀ {H : Heap} {locs : List Loc} {ls : Array Slot}, va_P D vwCl (wM ad cI cZ σ) H → va_S (aw ad 30) s.heap H locs → lv_has ls 4 [(0, .ref (ad 0)), (1, .int a1), (2, .int a2), (3, .int a3)] → W p l e rm_X7_comesUnder s m args below meth c H locs 0 0 (MQ below (qV D (wM ad cI cZ) (aw ad 30) σ') args s 0 0 (aw ad 30)) (F0 m 15 ls []) := by
  intro n
  induction n with
  | zero =>
    intro σ a1 a2 a3 σ' hf
    rw [f_X7_comesUnder_L15] at hf
    cases hf
  | succ n ih =>
    intro σ a1 a2 a3 σ' hf H locs ls hP hS hl
    obtain ⟨hx, hb, hml, hown, hts, hr, hlk, hK⟩ := id X
    rw [f_X7_comesUnder_L15] at hf
    refine lv_iload_n hx hb dX7_comesUnder_15 rfl (lv_at hl 3 rfl) ?_
    refine lv_if_le (tgt := 84) hx hb dX7_comesUnder_16 (by decide) (fun hq => ?_) (fun hq => ?_)
    · have hf := if_t hq hf
      exact rVe X hP hS hf dX7_comesUnder_84
    · have hf := if_f hq hf
      refine lv_aload_n hx hb dX7_comesUnder_19 rfl (lv_at hl 0 rfl) ?_
      refine lv_iload_n hx hb dX7_comesUnder_20 rfl (lv_at hl 2 rfl) ?_
      refine lv_aload_n hx hb dX7_comesUnder_21 rfl (lv_at hl 0 rfl) ?_
      refine fg_X7_64 X hP dX7_comesUnder_22 ?_
      refine lv_bipush (v := 24) hx hb dX7_comesUnder_25 rfl ?_
      refine lv_iload_n hx hb dX7_comesUnder_27 rfl (lv_at hl 1 rfl) ?_
      refine lv_imul hx hb dX7_comesUnder_28 ?_
      refine lv_iload_n hx hb dX7_comesUnder_29 rfl (lv_at hl 3 rfl) ?_
      refine lv_iadd hx hb dX7_comesUnder_30 ?_
      refine lv_iconst (v := 1) hx hb dX7_comesUnder_31 rfl ?_
      refine lv_isub hx hb dX7_comesUnder_32 ?_
      obtain ⟨hi, x1, e_x1, hf⟩ := ld_some hf
      refine ldr (t0 := 0) X hP wM_19 rfl hi e_x1 dX7_comesUnder_33 ?_
      obtain ⟨x2, hc, hf⟩ := bi_some hf
      refine kVi (As := [.int a2, .int x1]) (rest := []) (wd := (wM ad cI cZ)) (q0 := 0) (ci := 7) X (c_X7_isAhead (l := l) (D := D) (σ := σ) hN hc) (cw_X7_133 X.2.2.2.2.1 ⟨Nat.le_of_ble_eq_true rfl, Nat.le_of_ble_eq_true rfl⟩) rfl rfl hP hS hl rfl rfl (Nat.le_of_ble_eq_true rfl) dX7_comesUnder_34 (fun H locs hP hS => ?_)
      refine lv_if_eq (tgt := 84) hx hb dX7_comesUnder_37 (by decide) (fun hq => ?_) (fun hq => ?_)
      · have hf := if_t hq hf
        exact rVe X hP hS hf dX7_comesUnder_84
      · have hf := if_f hq hf
        refine lv_aload_n hx hb dX7_comesUnder_40 rfl (lv_at hl 0 rfl) ?_
        refine fg_X7_64 X hP dX7_comesUnder_41 ?_
        refine lv_bipush (v := 24) hx hb dX7_comesUnder_44 rfl ?_
        refine lv_iload_n hx hb dX7_comesUnder_46 rfl (lv_at hl 1 rfl) ?_
        refine lv_imul hx hb dX7_comesUnder_47 ?_
        refine lv_iload_n hx hb dX7_comesUnder_48 rfl (lv_at hl 3 rfl) ?_
        refine lv_iadd hx hb dX7_comesUnder_49 ?_
        refine lv_aload_n hx hb dX7_comesUnder_50 rfl (lv_at hl 0 rfl) ?_
        refine fg_X7_64 X hP dX7_comesUnder_51 ?_
        refine lv_bipush (v := 24) hx hb dX7_comesUnder_54 rfl ?_
        refine lv_iload_n hx hb dX7_comesUnder_56 rfl (lv_at hl 1 rfl) ?_
        refine lv_imul hx hb dX7_comesUnder_57 ?_
        refine lv_iload_n hx hb dX7_comesUnder_58 rfl (lv_at hl 3 rfl) ?_
        refine lv_iadd hx hb dX7_comesUnder_59 ?_
        refine lv_iconst (v := 1) hx hb dX7_comesUnder_60 rfl ?_
        refine lv_isub hx hb dX7_comesUnder_61 ?_
        obtain ⟨hi, x3, e_x3, hf⟩ := ld_some hf
        refine ldr (t0 := 0) X hP wM_19 rfl hi e_x3 dX7_comesUnder_62 ?_
        obtain ⟨hi, σ4, e_σ4, hf⟩ := sd_some hf
        refine str (t0 := 0) X hP (wM_D hN) hS wM_19 wM_s19 rfl hi e_σ4 dX7_comesUnder_63 (fun H locs hP hS => ?_)
        refine lv_aload_n hx hb dX7_comesUnder_64 rfl (lv_at hl 0 rfl) ?_
        refine fg_X7_64 X hP dX7_comesUnder_65 ?_
        refine lv_bipush (v := 24) hx hb dX7_comesUnder_68 rfl ?_
        refine lv_iload_n hx hb dX7_comesUnder_70 rfl (lv_at hl 1 rfl) ?_
        refine lv_imul hx hb dX7_comesUnder_71 ?_
        refine lv_iload_n hx hb dX7_comesUnder_72 rfl (lv_at hl 3 rfl) ?_
        refine lv_iadd hx hb dX7_comesUnder_73 ?_
        refine lv_iconst (v := 1) hx hb dX7_comesUnder_74 rfl ?_
        refine lv_isub hx hb dX7_comesUnder_75 ?_
        refine lv_iload_n hx hb dX7_comesUnder_76 rfl (lv_at hl 2 rfl) ?_
        obtain ⟨hi, σ5, e_σ5, hf⟩ := sd_some hf
        refine str (t0 := 0) X hP (wM_D hN) hS wM_19 wM_s19 rfl hi e_σ5 dX7_comesUnder_77 (fun H locs hP hS => ?_)
        refine lv_iinc (v := (a3 + (-1))) (lv' := [(3, .int (a3 + (-1))), (0, .ref (ad 0)), (1, .int a1), (2, .int a2)]) hx hb dX7_comesUnder_78 hl (k := 3) rfl rfl (by decide) rfl (fun ls hl => ?_)
        refine lv_goto (tgt := 15) hx hb dX7_comesUnder_81 (by decide) ?_
        exact ih hf hP hS (lv_sub hl [1, 2, 3, 0] rfl)
set_option maxHeartbeats 4000000 in
set_option maxRecDepth 100000 in
theorem b_X7_comesUnder (X : cx p s m meth c args cX7_comesUnder 4 none RX7 D [(cI, .int), (cZ, .boolean)]) (hN : nj ad 30) {σ : St} {a1 a2 : Int32} {σ' : St} (hf : f_X7_comesUnder a1 a2 σ = some σ') {H : Heap} {locs : List Loc} {ls : Array Slot} (hP : va_P D vwCl (wM ad cI cZ σ) H) (hS : va_S (aw ad 30) s.heap H locs) (hl : lv_has ls 4 [(0, .ref (ad 0)), (1, .int a1), (2, .int a2)]) : W p l e rm_X7_comesUnder s m args below meth c H locs 0 0 (MQ below (qV D (wM ad cI cZ) (aw ad 30) σ') args s 0 0 (aw ad 30)) (F0 m 0 ls []) := by
  obtain ⟨hx, hb, hml, hown, hts, hr, hlk, hK⟩ := id X
  rw [f_X7_comesUnder] at hf
  refine lv_aload_n hx hb dX7_comesUnder_0 rfl (lv_at hl 0 rfl) ?_
  refine lv_iload_n hx hb dX7_comesUnder_1 rfl (lv_at hl 1 rfl) ?_
  refine lv_iload_n hx hb dX7_comesUnder_2 rfl (lv_at hl 2 rfl) ?_
  obtain ⟨σ1, hc, hf⟩ := bs_some hf
  refine kVv (As := [.int a1, .int a2]) (rest := []) (wd := (wM ad cI cZ)) (q0 := 0) (ci := 7) X (c_X7_comesBehind (l := l) (D := D) (σ := σ) hN hc) (cw_X7_129 X.2.2.2.2.1 ⟨Nat.le_of_ble_eq_true rfl, Nat.le_of_ble_eq_true rfl⟩) rfl rfl hP hS hl rfl rfl (Nat.le_of_ble_eq_true rfl) dX7_comesUnder_3 (fun H locs hP hS => ?_)
  refine lv_aload_n hx hb dX7_comesUnder_6 rfl (lv_at hl 0 rfl) ?_
  refine fg_X7_61 X hP dX7_comesUnder_7 ?_
  refine lv_iload_n hx hb dX7_comesUnder_10 rfl (lv_at hl 1 rfl) ?_
  obtain ⟨hi, x2, e_x2, hf⟩ := ld_some hf
  refine ldr (t0 := 0) X hP wM_18 rfl hi e_x2 dX7_comesUnder_11 ?_
  refine lv_iconst (v := 1) hx hb dX7_comesUnder_12 rfl ?_
  refine lv_isub hx hb dX7_comesUnder_13 ?_
  refine lv_istore_n (lv' := [(3, .int (x2 - 1)), (0, .ref (ad 0)), (1, .int a1), (2, .int a2)]) hx hb dX7_comesUnder_14 rfl hl (by decide) rfl (fun ls hl => ?_)
  exact b_X7_comesUnder_L15 X hN _ hf hP hS (lv_sub hl [1, 2, 3, 0] rfl)
set_option maxHeartbeats 4000000 in
set_option maxRecDepth 100000 in
theorem c_X7_comesUnder {l : Launch} {D : va_G} {ad : Nat → Nat} {cI cZ : ClassId} (hN : nj ad 30) {σ : St} {a1 a2 : Int32} {σ' : St} (hf : f_X7_comesUnder a1 a2 σ = some σ') : Met l yX7_comesUnder (.code yX7_comesUnder cX7_comesUnder 4 none :: wsL_law) rm_X7_comesUnder (va_Pc [.ref (ad 0), .int a1, .int a2] (pw D (wM ad cI cZ) [(cI, .int), (cZ, .boolean)] σ)) (qV D (wM ad cI cZ) (aw ad 30) σ') 0 0 (aw ad 30) :=
  met_mk (by decide) rfl (Nat.le_of_ble_eq_true rfl) (fun p e s m below meth c X hP ls hl => b_X7_comesUnder X hN hf hP va_S.rf hl)
end WALK
