section WALK
variable {p : Program} {l : Launch} {e : Env} {s : State} {m : MethodId} {args : Array Value} {below : List Frame} {meth : Method} {c : Code} {D : va_G} {ad : Nat → Nat} {cI cZ : ClassId}
set_option maxHeartbeats 4000000 in
set_option maxRecDepth 100000 in
theorem b_X6_ofArticle (X : cx p s m meth c args cX6_ofArticle 3 (some .int) RX6 D [(cI, .int)]) (hN : nj ad 34) {σ : St} {a1 a2 : Int32} {r : Int32} {σ' : St} (hf : f_X6_ofArticle a1 a2 σ = some (r, σ')) {H : Heap} {locs : List Loc} {ls : Array Slot} (hP : va_P D vwCl (wC ad cI σ) H) (hS : va_S (aw ad 34) s.heap H locs) (hl : lv_has ls 3 [(0, .ref (ad 0)), (1, .int a1), (2, .int a2)]) : W p l e rm_X6_ofArticle s m args below meth c H locs 0 0 (MQ below (qI D (wC ad cI) (aw ad 34) r σ') args s 0 0 (aw ad 34)) (F0 m 0 ls []) := by
  obtain ⟨hx, hb, hml, hown, hts, hr, hlk, hK⟩ := id X
  rw [f_X6_ofArticle] at hf
  refine lv_aload_n hx hb dX6_ofArticle_0 rfl (lv_at hl 0 rfl) ?_
  obtain ⟨σ1, hc, hf⟩ := bs_some hf
  refine kVv (As := []) (rest := []) (wd := (wC ad cI)) (q0 := 0) (ci := 6) X (c_X6_refresh (l := l) (D := D) (σ := σ) hN hc) (cw_X6_142 X.2.2.2.2.1 ⟨Nat.le_of_ble_eq_true rfl, Nat.le_of_ble_eq_true rfl⟩) rfl rfl hP hS hl rfl rfl (Nat.le_of_ble_eq_true rfl) dX6_ofArticle_1 (fun H locs hP hS => ?_)
  refine lv_aload_n hx hb dX6_ofArticle_4 rfl (lv_at hl 0 rfl) ?_
  refine fg_X6_53 X hP dX6_ofArticle_5 ?_
  refine lv_iload_n hx hb dX6_ofArticle_8 rfl (lv_at hl 1 rfl) ?_
  obtain ⟨x2, hc, hf⟩ := bi_some hf
  refine kVi (As := [.int a1]) (rest := []) (wd := (wC ad cI)) (q0 := 6) (ci := 0) X (c_X0_has (l := l) (D := D) (σ := σ1) hN hc) (cw_X6_202 X.2.2.2.2.1 ⟨Nat.le_of_ble_eq_true rfl, Nat.le_of_ble_eq_true rfl⟩) rfl rfl hP hS hl rfl rfl (Nat.le_of_ble_eq_true rfl) dX6_ofArticle_9 (fun H locs hP hS => ?_)
  refine lv_if_ne (tgt := 17) hx hb dX6_ofArticle_12 (by decide) (fun hq => ?_) (fun hq => ?_)
  · have hf := if_f hq hf
    refine lv_iload_n hx hb dX6_ofArticle_17 rfl (lv_at hl 2 rfl) ?_
    by_cases q0 : a2 = 0
    · have hf := if_t q0 hf
      refine lv_tableIn (off := 42) (tgt := 60) hx hb dX6_ofArticle_18 (by rw [q0]; decide) (by rw [q0]; decide) (by rw [q0]; rfl) (by decide) ?_
      refine lv_aload_n hx hb dX6_ofArticle_60 rfl (lv_at hl 0 rfl) ?_
      refine fg_X6_53 X hP dX6_ofArticle_61 ?_
      refine fg_X6_203 X hP dX6_ofArticle_64 ?_
      refine lv_iload_n hx hb dX6_ofArticle_67 rfl (lv_at hl 1 rfl) ?_
      obtain ⟨hi, x3, e_x3, hf⟩ := ld_some hf
      refine ldr (t0 := 0) X hP wC_31 rfl hi e_x3 dX6_ofArticle_68 ?_
      exact rIe X hP hS hf dX6_ofArticle_69
    · have hf := if_f q0 hf
      by_cases q1 : a2 = 1
      · have hf := if_t q1 hf
        refine lv_tableIn (off := 52) (tgt := 70) hx hb dX6_ofArticle_18 (by rw [q1]; decide) (by rw [q1]; decide) (by rw [q1]; rfl) (by decide) ?_
        refine lv_aload_n hx hb dX6_ofArticle_70 rfl (lv_at hl 0 rfl) ?_
        refine fg_X6_53 X hP dX6_ofArticle_71 ?_
        refine fg_X6_206 X hP dX6_ofArticle_74 ?_
        refine lv_iload_n hx hb dX6_ofArticle_77 rfl (lv_at hl 1 rfl) ?_
        obtain ⟨hi, x4, e_x4, hf⟩ := ld_some hf
        refine ldr (t0 := 0) X hP wC_33 rfl hi e_x4 dX6_ofArticle_78 ?_
        exact rIe X hP hS hf dX6_ofArticle_79
      · have hf := if_f q1 hf
        by_cases q2 : a2 = 2
        · have hf := if_t q2 hf
          refine lv_tableIn (off := 62) (tgt := 80) hx hb dX6_ofArticle_18 (by rw [q2]; decide) (by rw [q2]; decide) (by rw [q2]; rfl) (by decide) ?_
          refine lv_aload_n hx hb dX6_ofArticle_80 rfl (lv_at hl 0 rfl) ?_
          refine fg_X6_53 X hP dX6_ofArticle_81 ?_
          refine lv_iload_n hx hb dX6_ofArticle_84 rfl (lv_at hl 1 rfl) ?_
          obtain ⟨x5, hc, hf⟩ := bi_some hf
          refine kVi (As := [.int a1]) (rest := []) (wd := (wC ad cI)) (q0 := 6) (ci := 0) X (c_X0_textsOf (l := l) (D := D) (σ := σ1) hN hc) (cw_X6_209 X.2.2.2.2.1 ⟨Nat.le_of_ble_eq_true rfl, Nat.le_of_ble_eq_true rfl⟩) rfl rfl hP hS hl rfl rfl (Nat.le_of_ble_eq_true rfl) dX6_ofArticle_85 (fun H locs hP hS => ?_)
          exact rIe X hP hS hf dX6_ofArticle_88
        · have hf := if_f q2 hf
          by_cases q3 : a2 = 3
          · have hf := if_t q3 hf
            refine lv_tableIn (off := 71) (tgt := 89) hx hb dX6_ofArticle_18 (by rw [q3]; decide) (by rw [q3]; decide) (by rw [q3]; rfl) (by decide) ?_
            refine lv_aload_n hx hb dX6_ofArticle_89 rfl (lv_at hl 0 rfl) ?_
            refine fg_X6_53 X hP dX6_ofArticle_90 ?_
            refine lv_iload_n hx hb dX6_ofArticle_93 rfl (lv_at hl 1 rfl) ?_
            obtain ⟨x6, hc, hf⟩ := bi_some hf
            refine kVi (As := [.int a1]) (rest := []) (wd := (wC ad cI)) (q0 := 6) (ci := 0) X (c_X0_wordsOf (l := l) (D := D) (σ := σ1) hN hc) (cw_X6_210 X.2.2.2.2.1 ⟨Nat.le_of_ble_eq_true rfl, Nat.le_of_ble_eq_true rfl⟩) rfl rfl hP hS hl rfl rfl (Nat.le_of_ble_eq_true rfl) dX6_ofArticle_94 (fun H locs hP hS => ?_)
            exact rIe X hP hS hf dX6_ofArticle_97
          · have hf := if_f q3 hf
            by_cases q4 : a2 = 4
            · have hf := if_t q4 hf
              refine lv_tableIn (off := 80) (tgt := 98) hx hb dX6_ofArticle_18 (by rw [q4]; decide) (by rw [q4]; decide) (by rw [q4]; rfl) (by decide) ?_
              refine lv_aload_n hx hb dX6_ofArticle_98 rfl (lv_at hl 0 rfl) ?_
              refine fg_X6_53 X hP dX6_ofArticle_99 ?_
              refine lv_iload_n hx hb dX6_ofArticle_102 rfl (lv_at hl 1 rfl) ?_
              obtain ⟨x7, hc, hf⟩ := bi_some hf
              refine kVi (As := [.int a1]) (rest := []) (wd := (wC ad cI)) (q0 := 6) (ci := 0) X (c_X0_pagesOf (l := l) (D := D) (σ := σ1) hN hc) (cw_X6_211 X.2.2.2.2.1 ⟨Nat.le_of_ble_eq_true rfl, Nat.le_of_ble_eq_true rfl⟩) rfl rfl hP hS hl rfl rfl (Nat.le_of_ble_eq_true rfl) dX6_ofArticle_103 (fun H locs hP hS => ?_)
              exact rIe X hP hS hf dX6_ofArticle_106
            · have hf := if_f q4 hf
              by_cases q5 : a2 = 5
              · have hf := if_t q5 hf
                refine lv_tableIn (off := 89) (tgt := 107) hx hb dX6_ofArticle_18 (by rw [q5]; decide) (by rw [q5]; decide) (by rw [q5]; rfl) (by decide) ?_
                refine lv_aload_n hx hb dX6_ofArticle_107 rfl (lv_at hl 0 rfl) ?_
                refine fg_X6_53 X hP dX6_ofArticle_108 ?_
                refine lv_iload_n hx hb dX6_ofArticle_111 rfl (lv_at hl 1 rfl) ?_
                obtain ⟨x8, hc, hf⟩ := bi_some hf
                refine kVi (As := [.int a1]) (rest := []) (wd := (wC ad cI)) (q0 := 6) (ci := 0) X (c_X0_isRing (l := l) (D := D) (σ := σ1) hN hc) (cw_X6_214 X.2.2.2.2.1 ⟨Nat.le_of_ble_eq_true rfl, Nat.le_of_ble_eq_true rfl⟩) rfl rfl hP hS hl rfl rfl (Nat.le_of_ble_eq_true rfl) dX6_ofArticle_112 (fun H locs hP hS => ?_)
                refine lv_if_eq (tgt := 122) hx hb dX6_ofArticle_115 (by decide) (fun hq => ?_) (fun hq => ?_)
                · have hf := if_t hq hf
                  refine lv_iconst (v := 0) hx hb dX6_ofArticle_122 rfl ?_
                  exact rIe X hP hS hf dX6_ofArticle_123
                · have hf := if_f hq hf
                  refine lv_iconst (v := 1) hx hb dX6_ofArticle_118 rfl ?_
                  refine lv_goto (tgt := 123) hx hb dX6_ofArticle_119 (by decide) ?_
                  exact rIe X hP hS hf dX6_ofArticle_123
              · have hf := if_f q5 hf
                by_cases q6 : a2 = 6
                · have hf := if_t q6 hf
                  refine lv_tableIn (off := 106) (tgt := 124) hx hb dX6_ofArticle_18 (by rw [q6]; decide) (by rw [q6]; decide) (by rw [q6]; rfl) (by decide) ?_
                  refine lv_aload_n hx hb dX6_ofArticle_124 rfl (lv_at hl 0 rfl) ?_
                  refine fg_X6_53 X hP dX6_ofArticle_125 ?_
                  refine lv_aload_n hx hb dX6_ofArticle_128 rfl (lv_at hl 0 rfl) ?_
                  refine fg_X6_53 X hP dX6_ofArticle_129 ?_
                  refine fg_X6_217 X hP dX6_ofArticle_132 ?_
                  refine lv_iload_n hx hb dX6_ofArticle_135 rfl (lv_at hl 1 rfl) ?_
                  obtain ⟨hi, x9, e_x9, hf⟩ := ld_some hf
                  refine ldr (t0 := 0) X hP wC_32 rfl hi e_x9 dX6_ofArticle_136 ?_
                  obtain ⟨x10, hc, hf⟩ := bi_some hf
                  refine kVi (As := [.int x9]) (rest := []) (wd := (wC ad cI)) (q0 := 6) (ci := 0) X (c_X0_isBroken (l := l) (D := D) (σ := σ1) hN hc) (cw_X6_180 X.2.2.2.2.1 ⟨Nat.le_of_ble_eq_true rfl, Nat.le_of_ble_eq_true rfl⟩) rfl rfl hP hS hl rfl rfl (Nat.le_of_ble_eq_true rfl) dX6_ofArticle_137 (fun H locs hP hS => ?_)
                  refine lv_if_eq (tgt := 147) hx hb dX6_ofArticle_140 (by decide) (fun hq => ?_) (fun hq => ?_)
                  · have hf := if_t hq hf
                    refine lv_iconst (v := 0) hx hb dX6_ofArticle_147 rfl ?_
                    exact rIe X hP hS hf dX6_ofArticle_148
                  · have hf := if_f hq hf
                    refine lv_iconst (v := 1) hx hb dX6_ofArticle_143 rfl ?_
                    refine lv_goto (tgt := 148) hx hb dX6_ofArticle_144 (by decide) ?_
                    exact rIe X hP hS hf dX6_ofArticle_148
                · have hf := if_f q6 hf
                  refine lv_tableOut (tgt := 149) hx hb dX6_ofArticle_18 (sw_out 6 (by decide) (fun j hj => ?_)) (by decide) ?_
                  · match j, hj with
                    | 0, _ => exact q0
                    | 1, _ => exact q1
                    | 2, _ => exact q2
                    | 3, _ => exact q3
                    | 4, _ => exact q4
                    | 5, _ => exact q5
                    | 6, _ => exact q6
                    | j + 7, hj => exact absurd hj (by omega)
                  · refine lv_bipush (v := (-2)) hx hb dX6_ofArticle_149 rfl ?_
                    exact rIe X hP hS hf dX6_ofArticle_151
  · have hf := if_t hq hf
    refine lv_iconst (v := (-1)) hx hb dX6_ofArticle_15 rfl ?_
    exact rIe X hP hS hf dX6_ofArticle_16
set_option maxHeartbeats 4000000 in
set_option maxRecDepth 100000 in
theorem c_X6_ofArticle {l : Launch} {D : va_G} {ad : Nat → Nat} {cI : ClassId} (hN : nj ad 34) {σ : St} {a1 a2 : Int32} {r : Int32} {σ' : St} (hf : f_X6_ofArticle a1 a2 σ = some (r, σ')) : Met l yX6_ofArticle (.code yX6_ofArticle cX6_ofArticle 3 (some .int) :: wsL_law) rm_X6_ofArticle (va_Pc [.ref (ad 0), .int a1, .int a2] (pw D (wC ad cI) [(cI, .int)] σ)) (qI D (wC ad cI) (aw ad 34) r σ') 0 0 (aw ad 34) :=
  met_mk (by decide) rfl (Nat.le_of_ble_eq_true rfl) (fun p e s m below meth c X hP ls hl => b_X6_ofArticle X hN hf hP va_S.rf hl)
set_option maxHeartbeats 4000000 in
set_option maxRecDepth 100000 in
theorem b_X6_read (X : cx p s m meth c args cX6_read 3 (some .int) RX6 D [(cI, .int)]) (hN : nj ad 34) {σ : St} {a1 a2 : Int32} {r : Int32} {σ' : St} (hf : f_X6_read a1 a2 σ = some (r, σ')) {H : Heap} {locs : List Loc} {ls : Array Slot} (hP : va_P D vwCl (wC ad cI σ) H) (hS : va_S (aw ad 34) s.heap H locs) (hl : lv_has ls 3 [(0, .ref (ad 0)), (1, .int a1), (2, .int a2)]) : W p l e rm_X6_read s m args below meth c H locs 0 0 (MQ below (qI D (wC ad cI) (aw ad 34) r σ') args s 0 0 (aw ad 34)) (F0 m 0 ls []) := by
  obtain ⟨hx, hb, hml, hown, hts, hr, hlk, hK⟩ := id X
  rw [f_X6_read] at hf
  refine lv_aload_n hx hb dX6_read_0 rfl (lv_at hl 0 rfl) ?_
  obtain ⟨σ1, hc, hf⟩ := bs_some hf
  refine kVv (As := []) (rest := []) (wd := (wC ad cI)) (q0 := 0) (ci := 6) X (c_X6_refresh (l := l) (D := D) (σ := σ) hN hc) (cw_X6_142 X.2.2.2.2.1 ⟨Nat.le_of_ble_eq_true rfl, Nat.le_of_ble_eq_true rfl⟩) rfl rfl hP hS hl rfl rfl (Nat.le_of_ble_eq_true rfl) dX6_read_1 (fun H locs hP hS => ?_)
  refine lv_aload_n hx hb dX6_read_4 rfl (lv_at hl 0 rfl) ?_
  refine fg_X6_53 X hP dX6_read_5 ?_
  refine lv_iload_n hx hb dX6_read_8 rfl (lv_at hl 1 rfl) ?_
  obtain ⟨x2, hc, hf⟩ := bi_some hf
  refine kVi (As := [.int a1]) (rest := []) (wd := (wC ad cI)) (q0 := 6) (ci := 0) X (c_X0_has (l := l) (D := D) (σ := σ1) hN hc) (cw_X6_202 X.2.2.2.2.1 ⟨Nat.le_of_ble_eq_true rfl, Nat.le_of_ble_eq_true rfl⟩) rfl rfl hP hS hl rfl rfl (Nat.le_of_ble_eq_true rfl) dX6_read_9 (fun H locs hP hS => ?_)
  refine lv_if_ne (tgt := 17) hx hb dX6_read_12 (by decide) (fun hq => ?_) (fun hq => ?_)
  · have hf := if_f hq hf
    refine lv_iload_n hx hb dX6_read_17 rfl (lv_at hl 2 rfl) ?_
    refine lv_bipush (v := 24) hx hb dX6_read_18 rfl ?_
    obtain ⟨x3, hc, hf⟩ := bi_some hf
    refine kSi (As := [.int a2, .int 24]) (rest := []) (wd := (wC ad cI)) X (c_X6_isBelow (l := l) (D := D) (σ := σ1) hN hc) (cw_X6_61 X.2.2.2.2.1 ⟨Nat.le_of_ble_eq_true rfl, Nat.le_of_ble_eq_true rfl⟩) hP hS hl rfl rfl (Nat.le_of_ble_eq_true rfl) dX6_read_20 (fun H locs hP hS => ?_)
    refine lv_if_ne (tgt := 29) hx hb dX6_read_23 (by decide) (fun hq => ?_) (fun hq => ?_)
    · have hf := if_f hq hf
      refine lv_aload_n hx hb dX6_read_29 rfl (lv_at hl 0 rfl) ?_
      refine fg_X6_53 X hP dX6_read_30 ?_
      refine lv_iload_n hx hb dX6_read_33 rfl (lv_at hl 1 rfl) ?_
      refine lv_iload_n hx hb dX6_read_34 rfl (lv_at hl 2 rfl) ?_
      obtain ⟨x4, hc, hf⟩ := bi_some hf
      refine kVi (As := [.int a1, .int a2]) (rest := []) (wd := (wC ad cI)) (q0 := 6) (ci := 0) X (c_X0_blockAt (l := l) (D := D) (σ := σ1) hN hc) (cw_X6_220 X.2.2.2.2.1 ⟨Nat.le_of_ble_eq_true rfl, Nat.le_of_ble_eq_true rfl⟩) rfl rfl hP hS hl rfl rfl (Nat.le_of_ble_eq_true rfl) dX6_read_35 (fun H locs hP hS => ?_)
      exact rIe X hP hS hf dX6_read_38
    · have hf := if_t hq hf
      refine lv_bipush (v := (-2)) hx hb dX6_read_26 rfl ?_
      exact rIe X hP hS hf dX6_read_28
  · have hf := if_t hq hf
    refine lv_iconst (v := (-1)) hx hb dX6_read_15 rfl ?_
    exact rIe X hP hS hf dX6_read_16
set_option maxHeartbeats 4000000 in
set_option maxRecDepth 100000 in
theorem c_X6_read {l : Launch} {D : va_G} {ad : Nat → Nat} {cI : ClassId} (hN : nj ad 34) {σ : St} {a1 a2 : Int32} {r : Int32} {σ' : St} (hf : f_X6_read a1 a2 σ = some (r, σ')) : Met l yX6_read (.code yX6_read cX6_read 3 (some .int) :: wsL_law) rm_X6_read (va_Pc [.ref (ad 0), .int a1, .int a2] (pw D (wC ad cI) [(cI, .int)] σ)) (qI D (wC ad cI) (aw ad 34) r σ') 0 0 (aw ad 34) :=
  met_mk (by decide) rfl (Nat.le_of_ble_eq_true rfl) (fun p e s m below meth c X hP ls hl => b_X6_read X hN hf hP va_S.rf hl)
set_option maxHeartbeats 4000000 in
set_option maxRecDepth 100000 in
theorem b_X6_many (X : cx p s m meth c args cX6_many 2 (some .int) RX6 D [(cI, .int)]) (hN : nj ad 34) {σ : St} {a1 : Int32} {r : Int32} {σ' : St} (hf : f_X6_many a1 σ = some (r, σ')) {H : Heap} {locs : List Loc} {ls : Array Slot} (hP : va_P D vwCl (wC ad cI σ) H) (hS : va_S (aw ad 34) s.heap H locs) (hl : lv_has ls 2 [(0, .ref (ad 0)), (1, .int a1)]) : W p l e rm_X6_many s m args below meth c H locs 0 0 (MQ below (qI D (wC ad cI) (aw ad 34) r σ') args s 0 0 (aw ad 34)) (F0 m 0 ls []) := by
  obtain ⟨hx, hb, hml, hown, hts, hr, hlk, hK⟩ := id X
  rw [f_X6_many] at hf
  refine lv_aload_n hx hb dX6_many_0 rfl (lv_at hl 0 rfl) ?_
  obtain ⟨σ1, hc, hf⟩ := bs_some hf
  refine kVv (As := []) (rest := []) (wd := (wC ad cI)) (q0 := 0) (ci := 6) X (c_X6_refresh (l := l) (D := D) (σ := σ) hN hc) (cw_X6_142 X.2.2.2.2.1 ⟨Nat.le_of_ble_eq_true rfl, Nat.le_of_ble_eq_true rfl⟩) rfl rfl hP hS hl rfl rfl (Nat.le_of_ble_eq_true rfl) dX6_many_1 (fun H locs hP hS => ?_)
  refine lv_iload_n hx hb dX6_many_4 rfl (lv_at hl 1 rfl) ?_
  by_cases q0 : a1 = 0
  · have hf := if_t q0 hf
    refine lv_tableIn (off := 63) (tgt := 68) hx hb dX6_many_5 (by rw [q0]; decide) (by rw [q0]; decide) (by rw [q0]; rfl) (by decide) ?_
    refine lv_aload_n hx hb dX6_many_68 rfl (lv_at hl 0 rfl) ?_
    refine fg_X6_10 X hP dX6_many_69 ?_
    obtain ⟨x2, e_x2, hf⟩ := lf_some hf
    refine fg_X6_73 X hP e_x2 dX6_many_72 ?_
    exact rIe X hP hS hf dX6_many_75
  · have hf := if_f q0 hf
    by_cases q1 : a1 = 1
    · have hf := if_t q1 hf
      refine lv_tableIn (off := 71) (tgt := 76) hx hb dX6_many_5 (by rw [q1]; decide) (by rw [q1]; decide) (by rw [q1]; rfl) (by decide) ?_
      refine lv_aload_n hx hb dX6_many_76 rfl (lv_at hl 0 rfl) ?_
      refine fg_X6_26 X hP dX6_many_77 ?_
      obtain ⟨x3, e_x3, hf⟩ := lf_some hf
      refine fg_X6_96 X hP e_x3 dX6_many_80 ?_
      exact rIe X hP hS hf dX6_many_83
    · have hf := if_f q1 hf
      by_cases q2 : a1 = 2
      · have hf := if_t q2 hf
        refine lv_tableIn (off := 79) (tgt := 84) hx hb dX6_many_5 (by rw [q2]; decide) (by rw [q2]; decide) (by rw [q2]; rfl) (by decide) ?_
        refine lv_aload_n hx hb dX6_many_84 rfl (lv_at hl 0 rfl) ?_
        refine fg_X6_10 X hP dX6_many_85 ?_
        refine lv_iconst (v := 0) hx hb dX6_many_88 rfl ?_
        obtain ⟨x4, hc, hf⟩ := bi_some hf
        refine kVi (As := [.int 0]) (rest := []) (wd := (wC ad cI)) (q0 := 1) (ci := 1) X (c_X1_manyOf (l := l) (D := D) (σ := σ1) hN hc) (cw_X6_223 X.2.2.2.2.1 ⟨Nat.le_of_ble_eq_true rfl, Nat.le_of_ble_eq_true rfl⟩) rfl rfl hP hS hl rfl rfl (Nat.le_of_ble_eq_true rfl) dX6_many_89 (fun H locs hP hS => ?_)
        exact rIe X hP hS hf dX6_many_92
      · have hf := if_f q2 hf
        by_cases q3 : a1 = 3
        · have hf := if_t q3 hf
          refine lv_tableIn (off := 88) (tgt := 93) hx hb dX6_many_5 (by rw [q3]; decide) (by rw [q3]; decide) (by rw [q3]; rfl) (by decide) ?_
          refine lv_aload_n hx hb dX6_many_93 rfl (lv_at hl 0 rfl) ?_
          refine fg_X6_10 X hP dX6_many_94 ?_
          refine lv_iconst (v := 1) hx hb dX6_many_97 rfl ?_
          obtain ⟨x5, hc, hf⟩ := bi_some hf
          refine kVi (As := [.int 1]) (rest := []) (wd := (wC ad cI)) (q0 := 1) (ci := 1) X (c_X1_manyOf (l := l) (D := D) (σ := σ1) hN hc) (cw_X6_223 X.2.2.2.2.1 ⟨Nat.le_of_ble_eq_true rfl, Nat.le_of_ble_eq_true rfl⟩) rfl rfl hP hS hl rfl rfl (Nat.le_of_ble_eq_true rfl) dX6_many_98 (fun H locs hP hS => ?_)
          exact rIe X hP hS hf dX6_many_101
        · have hf := if_f q3 hf
          by_cases q4 : a1 = 4
          · have hf := if_t q4 hf
            refine lv_tableIn (off := 97) (tgt := 102) hx hb dX6_many_5 (by rw [q4]; decide) (by rw [q4]; decide) (by rw [q4]; rfl) (by decide) ?_
            refine lv_aload_n hx hb dX6_many_102 rfl (lv_at hl 0 rfl) ?_
            refine fg_X6_44 X hP dX6_many_103 ?_
            obtain ⟨x6, e_x6, hf⟩ := lf_some hf
            refine fg_X6_226 X hP e_x6 dX6_many_106 ?_
            exact rIe X hP hS hf dX6_many_109
          · have hf := if_f q4 hf
            by_cases q5 : a1 = 5
            · have hf := if_t q5 hf
              refine lv_tableIn (off := 105) (tgt := 110) hx hb dX6_many_5 (by rw [q5]; decide) (by rw [q5]; decide) (by rw [q5]; rfl) (by decide) ?_
              refine lv_aload_n hx hb dX6_many_110 rfl (lv_at hl 0 rfl) ?_
              refine fg_X6_44 X hP dX6_many_111 ?_
              obtain ⟨x7, hc, hf⟩ := bi_some hf
              refine kVi (As := []) (rest := []) (wd := (wC ad cI)) (q0 := 5) (ci := 5) X (c_X5_manyJoined (l := l) (D := D) (σ := σ1) hN hc) (cw_X6_227 X.2.2.2.2.1 ⟨Nat.le_of_ble_eq_true rfl, Nat.le_of_ble_eq_true rfl⟩) rfl rfl hP hS hl rfl rfl (Nat.le_of_ble_eq_true rfl) dX6_many_114 (fun H locs hP hS => ?_)
              exact rIe X hP hS hf dX6_many_117
            · have hf := if_f q5 hf
              by_cases q6 : a1 = 6
              · have hf := if_t q6 hf
                refine lv_tableIn (off := 113) (tgt := 118) hx hb dX6_many_5 (by rw [q6]; decide) (by rw [q6]; decide) (by rw [q6]; rfl) (by decide) ?_
                refine lv_aload_n hx hb dX6_many_118 rfl (lv_at hl 0 rfl) ?_
                refine fg_X6_44 X hP dX6_many_119 ?_
                obtain ⟨x8, hc, hf⟩ := bi_some hf
                refine kVi (As := []) (rest := []) (wd := (wC ad cI)) (q0 := 5) (ci := 5) X (c_X5_manyLeftOver (l := l) (D := D) (σ := σ1) hN hc) (cw_X6_230 X.2.2.2.2.1 ⟨Nat.le_of_ble_eq_true rfl, Nat.le_of_ble_eq_true rfl⟩) rfl rfl hP hS hl rfl rfl (Nat.le_of_ble_eq_true rfl) dX6_many_122 (fun H locs hP hS => ?_)
                exact rIe X hP hS hf dX6_many_125
              · have hf := if_f q6 hf
                by_cases q7 : a1 = 7
                · have hf := if_t q7 hf
                  refine lv_tableIn (off := 121) (tgt := 126) hx hb dX6_many_5 (by rw [q7]; decide) (by rw [q7]; decide) (by rw [q7]; rfl) (by decide) ?_
                  refine lv_aload_n hx hb dX6_many_126 rfl (lv_at hl 0 rfl) ?_
                  refine fg_X6_53 X hP dX6_many_127 ?_
                  obtain ⟨x9, e_x9, hf⟩ := lf_some hf
                  refine fg_X6_233 X hP e_x9 dX6_many_130 ?_
                  exact rIe X hP hS hf dX6_many_133
                · have hf := if_f q7 hf
                  by_cases q8 : a1 = 8
                  · have hf := if_t q8 hf
                    refine lv_tableIn (off := 129) (tgt := 134) hx hb dX6_many_5 (by rw [q8]; decide) (by rw [q8]; decide) (by rw [q8]; rfl) (by decide) ?_
                    refine lv_aload_n hx hb dX6_many_134 rfl (lv_at hl 0 rfl) ?_
                    refine fg_X6_53 X hP dX6_many_135 ?_
                    obtain ⟨x10, hc, hf⟩ := bi_some hf
                    refine kVi (As := []) (rest := []) (wd := (wC ad cI)) (q0 := 6) (ci := 0) X (c_X0_manyRings (l := l) (D := D) (σ := σ1) hN hc) (cw_X6_234 X.2.2.2.2.1 ⟨Nat.le_of_ble_eq_true rfl, Nat.le_of_ble_eq_true rfl⟩) rfl rfl hP hS hl rfl rfl (Nat.le_of_ble_eq_true rfl) dX6_many_138 (fun H locs hP hS => ?_)
                    exact rIe X hP hS hf dX6_many_141
                  · have hf := if_f q8 hf
                    by_cases q9 : a1 = 9
                    · have hf := if_t q9 hf
                      refine lv_tableIn (off := 137) (tgt := 142) hx hb dX6_many_5 (by rw [q9]; decide) (by rw [q9]; decide) (by rw [q9]; rfl) (by decide) ?_
                      refine lv_aload_n hx hb dX6_many_142 rfl (lv_at hl 0 rfl) ?_
                      refine fg_X6_53 X hP dX6_many_143 ?_
                      obtain ⟨x11, hc, hf⟩ := bi_some hf
                      refine kVi (As := []) (rest := []) (wd := (wC ad cI)) (q0 := 6) (ci := 0) X (c_X0_manyBroken (l := l) (D := D) (σ := σ1) hN hc) (cw_X6_237 X.2.2.2.2.1 ⟨Nat.le_of_ble_eq_true rfl, Nat.le_of_ble_eq_true rfl⟩) rfl rfl hP hS hl rfl rfl (Nat.le_of_ble_eq_true rfl) dX6_many_146 (fun H locs hP hS => ?_)
                      exact rIe X hP hS hf dX6_many_149
                    · have hf := if_f q9 hf
                      by_cases q10 : a1 = 10
                      · have hf := if_t q10 hf
                        refine lv_tableIn (off := 145) (tgt := 150) hx hb dX6_many_5 (by rw [q10]; decide) (by rw [q10]; decide) (by rw [q10]; rfl) (by decide) ?_
                        refine lv_aload_n hx hb dX6_many_150 rfl (lv_at hl 0 rfl) ?_
                        refine fg_X6_53 X hP dX6_many_151 ?_
                        obtain ⟨x12, hc, hf⟩ := bi_some hf
                        refine kVi (As := []) (rest := []) (wd := (wC ad cI)) (q0 := 6) (ci := 0) X (c_X0_manyIdleFrom (l := l) (D := D) (σ := σ1) hN hc) (cw_X6_240 X.2.2.2.2.1 ⟨Nat.le_of_ble_eq_true rfl, Nat.le_of_ble_eq_true rfl⟩) rfl rfl hP hS hl rfl rfl (Nat.le_of_ble_eq_true rfl) dX6_many_154 (fun H locs hP hS => ?_)
                        exact rIe X hP hS hf dX6_many_157
                      · have hf := if_f q10 hf
                        by_cases q11 : a1 = 11
                        · have hf := if_t q11 hf
                          refine lv_tableIn (off := 153) (tgt := 158) hx hb dX6_many_5 (by rw [q11]; decide) (by rw [q11]; decide) (by rw [q11]; rfl) (by decide) ?_
                          refine lv_aload_n hx hb dX6_many_158 rfl (lv_at hl 0 rfl) ?_
                          refine fg_X6_44 X hP dX6_many_159 ?_
                          obtain ⟨x13, hc, hf⟩ := bi_some hf
                          refine kVi (As := []) (rest := []) (wd := (wC ad cI)) (q0 := 5) (ci := 5) X (c_X5_manyLoosePictures (l := l) (D := D) (σ := σ1) hN hc) (cw_X6_243 X.2.2.2.2.1 ⟨Nat.le_of_ble_eq_true rfl, Nat.le_of_ble_eq_true rfl⟩) rfl rfl hP hS hl rfl rfl (Nat.le_of_ble_eq_true rfl) dX6_many_162 (fun H locs hP hS => ?_)
                          exact rIe X hP hS hf dX6_many_165
                        · have hf := if_f q11 hf
                          refine lv_tableOut (tgt := 166) hx hb dX6_many_5 (sw_out 11 (by decide) (fun j hj => ?_)) (by decide) ?_
                          · match j, hj with
                            | 0, _ => exact q0
                            | 1, _ => exact q1
                            | 2, _ => exact q2
                            | 3, _ => exact q3
                            | 4, _ => exact q4
                            | 5, _ => exact q5
                            | 6, _ => exact q6
                            | 7, _ => exact q7
                            | 8, _ => exact q8
                            | 9, _ => exact q9
                            | 10, _ => exact q10
                            | 11, _ => exact q11
                            | j + 12, hj => exact absurd hj (by omega)
                          · refine lv_bipush (v := (-2)) hx hb dX6_many_166 rfl ?_
                            exact rIe X hP hS hf dX6_many_168
set_option maxHeartbeats 4000000 in
set_option maxRecDepth 100000 in
theorem c_X6_many {l : Launch} {D : va_G} {ad : Nat → Nat} {cI : ClassId} (hN : nj ad 34) {σ : St} {a1 : Int32} {r : Int32} {σ' : St} (hf : f_X6_many a1 σ = some (r, σ')) : Met l yX6_many (.code yX6_many cX6_many 2 (some .int) :: wsL_law) rm_X6_many (va_Pc [.ref (ad 0), .int a1] (pw D (wC ad cI) [(cI, .int)] σ)) (qI D (wC ad cI) (aw ad 34) r σ') 0 0 (aw ad 34) :=
  met_mk (by decide) rfl (Nat.le_of_ble_eq_true rfl) (fun p e s m below meth c X hP ls hl => b_X6_many X hN hf hP va_S.rf hl)
set_option maxHeartbeats 4000000 in
set_option maxRecDepth 100000 in
theorem b_X7_within (X : cx p s m meth c args cX7_within 3 (some .boolean) RX7 D [(cI, .int), (cZ, .boolean)]) (hN : nj ad 30) {σ : St} {a0 a1 a2 : Int32} {r : Int32} (hf : f_X7_within a0 a1 a2 = some r) {H : Heap} {locs : List Loc} {ls : Array Slot} (hP : va_P D vwCl (wM ad cI cZ σ) H) (hS : va_S (aw ad 30) s.heap H locs) (hl : lv_has ls 3 [(0, .int a0), (1, .int a1), (2, .int a2)]) : W p l e rm_X7_within s m args below meth c H locs 0 0 (MQ below (qI D (wM ad cI cZ) (aw ad 30) r σ) args s 0 0 (aw ad 30)) (F0 m 0 ls []) := by
  obtain ⟨hx, hb, hml, hown, hts, hr, hlk, hK⟩ := id X
  rw [f_X7_within] at hf
  refine lv_iload_n hx hb dX7_within_0 rfl (lv_at hl 0 rfl) ?_
  refine lv_iload_n hx hb dX7_within_1 rfl (lv_at hl 1 rfl) ?_
  refine lv_icmp_lt (tgt := 14) hx hb dX7_within_2 (by decide) (fun hq => ?_) (fun hq => ?_)
  · have hf := if_t hq hf
    refine lv_iconst (v := 0) hx hb dX7_within_14 rfl ?_
    exact rZ X hP hS hf dX7_within_15
  · have hf := if_f hq hf
    refine lv_iload_n hx hb dX7_within_5 rfl (lv_at hl 0 rfl) ?_
    refine lv_iload_n hx hb dX7_within_6 rfl (lv_at hl 2 rfl) ?_
    refine lv_icmp_gt (tgt := 14) hx hb dX7_within_7 (by decide) (fun hq => ?_) (fun hq => ?_)
    · have hf := if_t hq hf
      refine lv_iconst (v := 0) hx hb dX7_within_14 rfl ?_
      exact rZ X hP hS hf dX7_within_15
    · have hf := if_f hq hf
      refine lv_iconst (v := 1) hx hb dX7_within_10 rfl ?_
      refine lv_goto (tgt := 15) hx hb dX7_within_11 (by decide) ?_
      exact rZ X hP hS hf dX7_within_15
set_option maxHeartbeats 4000000 in
set_option maxRecDepth 100000 in
theorem c_X7_within {l : Launch} {D : va_G} {ad : Nat → Nat} {cI cZ : ClassId} (hN : nj ad 30) {σ : St} {a0 a1 a2 : Int32} {r : Int32} (hf : f_X7_within a0 a1 a2 = some r) : Met l yX7_within (.code yX7_within cX7_within 3 (some .boolean) :: wsL_law) rm_X7_within (va_Pc [.int a0, .int a1, .int a2] (pw D (wM ad cI cZ) [(cI, .int), (cZ, .boolean)] σ)) (qI D (wM ad cI cZ) (aw ad 30) r σ) 0 0 (aw ad 30) :=
  met_mk (by decide) rfl (Nat.le_of_ble_eq_true rfl) (fun p e s m below meth c X hP ls hl => b_X7_within X hN hf hP va_S.rf hl)
set_option maxHeartbeats 4000000 in
set_option maxRecDepth 100000 in
theorem b_X7_isBlock (X : cx p s m meth c args cX7_isBlock 2 (some .boolean) RX7 D [(cI, .int), (cZ, .boolean)]) (hN : nj ad 30) {σ : St} {a1 : Int32} {r : Int32} (hf : f_X7_isBlock a1 σ = some r) {H : Heap} {locs : List Loc} {ls : Array Slot} (hP : va_P D vwCl (wM ad cI cZ σ) H) (hS : va_S (aw ad 30) s.heap H locs) (hl : lv_has ls 2 [(0, .ref (ad 0)), (1, .int a1)]) : W p l e rm_X7_isBlock s m args below meth c H locs 0 0 (MQ below (qI D (wM ad cI cZ) (aw ad 30) r σ) args s 0 0 (aw ad 30)) (F0 m 0 ls []) := by
  obtain ⟨hx, hb, hml, hown, hts, hr, hlk, hK⟩ := id X
  rw [f_X7_isBlock] at hf
  refine lv_iload_n hx hb dX7_isBlock_0 rfl (lv_at hl 1 rfl) ?_
  refine lv_iconst (v := 0) hx hb dX7_isBlock_1 rfl ?_
  refine lv_aload_n hx hb dX7_isBlock_2 rfl (lv_at hl 0 rfl) ?_
  obtain ⟨x1, e_x1, hf⟩ := lf_some hf
  refine fg_X7_98 X hP e_x1 dX7_isBlock_3 ?_
  refine lv_iconst (v := 1) hx hb dX7_isBlock_6 rfl ?_
  refine lv_isub hx hb dX7_isBlock_7 ?_
  obtain ⟨x2, hc, hf⟩ := bi_some hf
  refine kSi (As := [.int a1, .int 0, .int (x1 - 1)]) (rest := []) (wd := (wM ad cI cZ)) X (c_X7_within (l := l) (D := D) (σ := σ) hN hc) (cw_X7_102 X.2.2.2.2.1 ⟨Nat.le_of_ble_eq_true rfl, Nat.le_of_ble_eq_true rfl⟩) hP hS hl rfl rfl (Nat.le_of_ble_eq_true rfl) dX7_isBlock_8 (fun H locs hP hS => ?_)
  exact rZ X hP hS hf dX7_isBlock_11
set_option maxHeartbeats 4000000 in
set_option maxRecDepth 100000 in
theorem c_X7_isBlock {l : Launch} {D : va_G} {ad : Nat → Nat} {cI cZ : ClassId} (hN : nj ad 30) {σ : St} {a1 : Int32} {r : Int32} (hf : f_X7_isBlock a1 σ = some r) : Met l yX7_isBlock (.code yX7_isBlock cX7_isBlock 2 (some .boolean) :: wsL_law) rm_X7_isBlock (va_Pc [.ref (ad 0), .int a1] (pw D (wM ad cI cZ) [(cI, .int), (cZ, .boolean)] σ)) (qI D (wM ad cI cZ) (aw ad 30) r σ) 0 0 (aw ad 30) :=
  met_mk (by decide) rfl (Nat.le_of_ble_eq_true rfl) (fun p e s m below meth c X hP ls hl => b_X7_isBlock X hN hf hP va_S.rf hl)
set_option maxHeartbeats 4000000 in
set_option maxRecDepth 100000 in
theorem b_X7_isMeeting (X : cx p s m meth c args cX7_isMeeting 6 (some .boolean) RX7 D [(cI, .int), (cZ, .boolean)]) (hN : nj ad 30) {σ : St} {a1 a2 a3 a4 a5 : Int32} {r : Int32} (hf : f_X7_isMeeting a1 a2 a3 a4 a5 σ = some r) {H : Heap} {locs : List Loc} {ls : Array Slot} (hP : va_P D vwCl (wM ad cI cZ σ) H) (hS : va_S (aw ad 30) s.heap H locs) (hl : lv_has ls 6 [(0, .ref (ad 0)), (1, .int a1), (2, .int a2), (3, .int a3), (4, .int a4), (5, .int a5)]) : W p l e rm_X7_isMeeting s m args below meth c H locs 0 0 (MQ below (qI D (wM ad cI cZ) (aw ad 30) r σ) args s 0 0 (aw ad 30)) (F0 m 0 ls []) := by
  obtain ⟨hx, hb, hml, hown, hts, hr, hlk, hK⟩ := id X
  rw [f_X7_isMeeting] at hf
  refine lv_aload_n hx hb dX7_isMeeting_0 rfl (lv_at hl 0 rfl) ?_
  refine fg_X7_16 X hP dX7_isMeeting_1 ?_
  refine lv_iload_n hx hb dX7_isMeeting_4 rfl (lv_at hl 1 rfl) ?_
  obtain ⟨hi, x1, e_x1, hf⟩ := ld_some hf
  refine ldr (t0 := 0) X hP wM_3 rfl hi e_x1 dX7_isMeeting_5 ?_
  refine lv_iload_n hx hb dX7_isMeeting_6 rfl (lv_at hl 3 rfl) ?_
  refine lv_icmp_gt (tgt := 46) hx hb dX7_isMeeting_7 (by decide) (fun hq => ?_) (fun hq => ?_)
  · have hf := if_t hq hf
    refine lv_iconst (v := 0) hx hb dX7_isMeeting_46 rfl ?_
    exact rZ X hP hS hf dX7_isMeeting_47
  · have hf := if_f hq hf
    refine lv_aload_n hx hb dX7_isMeeting_10 rfl (lv_at hl 0 rfl) ?_
    refine fg_X7_19 X hP dX7_isMeeting_11 ?_
    refine lv_iload_n hx hb dX7_isMeeting_14 rfl (lv_at hl 1 rfl) ?_
    obtain ⟨hi, x2, e_x2, hf⟩ := ld_some hf
    refine ldr (t0 := 0) X hP wM_4 rfl hi e_x2 dX7_isMeeting_15 ?_
    refine lv_iload_n hx hb dX7_isMeeting_16 rfl (lv_at hl 2 rfl) ?_
    refine lv_icmp_lt (tgt := 46) hx hb dX7_isMeeting_17 (by decide) (fun hq => ?_) (fun hq => ?_)
    · have hf := if_t hq hf
      refine lv_iconst (v := 0) hx hb dX7_isMeeting_46 rfl ?_
      exact rZ X hP hS hf dX7_isMeeting_47
    · have hf := if_f hq hf
      refine lv_aload_n hx hb dX7_isMeeting_20 rfl (lv_at hl 0 rfl) ?_
      refine fg_X7_22 X hP dX7_isMeeting_21 ?_
      refine lv_iload_n hx hb dX7_isMeeting_24 rfl (lv_at hl 1 rfl) ?_
      obtain ⟨hi, x3, e_x3, hf⟩ := ld_some hf
      refine ldr (t0 := 0) X hP wM_5 rfl hi e_x3 dX7_isMeeting_25 ?_
      refine lv_iload hx hb dX7_isMeeting_26 (lv_at hl 5 rfl) ?_
      refine lv_icmp_gt (tgt := 46) hx hb dX7_isMeeting_28 (by decide) (fun hq => ?_) (fun hq => ?_)
      · have hf := if_t hq hf
        refine lv_iconst (v := 0) hx hb dX7_isMeeting_46 rfl ?_
        exact rZ X hP hS hf dX7_isMeeting_47
      · have hf := if_f hq hf
        refine lv_aload_n hx hb dX7_isMeeting_31 rfl (lv_at hl 0 rfl) ?_
        refine fg_X7_25 X hP dX7_isMeeting_32 ?_
        refine lv_iload_n hx hb dX7_isMeeting_35 rfl (lv_at hl 1 rfl) ?_
        obtain ⟨hi, x4, e_x4, hf⟩ := ld_some hf
        refine ldr (t0 := 0) X hP wM_6 rfl hi e_x4 dX7_isMeeting_36 ?_
        refine lv_iload hx hb dX7_isMeeting_37 (lv_at hl 4 rfl) ?_
        refine lv_icmp_lt (tgt := 46) hx hb dX7_isMeeting_39 (by decide) (fun hq => ?_) (fun hq => ?_)
        · have hf := if_t hq hf
          refine lv_iconst (v := 0) hx hb dX7_isMeeting_46 rfl ?_
          exact rZ X hP hS hf dX7_isMeeting_47
        · have hf := if_f hq hf
          refine lv_iconst (v := 1) hx hb dX7_isMeeting_42 rfl ?_
          refine lv_goto (tgt := 47) hx hb dX7_isMeeting_43 (by decide) ?_
          exact rZ X hP hS hf dX7_isMeeting_47
set_option maxHeartbeats 4000000 in
set_option maxRecDepth 100000 in
theorem c_X7_isMeeting {l : Launch} {D : va_G} {ad : Nat → Nat} {cI cZ : ClassId} (hN : nj ad 30) {σ : St} {a1 a2 a3 a4 a5 : Int32} {r : Int32} (hf : f_X7_isMeeting a1 a2 a3 a4 a5 σ = some r) : Met l yX7_isMeeting (.code yX7_isMeeting cX7_isMeeting 6 (some .boolean) :: wsL_law) rm_X7_isMeeting (va_Pc [.ref (ad 0), .int a1, .int a2, .int a3, .int a4, .int a5] (pw D (wM ad cI cZ) [(cI, .int), (cZ, .boolean)] σ)) (qI D (wM ad cI cZ) (aw ad 30) r σ) 0 0 (aw ad 30) :=
  met_mk (by decide) rfl (Nat.le_of_ble_eq_true rfl) (fun p e s m below meth c X hP ls hl => b_X7_isMeeting X hN hf hP va_S.rf hl)
set_option maxHeartbeats 4000000 in
set_option maxRecDepth 100000 in
theorem b_X7_block_B219 (X : cx p s m meth c args cX7_block 9 (some .int) RX7 D [(cI, .int), (cZ, .boolean)]) (hN : nj ad 30) {σ : St} {t0 t1 : Int32} {r : Int32} {σ' : St} (hf : f_X7_block_B219 t0 t1 σ = some (r, σ')) {H : Heap} {locs : List Loc} {ls : Array Slot} (hP : va_P D vwCl (wM ad cI cZ σ) H) (hS : va_S (aw ad 30) s.heap H locs) (hl : lv_has ls 9 [(0, .ref (ad 0))]) : W p l e rm_X7_block s m args below meth c H locs 0 0 (MQ below (qI D (wM ad cI cZ) (aw ad 30) r σ') args s 0 0 (aw ad 30)) (F0 m 219 ls [.int t0, .int t1, .ref (ad 7)]) := by
  obtain ⟨hx, hb, hml, hown, hts, hr, hlk, hK⟩ := id X
  rw [f_X7_block_B219] at hf
  obtain ⟨hi, σ1, e_σ1, hf⟩ := sd_some hf
  refine str (t0 := 0) X hP (wM_D hN) hS wM_7 wM_s7 rfl hi e_σ1 dX7_block_219 (fun H locs hP hS => ?_)
  refine lv_aload_n hx hb dX7_block_220 rfl (lv_at hl 0 rfl) ?_
  refine fg_X7_31 X hP dX7_block_221 ?_
  refine lv_iconst (v := 2) hx hb dX7_block_224 rfl ?_
  refine lv_aload_n hx hb dX7_block_225 rfl (lv_at hl 0 rfl) ?_
  obtain ⟨x2, e_x2, hf⟩ := lf_some hf
  refine fg_X7_98 X hP e_x2 dX7_block_226 ?_
  refine lv_imul hx hb dX7_block_229 ?_
  refine lv_bipush (v := (-9)) hx hb dX7_block_230 rfl ?_
  obtain ⟨hi, σ3, e_σ3, hf⟩ := sd_some hf
  refine str (t0 := 0) X hP (wM_D hN) hS wM_8 wM_s8 rfl hi e_σ3 dX7_block_232 (fun H locs hP hS => ?_)
  refine lv_aload_n hx hb dX7_block_233 rfl (lv_at hl 0 rfl) ?_
  refine fg_X7_31 X hP dX7_block_234 ?_
  refine lv_iconst (v := 2) hx hb dX7_block_237 rfl ?_
  refine lv_aload_n hx hb dX7_block_238 rfl (lv_at hl 0 rfl) ?_
  obtain ⟨x4, e_x4, hf⟩ := lf_some hf
  refine fg_X7_98 X hP e_x4 dX7_block_239 ?_
  refine lv_imul hx hb dX7_block_242 ?_
  refine lv_iconst (v := 1) hx hb dX7_block_243 rfl ?_
  refine lv_iadd hx hb dX7_block_244 ?_
  refine lv_bipush (v := (-9)) hx hb dX7_block_245 rfl ?_
  obtain ⟨hi, σ5, e_σ5, hf⟩ := sd_some hf
  refine str (t0 := 0) X hP (wM_D hN) hS wM_8 wM_s8 rfl hi e_σ5 dX7_block_247 (fun H locs hP hS => ?_)
  refine lv_aload_n hx hb dX7_block_248 rfl (lv_at hl 0 rfl) ?_
  refine lv_dup hx hb dX7_block_249 rfl ?_
  obtain ⟨x6, e_x6, hf⟩ := lf_some hf
  refine fg_X7_98 X hP e_x6 dX7_block_250 ?_
  refine lv_iconst (v := 1) hx hb dX7_block_253 rfl ?_
  refine lv_iadd hx hb dX7_block_254 ?_
  obtain ⟨σ7, e_σ7, hf⟩ := sf_some hf
  refine fp_X7_98 X hN hP hS e_σ7 dX7_block_255 (fun H locs hP hS => ?_)
  refine lv_aload_n hx hb dX7_block_258 rfl (lv_at hl 0 rfl) ?_
  obtain ⟨x8, e_x8, hf⟩ := lf_some hf
  refine fg_X7_98 X hP e_x8 dX7_block_259 ?_
  refine lv_iconst (v := 1) hx hb dX7_block_262 rfl ?_
  refine lv_isub hx hb dX7_block_263 ?_
  exact rIe X hP hS hf dX7_block_264
set_option maxHeartbeats 4000000 in
set_option maxRecDepth 100000 in
theorem b_X7_block_L80 (X : cx p s m meth c args cX7_block 9 (some .int) RX7 D [(cI, .int), (cZ, .boolean)]) (hN : nj ad 30) : ∀ (n : Nat) {σ : St} {a1 a2 a3 a4 a5 a6 a8 : Int32} {r : Int32} {σ' : St}, f_X7_block_L80 n a1 a2 a3 a4 a5 a6 a8 σ = some (r, σ') → ∀ {H : Heap} {locs : List Loc} {ls : Array Slot}, va_P D vwCl (wM ad cI cZ σ) H → va_S (aw ad 30) s.heap H locs → lv_has ls 9 [(0, .ref (ad 0)), (1, .int a1), (2, .int a2), (3, .int a3), (4, .int a4), (5, .int a5), (6, .int a6), (8, .int a8)] → W p l e rm_X7_block s m args below meth c H locs 0 0 (MQ below (qI D (wM ad cI cZ) (aw ad 30) r σ') args s 0 0 (aw ad 30)) (F0 m 80 ls []) := by
  intro n
  induction n with
  | zero =>
    intro σ a1 a2 a3 a4 a5 a6 a8 r σ' hf
    rw [f_X7_block_L80] at hf
    cases hf
  | succ n ih =>
    intro σ a1 a2 a3 a4 a5 a6 a8 r σ' hf H locs ls hP hS hl
    obtain ⟨hx, hb, hml, hown, hts, hr, hlk, hK⟩ := id X
    rw [f_X7_block_L80] at hf
    refine lv_iload hx hb dX7_block_80 (lv_at hl 7 rfl) ?_
    refine lv_aload_n hx hb dX7_block_82 rfl (lv_at hl 0 rfl) ?_
    obtain ⟨x1, e_x1, hf⟩ := lf_some hf
    refine fg_X7_98 X hP e_x1 dX7_block_83 ?_
    refine lv_icmp_ge (tgt := 125) hx hb dX7_block_86 (by decide) (fun hq => ?_) (fun hq => ?_)
    · have hf := if_t hq hf
      refine lv_aload_n hx hb dX7_block_125 rfl (lv_at hl 0 rfl) ?_
      obtain ⟨x2, e_x2, hf⟩ := lf_some hf
      refine fg_X7_98 X hP e_x2 dX7_block_126 ?_
      refine lv_bipush (v := 24) hx hb dX7_block_129 rfl ?_
      refine lv_icmp_ne (tgt := 137) hx hb dX7_block_131 (by decide) (fun hq => ?_) (fun hq => ?_)
      · have hf := if_f hq hf
        refine lv_aload_n hx hb dX7_block_137 rfl (lv_at hl 0 rfl) ?_
        refine fg_X7_7 X hP dX7_block_138 ?_
        refine lv_aload_n hx hb dX7_block_141 rfl (lv_at hl 0 rfl) ?_
        obtain ⟨x3, e_x3, hf⟩ := lf_some hf
        refine fg_X7_98 X hP e_x3 dX7_block_142 ?_
        refine lv_iload_n hx hb dX7_block_145 rfl (lv_at hl 1 rfl) ?_
        obtain ⟨hi, σ4, e_σ4, hf⟩ := sd_some hf
        refine str (t0 := 0) X hP (wM_D hN) hS wM_1 wM_s1 rfl hi e_σ4 dX7_block_146 (fun H locs hP hS => ?_)
        refine lv_aload_n hx hb dX7_block_147 rfl (lv_at hl 0 rfl) ?_
        refine fg_X7_13 X hP dX7_block_148 ?_
        refine lv_aload_n hx hb dX7_block_151 rfl (lv_at hl 0 rfl) ?_
        obtain ⟨x5, e_x5, hf⟩ := lf_some hf
        refine fg_X7_98 X hP e_x5 dX7_block_152 ?_
        refine lv_iload_n hx hb dX7_block_155 rfl (lv_at hl 2 rfl) ?_
        obtain ⟨hi, σ6, e_σ6, hf⟩ := sd_some hf
        refine str (t0 := 0) X hP (wM_D hN) hS wM_2 wM_s2 rfl hi e_σ6 dX7_block_156 (fun H locs hP hS => ?_)
        refine lv_aload_n hx hb dX7_block_157 rfl (lv_at hl 0 rfl) ?_
        refine fg_X7_16 X hP dX7_block_158 ?_
        refine lv_aload_n hx hb dX7_block_161 rfl (lv_at hl 0 rfl) ?_
        obtain ⟨x7, e_x7, hf⟩ := lf_some hf
        refine fg_X7_98 X hP e_x7 dX7_block_162 ?_
        refine lv_iload_n hx hb dX7_block_165 rfl (lv_at hl 3 rfl) ?_
        obtain ⟨hi, σ8, e_σ8, hf⟩ := sd_some hf
        refine str (t0 := 0) X hP (wM_D hN) hS wM_3 wM_s3 rfl hi e_σ8 dX7_block_166 (fun H locs hP hS => ?_)
        refine lv_aload_n hx hb dX7_block_167 rfl (lv_at hl 0 rfl) ?_
        refine fg_X7_19 X hP dX7_block_168 ?_
        refine lv_aload_n hx hb dX7_block_171 rfl (lv_at hl 0 rfl) ?_
        obtain ⟨x9, e_x9, hf⟩ := lf_some hf
        refine fg_X7_98 X hP e_x9 dX7_block_172 ?_
        refine lv_iload hx hb dX7_block_175 (lv_at hl 4 rfl) ?_
        obtain ⟨hi, σ10, e_σ10, hf⟩ := sd_some hf
        refine str (t0 := 0) X hP (wM_D hN) hS wM_4 wM_s4 rfl hi e_σ10 dX7_block_177 (fun H locs hP hS => ?_)
        refine lv_aload_n hx hb dX7_block_178 rfl (lv_at hl 0 rfl) ?_
        refine fg_X7_22 X hP dX7_block_179 ?_
        refine lv_aload_n hx hb dX7_block_182 rfl (lv_at hl 0 rfl) ?_
        obtain ⟨x11, e_x11, hf⟩ := lf_some hf
        refine fg_X7_98 X hP e_x11 dX7_block_183 ?_
        refine lv_iload hx hb dX7_block_186 (lv_at hl 5 rfl) ?_
        obtain ⟨hi, σ12, e_σ12, hf⟩ := sd_some hf
        refine str (t0 := 0) X hP (wM_D hN) hS wM_5 wM_s5 rfl hi e_σ12 dX7_block_188 (fun H locs hP hS => ?_)
        refine lv_aload_n hx hb dX7_block_189 rfl (lv_at hl 0 rfl) ?_
        refine fg_X7_25 X hP dX7_block_190 ?_
        refine lv_aload_n hx hb dX7_block_193 rfl (lv_at hl 0 rfl) ?_
        obtain ⟨x13, e_x13, hf⟩ := lf_some hf
        refine fg_X7_98 X hP e_x13 dX7_block_194 ?_
        refine lv_iload hx hb dX7_block_197 (lv_at hl 6 rfl) ?_
        obtain ⟨hi, σ14, e_σ14, hf⟩ := sd_some hf
        refine str (t0 := 0) X hP (wM_D hN) hS wM_6 wM_s6 rfl hi e_σ14 dX7_block_199 (fun H locs hP hS => ?_)
        refine lv_aload_n hx hb dX7_block_200 rfl (lv_at hl 0 rfl) ?_
        refine fg_X7_28 X hP dX7_block_201 ?_
        refine lv_aload_n hx hb dX7_block_204 rfl (lv_at hl 0 rfl) ?_
        obtain ⟨x15, e_x15, hf⟩ := lf_some hf
        refine fg_X7_98 X hP e_x15 dX7_block_205 ?_
        refine lv_iload_n hx hb dX7_block_208 rfl (lv_at hl 2 rfl) ?_
        refine lv_iconst (v := 1) hx hb dX7_block_209 rfl ?_
        refine lv_icmp_ne (tgt := 217) hx hb dX7_block_210 (by decide) (fun hq => ?_) (fun hq => ?_)
        · have hf := if_f hq hf
          refine lv_bipush (v := (-9)) hx hb dX7_block_217 rfl ?_
          exact b_X7_block_B219 X hN hf hP hS (lv_sub hl [0] rfl)
        · have hf := if_t hq hf
          refine lv_iconst (v := 1) hx hb dX7_block_213 rfl ?_
          refine lv_goto (tgt := 219) hx hb dX7_block_214 (by decide) ?_
          exact b_X7_block_B219 X hN hf hP hS (lv_sub hl [0] rfl)
      · have hf := if_t hq hf
        refine lv_bipush (v := (-4)) hx hb dX7_block_134 rfl ?_
        exact rIe X hP hS hf dX7_block_136
    · have hf := if_f hq hf
      refine lv_aload_n hx hb dX7_block_89 rfl (lv_at hl 0 rfl) ?_
      refine fg_X7_7 X hP dX7_block_90 ?_
      refine lv_iload hx hb dX7_block_93 (lv_at hl 7 rfl) ?_
      obtain ⟨hi, x16, e_x16, hf⟩ := ld_some hf
      refine ldr (t0 := 0) X hP wM_1 rfl hi e_x16 dX7_block_95 ?_
      refine lv_iload_n hx hb dX7_block_96 rfl (lv_at hl 1 rfl) ?_
      refine lv_icmp_ne (tgt := 119) hx hb dX7_block_97 (by decide) (fun hq => ?_) (fun hq => ?_)
      · have hf := if_f hq hf
        refine lv_iinc (v := (a8 + 1)) (lv' := [(8, .int (a8 + 1)), (0, .ref (ad 0)), (1, .int a1), (2, .int a2), (3, .int a3), (4, .int a4), (5, .int a5), (6, .int a6)]) hx hb dX7_block_119 hl (k := 7) rfl rfl (by decide) rfl (fun ls hl => ?_)
        refine lv_goto (tgt := 80) hx hb dX7_block_122 (by decide) ?_
        exact ih hf hP hS (lv_sub hl [1, 2, 3, 4, 5, 6, 7, 0] rfl)
      · have hf := if_t hq hf
        refine lv_aload_n hx hb dX7_block_100 rfl (lv_at hl 0 rfl) ?_
        refine lv_iload hx hb dX7_block_101 (lv_at hl 7 rfl) ?_
        refine lv_iload_n hx hb dX7_block_103 rfl (lv_at hl 3 rfl) ?_
        refine lv_iload hx hb dX7_block_104 (lv_at hl 4 rfl) ?_
        refine lv_iload hx hb dX7_block_106 (lv_at hl 5 rfl) ?_
        refine lv_iload hx hb dX7_block_108 (lv_at hl 6 rfl) ?_
        obtain ⟨x17, hc, hf⟩ := bi_some hf
        refine kVi (As := [.int a8, .int a3, .int a4, .int a5, .int a6]) (rest := []) (wd := (wM ad cI cZ)) (q0 := 0) (ci := 7) X (c_X7_isMeeting (l := l) (D := D) (σ := σ) hN hc) (cw_X7_106 X.2.2.2.2.1 ⟨Nat.le_of_ble_eq_true rfl, Nat.le_of_ble_eq_true rfl⟩) rfl rfl hP hS hl rfl rfl (Nat.le_of_ble_eq_true rfl) dX7_block_110 (fun H locs hP hS => ?_)
        refine lv_if_eq (tgt := 119) hx hb dX7_block_113 (by decide) (fun hq => ?_) (fun hq => ?_)
        · have hf := if_t hq hf
          refine lv_iinc (v := (a8 + 1)) (lv' := [(8, .int (a8 + 1)), (0, .ref (ad 0)), (1, .int a1), (2, .int a2), (3, .int a3), (4, .int a4), (5, .int a5), (6, .int a6)]) hx hb dX7_block_119 hl (k := 7) rfl rfl (by decide) rfl (fun ls hl => ?_)
          refine lv_goto (tgt := 80) hx hb dX7_block_122 (by decide) ?_
          exact ih hf hP hS (lv_sub hl [1, 2, 3, 4, 5, 6, 7, 0] rfl)
        · have hf := if_f hq hf
          refine lv_bipush (v := (-3)) hx hb dX7_block_116 rfl ?_
          exact rIe X hP hS hf dX7_block_118
set_option maxHeartbeats 4000000 in
set_option maxRecDepth 100000 in
theorem b_X7_block_B49 (X : cx p s m meth c args cX7_block 9 (some .int) RX7 D [(cI, .int), (cZ, .boolean)]) (hN : nj ad 30) {σ : St} {a1 a2 a3 a4 a5 a6 t0 : Int32} {r : Int32} {σ' : St} (hf : f_X7_block_B49 a1 a2 a3 a4 a5 a6 t0 σ = some (r, σ')) {H : Heap} {locs : List Loc} {ls : Array Slot} (hP : va_P D vwCl (wM ad cI cZ σ) H) (hS : va_S (aw ad 30) s.heap H locs) (hl : lv_has ls 9 [(0, .ref (ad 0)), (1, .int a1), (2, .int a2), (3, .int a3), (4, .int a4), (5, .int a5), (6, .int a6)]) : W p l e rm_X7_block s m args below meth c H locs 0 0 (MQ below (qI D (wM ad cI cZ) (aw ad 30) r σ') args s 0 0 (aw ad 30)) (F0 m 49 ls [.int t0]) := by
  obtain ⟨hx, hb, hml, hown, hts, hr, hlk, hK⟩ := id X
  rw [f_X7_block_B49] at hf
  refine lv_istore (lv' := [(7, .int t0), (0, .ref (ad 0)), (1, .int a1), (2, .int a2), (3, .int a3), (4, .int a4), (5, .int a5), (6, .int a6)]) hx hb dX7_block_49 hl (by decide) rfl (fun ls hl => ?_)
  refine lv_iload_n hx hb dX7_block_51 rfl (lv_at hl 2 rfl) ?_
  refine lv_iconst (v := 0) hx hb dX7_block_52 rfl ?_
  refine lv_iconst (v := 3) hx hb dX7_block_53 rfl ?_
  obtain ⟨x1, hc, hf⟩ := bi_some hf
  refine kSi (As := [.int a1, .int 0, .int 3]) (rest := []) (wd := (wM ad cI cZ)) X (c_X7_within (l := l) (D := D) (σ := σ) hN hc) (cw_X7_102 X.2.2.2.2.1 ⟨Nat.le_of_ble_eq_true rfl, Nat.le_of_ble_eq_true rfl⟩) hP hS hl rfl rfl (Nat.le_of_ble_eq_true rfl) dX7_block_54 (fun H locs hP hS => ?_)
  refine lv_if_eq (tgt := 74) hx hb dX7_block_57 (by decide) (fun hq => ?_) (fun hq => ?_)
  · have hf := if_t hq hf
    refine lv_bipush (v := (-2)) hx hb dX7_block_74 rfl ?_
    exact rIe X hP hS hf dX7_block_76
  · have hf := if_f hq hf
    refine lv_iload_n hx hb dX7_block_60 rfl (lv_at hl 3 rfl) ?_
    refine lv_iconst (v := 0) hx hb dX7_block_61 rfl ?_
    refine lv_iconst (v := 2) hx hb dX7_block_62 rfl ?_
    obtain ⟨x2, hc, hf⟩ := bi_some hf
    refine kSi (As := [.int a2, .int 0, .int 2]) (rest := []) (wd := (wM ad cI cZ)) X (c_X7_within (l := l) (D := D) (σ := σ) hN hc) (cw_X7_102 X.2.2.2.2.1 ⟨Nat.le_of_ble_eq_true rfl, Nat.le_of_ble_eq_true rfl⟩) hP hS hl rfl rfl (Nat.le_of_ble_eq_true rfl) dX7_block_63 (fun H locs hP hS => ?_)
    refine lv_if_eq (tgt := 74) hx hb dX7_block_66 (by decide) (fun hq => ?_) (fun hq => ?_)
    · have hf := if_t hq hf
      refine lv_bipush (v := (-2)) hx hb dX7_block_74 rfl ?_
      exact rIe X hP hS hf dX7_block_76
    · have hf := if_f hq hf
      refine lv_iload hx hb dX7_block_69 (lv_at hl 0 rfl) ?_
      refine lv_if_ne (tgt := 77) hx hb dX7_block_71 (by decide) (fun hq => ?_) (fun hq => ?_)
      · have hf := if_f hq hf
        refine lv_iconst (v := 0) hx hb dX7_block_77 rfl ?_
        refine lv_istore (lv' := [(8, .int 0), (7, .int t0), (0, .ref (ad 0)), (1, .int a1), (2, .int a2), (3, .int a3), (4, .int a4), (5, .int a5), (6, .int a6)]) hx hb dX7_block_78 hl (by decide) rfl (fun ls hl => ?_)
        exact b_X7_block_L80 X hN _ hf hP hS (lv_sub hl [2, 3, 4, 5, 6, 7, 8, 0] rfl)
      · have hf := if_t hq hf
        refine lv_bipush (v := (-2)) hx hb dX7_block_74 rfl ?_
        exact rIe X hP hS hf dX7_block_76
set_option maxHeartbeats 4000000 in
set_option maxRecDepth 100000 in
theorem b_X7_block_B48 (X : cx p s m meth c args cX7_block 9 (some .int) RX7 D [(cI, .int), (cZ, .boolean)]) (hN : nj ad 30) {σ : St} {a1 a2 a3 a4 a5 a6 : Int32} {r : Int32} {σ' : St} (hf : f_X7_block_B48 a1 a2 a3 a4 a5 a6 σ = some (r, σ')) {H : Heap} {locs : List Loc} {ls : Array Slot} (hP : va_P D vwCl (wM ad cI cZ σ) H) (hS : va_S (aw ad 30) s.heap H locs) (hl : lv_has ls 9 [(0, .ref (ad 0)), (1, .int a1), (2, .int a2), (3, .int a3), (4, .int a4), (5, .int a5), (6, .int a6)]) : W p l e rm_X7_block s m args below meth c H locs 0 0 (MQ below (qI D (wM ad cI cZ) (aw ad 30) r σ') args s 0 0 (aw ad 30)) (F0 m 48 ls []) := by
  obtain ⟨hx, hb, hml, hown, hts, hr, hlk, hK⟩ := id X
  rw [f_X7_block_B48] at hf
  refine lv_iconst (v := 0) hx hb dX7_block_48 rfl ?_
  exact b_X7_block_B49 X hN hf hP hS (lv_sub hl [0, 1, 2, 3, 4, 5, 6] rfl)
set_option maxHeartbeats 4000000 in
set_option maxRecDepth 100000 in
theorem b_X7_block (X : cx p s m meth c args cX7_block 9 (some .int) RX7 D [(cI, .int), (cZ, .boolean)]) (hN : nj ad 30) {σ : St} {a1 a2 a3 a4 a5 a6 : Int32} {r : Int32} {σ' : St} (hf : f_X7_block a1 a2 a3 a4 a5 a6 σ = some (r, σ')) {H : Heap} {locs : List Loc} {ls : Array Slot} (hP : va_P D vwCl (wM ad cI cZ σ) H) (hS : va_S (aw ad 30) s.heap H locs) (hl : lv_has ls 9 [(0, .ref (ad 0)), (1, .int a1), (2, .int a2), (3, .int a3), (4, .int a4), (5, .int a5), (6, .int a6)]) : W p l e rm_X7_block s m args below meth c H locs 0 0 (MQ below (qI D (wM ad cI cZ) (aw ad 30) r σ') args s 0 0 (aw ad 30)) (F0 m 0 ls []) := by
  obtain ⟨hx, hb, hml, hown, hts, hr, hlk, hK⟩ := id X
  rw [f_X7_block] at hf
  refine lv_iload_n hx hb dX7_block_0 rfl (lv_at hl 3 rfl) ?_
  refine lv_iconst (v := 0) hx hb dX7_block_1 rfl ?_
  refine lv_iload hx hb dX7_block_2 (lv_at hl 4 rfl) ?_
  obtain ⟨x1, hc, hf⟩ := bi_some hf
  refine kSi (As := [.int a3, .int 0, .int a4]) (rest := []) (wd := (wM ad cI cZ)) X (c_X7_within (l := l) (D := D) (σ := σ) hN hc) (cw_X7_102 X.2.2.2.2.1 ⟨Nat.le_of_ble_eq_true rfl, Nat.le_of_ble_eq_true rfl⟩) hP hS hl rfl rfl (Nat.le_of_ble_eq_true rfl) dX7_block_4 (fun H locs hP hS => ?_)
  refine lv_if_eq (tgt := 48) hx hb dX7_block_7 (by decide) (fun hq => ?_) (fun hq => ?_)
  · have hf := if_t hq hf
    exact b_X7_block_B48 X hN hf hP hS (lv_sub hl [0, 1, 2, 3, 4, 5, 6] rfl)
  · have hf := if_f hq hf
    refine lv_iload hx hb dX7_block_10 (lv_at hl 4 rfl) ?_
    refine lv_iload_n hx hb dX7_block_12 rfl (lv_at hl 3 rfl) ?_
    refine lv_bipush (v := 7) hx hb dX7_block_13 rfl ?_
    obtain ⟨x2, hc, hf⟩ := bi_some hf
    refine kSi (As := [.int a4, .int a3, .int 7]) (rest := []) (wd := (wM ad cI cZ)) X (c_X7_within (l := l) (D := D) (σ := σ) hN hc) (cw_X7_102 X.2.2.2.2.1 ⟨Nat.le_of_ble_eq_true rfl, Nat.le_of_ble_eq_true rfl⟩) hP hS hl rfl rfl (Nat.le_of_ble_eq_true rfl) dX7_block_15 (fun H locs hP hS => ?_)
    refine lv_if_eq (tgt := 48) hx hb dX7_block_18 (by decide) (fun hq => ?_) (fun hq => ?_)
    · have hf := if_t hq hf
      exact b_X7_block_B48 X hN hf hP hS (lv_sub hl [0, 1, 2, 3, 4, 5, 6] rfl)
    · have hf := if_f hq hf
      refine lv_iload hx hb dX7_block_21 (lv_at hl 5 rfl) ?_
      refine lv_iconst (v := 0) hx hb dX7_block_23 rfl ?_
      refine lv_iload hx hb dX7_block_24 (lv_at hl 6 rfl) ?_
      obtain ⟨x3, hc, hf⟩ := bi_some hf
      refine kSi (As := [.int a5, .int 0, .int a6]) (rest := []) (wd := (wM ad cI cZ)) X (c_X7_within (l := l) (D := D) (σ := σ) hN hc) (cw_X7_102 X.2.2.2.2.1 ⟨Nat.le_of_ble_eq_true rfl, Nat.le_of_ble_eq_true rfl⟩) hP hS hl rfl rfl (Nat.le_of_ble_eq_true rfl) dX7_block_26 (fun H locs hP hS => ?_)
      refine lv_if_eq (tgt := 48) hx hb dX7_block_29 (by decide) (fun hq => ?_) (fun hq => ?_)
      · have hf := if_t hq hf
        exact b_X7_block_B48 X hN hf hP hS (lv_sub hl [0, 1, 2, 3, 4, 5, 6] rfl)
      · have hf := if_f hq hf
        refine lv_iload hx hb dX7_block_32 (lv_at hl 6 rfl) ?_
        refine lv_iload hx hb dX7_block_34 (lv_at hl 5 rfl) ?_
        refine lv_bipush (v := 29) hx hb dX7_block_36 rfl ?_
        obtain ⟨x4, hc, hf⟩ := bi_some hf
        refine kSi (As := [.int a6, .int a5, .int 29]) (rest := []) (wd := (wM ad cI cZ)) X (c_X7_within (l := l) (D := D) (σ := σ) hN hc) (cw_X7_102 X.2.2.2.2.1 ⟨Nat.le_of_ble_eq_true rfl, Nat.le_of_ble_eq_true rfl⟩) hP hS hl rfl rfl (Nat.le_of_ble_eq_true rfl) dX7_block_38 (fun H locs hP hS => ?_)
        refine lv_if_eq (tgt := 48) hx hb dX7_block_41 (by decide) (fun hq => ?_) (fun hq => ?_)
        · have hf := if_t hq hf
          exact b_X7_block_B48 X hN hf hP hS (lv_sub hl [0, 1, 2, 3, 4, 5, 6] rfl)
        · have hf := if_f hq hf
          refine lv_iconst (v := 1) hx hb dX7_block_44 rfl ?_
          refine lv_goto (tgt := 49) hx hb dX7_block_45 (by decide) ?_
          exact b_X7_block_B49 X hN hf hP hS (lv_sub hl [0, 1, 2, 3, 4, 5, 6] rfl)
set_option maxHeartbeats 4000000 in
set_option maxRecDepth 100000 in
theorem c_X7_block {l : Launch} {D : va_G} {ad : Nat → Nat} {cI cZ : ClassId} (hN : nj ad 30) {σ : St} {a1 a2 a3 a4 a5 a6 : Int32} {r : Int32} {σ' : St} (hf : f_X7_block a1 a2 a3 a4 a5 a6 σ = some (r, σ')) : Met l yX7_block (.code yX7_block cX7_block 9 (some .int) :: wsL_law) rm_X7_block (va_Pc [.ref (ad 0), .int a1, .int a2, .int a3, .int a4, .int a5, .int a6] (pw D (wM ad cI cZ) [(cI, .int), (cZ, .boolean)] σ)) (qI D (wM ad cI cZ) (aw ad 30) r σ') 0 0 (aw ad 30) :=
  met_mk (by decide) rfl (Nat.le_of_ble_eq_true rfl) (fun p e s m below meth c X hP ls hl => b_X7_block X hN hf hP va_S.rf hl)
set_option maxHeartbeats 4000000 in
set_option maxRecDepth 100000 in
theorem b_X7_words (X : cx p s m meth c args cX7_words 4 (some .int) RX7 D [(cI, .int), (cZ, .boolean)]) (hN : nj ad 30) {σ : St} {a1 a2 : Int32} {r : Int32} {σ' : St} (hf : f_X7_words a1 a2 σ = some (r, σ')) {H : Heap} {locs : List Loc} {ls : Array Slot} (hP : va_P D vwCl (wM ad cI cZ σ) H) (hS : va_S (aw ad 30) s.heap H locs) (hl : lv_has ls 4 [(0, .ref (ad 0)), (1, .int a1), (2, .int a2)]) : W p l e rm_X7_words s m args below meth c H locs 0 0 (MQ below (qI D (wM ad cI cZ) (aw ad 30) r σ') args s 0 0 (aw ad 30)) (F0 m 0 ls []) := by
  obtain ⟨hx, hb, hml, hown, hts, hr, hlk, hK⟩ := id X
  rw [f_X7_words] at hf
  refine lv_aload_n hx hb dX7_words_0 rfl (lv_at hl 0 rfl) ?_
  refine lv_iload_n hx hb dX7_words_1 rfl (lv_at hl 1 rfl) ?_
  obtain ⟨x1, hc, hf⟩ := bi_some hf
  refine kVi (As := [.int a1]) (rest := []) (wd := (wM ad cI cZ)) (q0 := 0) (ci := 7) X (c_X7_isBlock (l := l) (D := D) (σ := σ) hN hc) (cw_X7_110 X.2.2.2.2.1 ⟨Nat.le_of_ble_eq_true rfl, Nat.le_of_ble_eq_true rfl⟩) rfl rfl hP hS hl rfl rfl (Nat.le_of_ble_eq_true rfl) dX7_words_2 (fun H locs hP hS => ?_)
  refine lv_if_ne (tgt := 10) hx hb dX7_words_5 (by decide) (fun hq => ?_) (fun hq => ?_)
  · have hf := if_f hq hf
    refine lv_iload_n hx hb dX7_words_10 rfl (lv_at hl 2 rfl) ?_
    refine lv_iconst (v := 1) hx hb dX7_words_11 rfl ?_
    refine lv_bipush (v := 99) hx hb dX7_words_12 rfl ?_
    obtain ⟨x2, hc, hf⟩ := bi_some hf
    refine kSi (As := [.int a2, .int 1, .int 99]) (rest := []) (wd := (wM ad cI cZ)) X (c_X7_within (l := l) (D := D) (σ := σ) hN hc) (cw_X7_102 X.2.2.2.2.1 ⟨Nat.le_of_ble_eq_true rfl, Nat.le_of_ble_eq_true rfl⟩) hP hS hl rfl rfl (Nat.le_of_ble_eq_true rfl) dX7_words_14 (fun H locs hP hS => ?_)
    refine lv_if_ne (tgt := 23) hx hb dX7_words_17 (by decide) (fun hq => ?_) (fun hq => ?_)
    · have hf := if_f hq hf
      refine lv_aload_n hx hb dX7_words_23 rfl (lv_at hl 0 rfl) ?_
      refine fg_X7_13 X hP dX7_words_24 ?_
      refine lv_iload_n hx hb dX7_words_27 rfl (lv_at hl 1 rfl) ?_
      obtain ⟨hi, x3, e_x3, hf⟩ := ld_some hf
      refine ldr (t0 := 0) X hP wM_2 rfl hi e_x3 dX7_words_28 ?_
      refine lv_iconst (v := 1) hx hb dX7_words_29 rfl ?_
      refine lv_icmp_eq (tgt := 36) hx hb dX7_words_30 (by decide) (fun hq => ?_) (fun hq => ?_)
      · have hf := if_t hq hf
        refine lv_aload_n hx hb dX7_words_36 rfl (lv_at hl 0 rfl) ?_
        refine fg_X7_28 X hP dX7_words_37 ?_
        refine lv_iload_n hx hb dX7_words_40 rfl (lv_at hl 1 rfl) ?_
        obtain ⟨hi, x4, e_x4, hf⟩ := ld_some hf
        refine ldr (t0 := 0) X hP wM_7 rfl hi e_x4 dX7_words_41 ?_
        refine lv_istore_n (lv' := [(3, .int x4), (0, .ref (ad 0)), (1, .int a1), (2, .int a2)]) hx hb dX7_words_42 rfl hl (by decide) rfl (fun ls hl => ?_)
        refine lv_aload_n hx hb dX7_words_43 rfl (lv_at hl 1 rfl) ?_
        refine fg_X7_28 X hP dX7_words_44 ?_
        refine lv_iload_n hx hb dX7_words_47 rfl (lv_at hl 2 rfl) ?_
        refine lv_iload_n hx hb dX7_words_48 rfl (lv_at hl 3 rfl) ?_
        obtain ⟨hi, σ5, e_σ5, hf⟩ := sd_some hf
        refine str (t0 := 0) X hP (wM_D hN) hS wM_7 wM_s7 rfl hi e_σ5 dX7_words_49 (fun H locs hP hS => ?_)
        refine lv_iload_n hx hb dX7_words_50 rfl (lv_at hl 0 rfl) ?_
        exact rIe X hP hS hf dX7_words_51
      · have hf := if_f hq hf
        refine lv_bipush (v := (-3)) hx hb dX7_words_33 rfl ?_
        exact rIe X hP hS hf dX7_words_35
    · have hf := if_t hq hf
      refine lv_bipush (v := (-2)) hx hb dX7_words_20 rfl ?_
      exact rIe X hP hS hf dX7_words_22
  · have hf := if_t hq hf
    refine lv_iconst (v := (-1)) hx hb dX7_words_8 rfl ?_
    exact rIe X hP hS hf dX7_words_9
set_option maxHeartbeats 4000000 in
set_option maxRecDepth 100000 in
theorem c_X7_words {l : Launch} {D : va_G} {ad : Nat → Nat} {cI cZ : ClassId} (hN : nj ad 30) {σ : St} {a1 a2 : Int32} {r : Int32} {σ' : St} (hf : f_X7_words a1 a2 σ = some (r, σ')) : Met l yX7_words (.code yX7_words cX7_words 4 (some .int) :: wsL_law) rm_X7_words (va_Pc [.ref (ad 0), .int a1, .int a2] (pw D (wM ad cI cZ) [(cI, .int), (cZ, .boolean)] σ)) (qI D (wM ad cI cZ) (aw ad 30) r σ') 0 0 (aw ad 30) :=
  met_mk (by decide) rfl (Nat.le_of_ble_eq_true rfl) (fun p e s m below meth c X hP ls hl => b_X7_words X hN hf hP va_S.rf hl)
set_option maxHeartbeats 4000000 in
set_option maxRecDepth 100000 in
theorem b_X7_line_B45 (X : cx p s m meth c args cX7_line 8 (some .int) RX7 D [(cI, .int), (cZ, .boolean)]) (hN : nj ad 30) {σ : St} {a1 a2 a3 a4 a5 a6 t0 : Int32} {r : Int32} {σ' : St} (hf : f_X7_line_B45 a1 a2 a3 a4 a5 a6 t0 σ = some (r, σ')) {H : Heap} {locs : List Loc} {ls : Array Slot} (hP : va_P D vwCl (wM ad cI cZ σ) H) (hS : va_S (aw ad 30) s.heap H locs) (hl : lv_has ls 8 [(0, .ref (ad 0)), (1, .int a1), (2, .int a2), (3, .int a3), (4, .int a4), (5, .int a5), (6, .int a6)]) : W p l e rm_X7_line s m args below meth c H locs 0 0 (MQ below (qI D (wM ad cI cZ) (aw ad 30) r σ') args s 0 0 (aw ad 30)) (F0 m 45 ls [.int t0]) := by
  obtain ⟨hx, hb, hml, hown, hts, hr, hlk, hK⟩ := id X
  rw [f_X7_line_B45] at hf
  refine lv_istore (lv' := [(7, .int t0), (0, .ref (ad 0)), (1, .int a1), (2, .int a2), (3, .int a3), (4, .int a4), (5, .int a5), (6, .int a6)]) hx hb dX7_line_45 hl (by decide) rfl (fun ls hl => ?_)
  refine lv_iload_n hx hb dX7_line_47 rfl (lv_at hl 4 rfl) ?_
  refine lv_iconst (v := 1) hx hb dX7_line_48 rfl ?_
  refine lv_iload hx hb dX7_line_49 (lv_at hl 7 rfl) ?_
  obtain ⟨x1, hc, hf⟩ := bi_some hf
  refine kSi (As := [.int a3, .int 1, .int a6]) (rest := []) (wd := (wM ad cI cZ)) X (c_X7_within (l := l) (D := D) (σ := σ) hN hc) (cw_X7_102 X.2.2.2.2.1 ⟨Nat.le_of_ble_eq_true rfl, Nat.le_of_ble_eq_true rfl⟩) hP hS hl rfl rfl (Nat.le_of_ble_eq_true rfl) dX7_line_51 (fun H locs hP hS => ?_)
  refine lv_if_eq (tgt := 75) hx hb dX7_line_54 (by decide) (fun hq => ?_) (fun hq => ?_)
  · have hf := if_t hq hf
    refine lv_bipush (v := (-2)) hx hb dX7_line_75 rfl ?_
    exact rIe X hP hS hf dX7_line_77
  · have hf := if_f hq hf
    refine lv_iload hx hb dX7_line_57 (lv_at hl 5 rfl) ?_
    refine lv_iconst (v := 0) hx hb dX7_line_59 rfl ?_
    refine lv_iload hx hb dX7_line_60 (lv_at hl 6 rfl) ?_
    obtain ⟨x2, hc, hf⟩ := bi_some hf
    refine kSi (As := [.int a4, .int 0, .int a5]) (rest := []) (wd := (wM ad cI cZ)) X (c_X7_within (l := l) (D := D) (σ := σ) hN hc) (cw_X7_102 X.2.2.2.2.1 ⟨Nat.le_of_ble_eq_true rfl, Nat.le_of_ble_eq_true rfl⟩) hP hS hl rfl rfl (Nat.le_of_ble_eq_true rfl) dX7_line_62 (fun H locs hP hS => ?_)
    refine lv_if_eq (tgt := 75) hx hb dX7_line_65 (by decide) (fun hq => ?_) (fun hq => ?_)
    · have hf := if_t hq hf
      refine lv_bipush (v := (-2)) hx hb dX7_line_75 rfl ?_
      exact rIe X hP hS hf dX7_line_77
    · have hf := if_f hq hf
      refine lv_iload hx hb dX7_line_68 (lv_at hl 6 rfl) ?_
      refine lv_iload hx hb dX7_line_70 (lv_at hl 0 rfl) ?_
      refine lv_icmp_le (tgt := 78) hx hb dX7_line_72 (by decide) (fun hq => ?_) (fun hq => ?_)
      · have hf := if_t hq hf
        refine lv_aload_n hx hb dX7_line_78 rfl (lv_at hl 1 rfl) ?_
        obtain ⟨x3, e_x3, hf⟩ := lf_some hf
        refine fg_X7_114 X hP e_x3 dX7_line_79 ?_
        refine lv_bipush (v := 12) hx hb dX7_line_82 rfl ?_
        refine lv_icmp_ne (tgt := 90) hx hb dX7_line_84 (by decide) (fun hq => ?_) (fun hq => ?_)
        · have hf := if_f hq hf
          refine lv_aload_n hx hb dX7_line_90 rfl (lv_at hl 1 rfl) ?_
          refine fg_X7_37 X hP dX7_line_91 ?_
          refine lv_aload_n hx hb dX7_line_94 rfl (lv_at hl 1 rfl) ?_
          obtain ⟨x4, e_x4, hf⟩ := lf_some hf
          refine fg_X7_114 X hP e_x4 dX7_line_95 ?_
          refine lv_iload_n hx hb dX7_line_98 rfl (lv_at hl 2 rfl) ?_
          obtain ⟨hi, σ5, e_σ5, hf⟩ := sd_some hf
          refine str (t0 := 0) X hP (wM_D hN) hS wM_10 wM_s10 rfl hi e_σ5 dX7_line_99 (fun H locs hP hS => ?_)
          refine lv_aload_n hx hb dX7_line_100 rfl (lv_at hl 1 rfl) ?_
          refine fg_X7_40 X hP dX7_line_101 ?_
          refine lv_aload_n hx hb dX7_line_104 rfl (lv_at hl 1 rfl) ?_
          obtain ⟨x6, e_x6, hf⟩ := lf_some hf
          refine fg_X7_114 X hP e_x6 dX7_line_105 ?_
          refine lv_iload_n hx hb dX7_line_108 rfl (lv_at hl 3 rfl) ?_
          obtain ⟨hi, σ7, e_σ7, hf⟩ := sd_some hf
          refine str (t0 := 0) X hP (wM_D hN) hS wM_11 wM_s11 rfl hi e_σ7 dX7_line_109 (fun H locs hP hS => ?_)
          refine lv_aload_n hx hb dX7_line_110 rfl (lv_at hl 1 rfl) ?_
          refine fg_X7_43 X hP dX7_line_111 ?_
          refine lv_aload_n hx hb dX7_line_114 rfl (lv_at hl 1 rfl) ?_
          obtain ⟨x8, e_x8, hf⟩ := lf_some hf
          refine fg_X7_114 X hP e_x8 dX7_line_115 ?_
          refine lv_iload_n hx hb dX7_line_118 rfl (lv_at hl 4 rfl) ?_
          obtain ⟨hi, σ9, e_σ9, hf⟩ := sd_some hf
          refine str (t0 := 0) X hP (wM_D hN) hS wM_12 wM_s12 rfl hi e_σ9 dX7_line_119 (fun H locs hP hS => ?_)
          refine lv_aload_n hx hb dX7_line_120 rfl (lv_at hl 1 rfl) ?_
          refine fg_X7_46 X hP dX7_line_121 ?_
          refine lv_aload_n hx hb dX7_line_124 rfl (lv_at hl 1 rfl) ?_
          obtain ⟨x10, e_x10, hf⟩ := lf_some hf
          refine fg_X7_114 X hP e_x10 dX7_line_125 ?_
          refine lv_iload hx hb dX7_line_128 (lv_at hl 5 rfl) ?_
          obtain ⟨hi, σ11, e_σ11, hf⟩ := sd_some hf
          refine str (t0 := 0) X hP (wM_D hN) hS wM_13 wM_s13 rfl hi e_σ11 dX7_line_130 (fun H locs hP hS => ?_)
          refine lv_aload_n hx hb dX7_line_131 rfl (lv_at hl 1 rfl) ?_
          refine fg_X7_49 X hP dX7_line_132 ?_
          refine lv_aload_n hx hb dX7_line_135 rfl (lv_at hl 1 rfl) ?_
          obtain ⟨x12, e_x12, hf⟩ := lf_some hf
          refine fg_X7_114 X hP e_x12 dX7_line_136 ?_
          refine lv_iload hx hb dX7_line_139 (lv_at hl 6 rfl) ?_
          obtain ⟨hi, σ13, e_σ13, hf⟩ := sd_some hf
          refine str (t0 := 0) X hP (wM_D hN) hS wM_14 wM_s14 rfl hi e_σ13 dX7_line_141 (fun H locs hP hS => ?_)
          refine lv_aload_n hx hb dX7_line_142 rfl (lv_at hl 1 rfl) ?_
          refine lv_dup hx hb dX7_line_143 rfl ?_
          obtain ⟨x14, e_x14, hf⟩ := lf_some hf
          refine fg_X7_114 X hP e_x14 dX7_line_144 ?_
          refine lv_iconst (v := 1) hx hb dX7_line_147 rfl ?_
          refine lv_iadd hx hb dX7_line_148 ?_
          obtain ⟨σ15, e_σ15, hf⟩ := sf_some hf
          refine fp_X7_114 X hN hP hS e_σ15 dX7_line_149 (fun H locs hP hS => ?_)
          refine lv_aload_n hx hb dX7_line_152 rfl (lv_at hl 1 rfl) ?_
          obtain ⟨x16, e_x16, hf⟩ := lf_some hf
          refine fg_X7_114 X hP e_x16 dX7_line_153 ?_
          refine lv_iconst (v := 1) hx hb dX7_line_156 rfl ?_
          refine lv_isub hx hb dX7_line_157 ?_
          exact rIe X hP hS hf dX7_line_158
        · have hf := if_t hq hf
          refine lv_bipush (v := (-4)) hx hb dX7_line_87 rfl ?_
          exact rIe X hP hS hf dX7_line_89
      · have hf := if_f hq hf
        refine lv_bipush (v := (-2)) hx hb dX7_line_75 rfl ?_
        exact rIe X hP hS hf dX7_line_77
set_option maxHeartbeats 4000000 in
set_option maxRecDepth 100000 in
theorem b_X7_line_B32 (X : cx p s m meth c args cX7_line 8 (some .int) RX7 D [(cI, .int), (cZ, .boolean)]) (hN : nj ad 30) {σ : St} {a1 a2 a3 a4 a5 t0 : Int32} {r : Int32} {σ' : St} (hf : f_X7_line_B32 a1 a2 a3 a4 a5 t0 σ = some (r, σ')) {H : Heap} {locs : List Loc} {ls : Array Slot} (hP : va_P D vwCl (wM ad cI cZ σ) H) (hS : va_S (aw ad 30) s.heap H locs) (hl : lv_has ls 8 [(0, .ref (ad 0)), (1, .int a1), (2, .int a2), (3, .int a3), (4, .int a4), (5, .int a5)]) : W p l e rm_X7_line s m args below meth c H locs 0 0 (MQ below (qI D (wM ad cI cZ) (aw ad 30) r σ') args s 0 0 (aw ad 30)) (F0 m 32 ls [.int t0]) := by
  obtain ⟨hx, hb, hml, hown, hts, hr, hlk, hK⟩ := id X
  rw [f_X7_line_B32] at hf
  refine lv_istore (lv' := [(6, .int t0), (0, .ref (ad 0)), (1, .int a1), (2, .int a2), (3, .int a3), (4, .int a4), (5, .int a5)]) hx hb dX7_line_32 hl (by decide) rfl (fun ls hl => ?_)
  refine lv_iload_n hx hb dX7_line_34 rfl (lv_at hl 3 rfl) ?_
  refine lv_if_ne (tgt := 43) hx hb dX7_line_35 (by decide) (fun hq => ?_) (fun hq => ?_)
  · have hf := if_f hq hf
    refine lv_bipush (v := 7) hx hb dX7_line_43 rfl ?_
    exact b_X7_line_B45 X hN hf hP hS (lv_sub hl [1, 2, 3, 4, 5, 6, 0] rfl)
  · have hf := if_t hq hf
    refine lv_bipush (v := 29) hx hb dX7_line_38 rfl ?_
    refine lv_goto (tgt := 45) hx hb dX7_line_40 (by decide) ?_
    exact b_X7_line_B45 X hN hf hP hS (lv_sub hl [1, 2, 3, 4, 5, 6, 0] rfl)
set_option maxHeartbeats 4000000 in
set_option maxRecDepth 100000 in
theorem b_X7_line (X : cx p s m meth c args cX7_line 8 (some .int) RX7 D [(cI, .int), (cZ, .boolean)]) (hN : nj ad 30) {σ : St} {a1 a2 a3 a4 a5 : Int32} {r : Int32} {σ' : St} (hf : f_X7_line a1 a2 a3 a4 a5 σ = some (r, σ')) {H : Heap} {locs : List Loc} {ls : Array Slot} (hP : va_P D vwCl (wM ad cI cZ σ) H) (hS : va_S (aw ad 30) s.heap H locs) (hl : lv_has ls 8 [(0, .ref (ad 0)), (1, .int a1), (2, .int a2), (3, .int a3), (4, .int a4), (5, .int a5)]) : W p l e rm_X7_line s m args below meth c H locs 0 0 (MQ below (qI D (wM ad cI cZ) (aw ad 30) r σ') args s 0 0 (aw ad 30)) (F0 m 0 ls []) := by
  obtain ⟨hx, hb, hml, hown, hts, hr, hlk, hK⟩ := id X
  rw [f_X7_line] at hf
  refine lv_iload_n hx hb dX7_line_0 rfl (lv_at hl 1 rfl) ?_
  refine lv_iconst (v := 0) hx hb dX7_line_1 rfl ?_
  refine lv_iconst (v := 3) hx hb dX7_line_2 rfl ?_
  obtain ⟨x1, hc, hf⟩ := bi_some hf
  refine kSi (As := [.int a1, .int 0, .int 3]) (rest := []) (wd := (wM ad cI cZ)) X (c_X7_within (l := l) (D := D) (σ := σ) hN hc) (cw_X7_102 X.2.2.2.2.1 ⟨Nat.le_of_ble_eq_true rfl, Nat.le_of_ble_eq_true rfl⟩) hP hS hl rfl rfl (Nat.le_of_ble_eq_true rfl) dX7_line_3 (fun H locs hP hS => ?_)
  refine lv_if_eq (tgt := 18) hx hb dX7_line_6 (by decide) (fun hq => ?_) (fun hq => ?_)
  · have hf := if_t hq hf
    refine lv_bipush (v := (-2)) hx hb dX7_line_18 rfl ?_
    exact rIe X hP hS hf dX7_line_20
  · have hf := if_f hq hf
    refine lv_iload_n hx hb dX7_line_9 rfl (lv_at hl 2 rfl) ?_
    refine lv_iconst (v := 0) hx hb dX7_line_10 rfl ?_
    refine lv_iconst (v := 1) hx hb dX7_line_11 rfl ?_
    obtain ⟨x2, hc, hf⟩ := bi_some hf
    refine kSi (As := [.int a2, .int 0, .int 1]) (rest := []) (wd := (wM ad cI cZ)) X (c_X7_within (l := l) (D := D) (σ := σ) hN hc) (cw_X7_102 X.2.2.2.2.1 ⟨Nat.le_of_ble_eq_true rfl, Nat.le_of_ble_eq_true rfl⟩) hP hS hl rfl rfl (Nat.le_of_ble_eq_true rfl) dX7_line_12 (fun H locs hP hS => ?_)
    refine lv_if_ne (tgt := 21) hx hb dX7_line_15 (by decide) (fun hq => ?_) (fun hq => ?_)
    · have hf := if_f hq hf
      refine lv_iload_n hx hb dX7_line_21 rfl (lv_at hl 2 rfl) ?_
      refine lv_if_ne (tgt := 30) hx hb dX7_line_22 (by decide) (fun hq => ?_) (fun hq => ?_)
      · have hf := if_f hq hf
        refine lv_bipush (v := 29) hx hb dX7_line_30 rfl ?_
        exact b_X7_line_B32 X hN hf hP hS (lv_sub hl [0, 1, 2, 3, 4, 5] rfl)
      · have hf := if_t hq hf
        refine lv_bipush (v := 7) hx hb dX7_line_25 rfl ?_
        refine lv_goto (tgt := 32) hx hb dX7_line_27 (by decide) ?_
        exact b_X7_line_B32 X hN hf hP hS (lv_sub hl [0, 1, 2, 3, 4, 5] rfl)
    · have hf := if_t hq hf
      refine lv_bipush (v := (-2)) hx hb dX7_line_18 rfl ?_
      exact rIe X hP hS hf dX7_line_20
set_option maxHeartbeats 4000000 in
set_option maxRecDepth 100000 in
theorem c_X7_line {l : Launch} {D : va_G} {ad : Nat → Nat} {cI cZ : ClassId} (hN : nj ad 30) {σ : St} {a1 a2 a3 a4 a5 : Int32} {r : Int32} {σ' : St} (hf : f_X7_line a1 a2 a3 a4 a5 σ = some (r, σ')) : Met l yX7_line (.code yX7_line cX7_line 8 (some .int) :: wsL_law) rm_X7_line (va_Pc [.ref (ad 0), .int a1, .int a2, .int a3, .int a4, .int a5] (pw D (wM ad cI cZ) [(cI, .int), (cZ, .boolean)] σ)) (qI D (wM ad cI cZ) (aw ad 30) r σ') 0 0 (aw ad 30) :=
  met_mk (by decide) rfl (Nat.le_of_ble_eq_true rfl) (fun p e s m below meth c X hP ls hl => b_X7_line X hN hf hP va_S.rf hl)
set_option maxHeartbeats 4000000 in
set_option maxRecDepth 100000 in
theorem b_X7_back (X : cx p s m meth c args cX7_back 1 (some .int) RX7 D [(cI, .int), (cZ, .boolean)]) (hN : nj ad 30) {σ : St} {r : Int32} {σ' : St} (hf : f_X7_back σ = some (r, σ')) {H : Heap} {locs : List Loc} {ls : Array Slot} (hP : va_P D vwCl (wM ad cI cZ σ) H) (hS : va_S (aw ad 30) s.heap H locs) (hl : lv_has ls 1 [(0, .ref (ad 0))]) : W p l e rm_X7_back s m args below meth c H locs 0 0 (MQ below (qI D (wM ad cI cZ) (aw ad 30) r σ') args s 0 0 (aw ad 30)) (F0 m 0 ls []) := by
  obtain ⟨hx, hb, hml, hown, hts, hr, hlk, hK⟩ := id X
  rw [f_X7_back] at hf
  refine lv_aload_n hx hb dX7_back_0 rfl (lv_at hl 0 rfl) ?_
  obtain ⟨x1, e_x1, hf⟩ := lf_some hf
  refine fg_X7_98 X hP e_x1 dX7_back_1 ?_
  refine lv_if_ne (tgt := 10) hx hb dX7_back_4 (by decide) (fun hq => ?_) (fun hq => ?_)
  · have hf := if_f hq hf
    refine lv_aload_n hx hb dX7_back_10 rfl (lv_at hl 0 rfl) ?_
    refine lv_dup hx hb dX7_back_11 rfl ?_
    obtain ⟨x2, e_x2, hf⟩ := lf_some hf
    refine fg_X7_98 X hP e_x2 dX7_back_12 ?_
    refine lv_iconst (v := 1) hx hb dX7_back_15 rfl ?_
    refine lv_isub hx hb dX7_back_16 ?_
    obtain ⟨σ3, e_σ3, hf⟩ := sf_some hf
    refine fp_X7_98 X hN hP hS e_σ3 dX7_back_17 (fun H locs hP hS => ?_)
    refine lv_aload_n hx hb dX7_back_20 rfl (lv_at hl 0 rfl) ?_
    obtain ⟨x4, e_x4, hf⟩ := lf_some hf
    refine fg_X7_98 X hP e_x4 dX7_back_21 ?_
    exact rIe X hP hS hf dX7_back_24
  · have hf := if_t hq hf
    refine lv_bipush (v := (-3)) hx hb dX7_back_7 rfl ?_
    exact rIe X hP hS hf dX7_back_9
set_option maxHeartbeats 4000000 in
set_option maxRecDepth 100000 in
theorem c_X7_back {l : Launch} {D : va_G} {ad : Nat → Nat} {cI cZ : ClassId} (hN : nj ad 30) {σ : St} {r : Int32} {σ' : St} (hf : f_X7_back σ = some (r, σ')) : Met l yX7_back (.code yX7_back cX7_back 1 (some .int) :: wsL_law) rm_X7_back (va_Pc [.ref (ad 0)] (pw D (wM ad cI cZ) [(cI, .int), (cZ, .boolean)] σ)) (qI D (wM ad cI cZ) (aw ad 30) r σ') 0 0 (aw ad 30) :=
  met_mk (by decide) rfl (Nat.le_of_ble_eq_true rfl) (fun p e s m below meth c X hP ls hl => b_X7_back X hN hf hP va_S.rf hl)
set_option maxHeartbeats 4000000 in
set_option maxRecDepth 100000 in
theorem b_X7_erase (X : cx p s m meth c args cX7_erase 1 (some .int) RX7 D [(cI, .int), (cZ, .boolean)]) (hN : nj ad 30) {σ : St} {r : Int32} {σ' : St} (hf : f_X7_erase σ = some (r, σ')) {H : Heap} {locs : List Loc} {ls : Array Slot} (hP : va_P D vwCl (wM ad cI cZ σ) H) (hS : va_S (aw ad 30) s.heap H locs) (hl : lv_has ls 1 [(0, .ref (ad 0))]) : W p l e rm_X7_erase s m args below meth c H locs 0 0 (MQ below (qI D (wM ad cI cZ) (aw ad 30) r σ') args s 0 0 (aw ad 30)) (F0 m 0 ls []) := by
  obtain ⟨hx, hb, hml, hown, hts, hr, hlk, hK⟩ := id X
  rw [f_X7_erase] at hf
  refine lv_aload_n hx hb dX7_erase_0 rfl (lv_at hl 0 rfl) ?_
  obtain ⟨x1, e_x1, hf⟩ := lf_some hf
  refine fg_X7_114 X hP e_x1 dX7_erase_1 ?_
  refine lv_if_ne (tgt := 10) hx hb dX7_erase_4 (by decide) (fun hq => ?_) (fun hq => ?_)
  · have hf := if_f hq hf
    refine lv_aload_n hx hb dX7_erase_10 rfl (lv_at hl 0 rfl) ?_
    refine lv_dup hx hb dX7_erase_11 rfl ?_
    obtain ⟨x2, e_x2, hf⟩ := lf_some hf
    refine fg_X7_114 X hP e_x2 dX7_erase_12 ?_
    refine lv_iconst (v := 1) hx hb dX7_erase_15 rfl ?_
    refine lv_isub hx hb dX7_erase_16 ?_
    obtain ⟨σ3, e_σ3, hf⟩ := sf_some hf
    refine fp_X7_114 X hN hP hS e_σ3 dX7_erase_17 (fun H locs hP hS => ?_)
    refine lv_aload_n hx hb dX7_erase_20 rfl (lv_at hl 0 rfl) ?_
    obtain ⟨x4, e_x4, hf⟩ := lf_some hf
    refine fg_X7_114 X hP e_x4 dX7_erase_21 ?_
    exact rIe X hP hS hf dX7_erase_24
  · have hf := if_t hq hf
    refine lv_bipush (v := (-3)) hx hb dX7_erase_7 rfl ?_
    exact rIe X hP hS hf dX7_erase_9
set_option maxHeartbeats 4000000 in
set_option maxRecDepth 100000 in
theorem c_X7_erase {l : Launch} {D : va_G} {ad : Nat → Nat} {cI cZ : ClassId} (hN : nj ad 30) {σ : St} {r : Int32} {σ' : St} (hf : f_X7_erase σ = some (r, σ')) : Met l yX7_erase (.code yX7_erase cX7_erase 1 (some .int) :: wsL_law) rm_X7_erase (va_Pc [.ref (ad 0)] (pw D (wM ad cI cZ) [(cI, .int), (cZ, .boolean)] σ)) (qI D (wM ad cI cZ) (aw ad 30) r σ') 0 0 (aw ad 30) :=
  met_mk (by decide) rfl (Nat.le_of_ble_eq_true rfl) (fun p e s m below meth c X hP ls hl => b_X7_erase X hN hf hP va_S.rf hl)
set_option maxHeartbeats 4000000 in
set_option maxRecDepth 100000 in
theorem b_X7_clear (X : cx p s m meth c args cX7_clear 2 (some .int) RX7 D [(cI, .int), (cZ, .boolean)]) (hN : nj ad 30) {σ : St} {r : Int32} {σ' : St} (hf : f_X7_clear σ = some (r, σ')) {H : Heap} {locs : List Loc} {ls : Array Slot} (hP : va_P D vwCl (wM ad cI cZ σ) H) (hS : va_S (aw ad 30) s.heap H locs) (hl : lv_has ls 2 [(0, .ref (ad 0))]) : W p l e rm_X7_clear s m args below meth c H locs 0 0 (MQ below (qI D (wM ad cI cZ) (aw ad 30) r σ') args s 0 0 (aw ad 30)) (F0 m 0 ls []) := by
  obtain ⟨hx, hb, hml, hown, hts, hr, hlk, hK⟩ := id X
  rw [f_X7_clear] at hf
  refine lv_aload_n hx hb dX7_clear_0 rfl (lv_at hl 0 rfl) ?_
  obtain ⟨x1, e_x1, hf⟩ := lf_some hf
  refine fg_X7_98 X hP e_x1 dX7_clear_1 ?_
  refine lv_istore_n (lv' := [(1, .int x1), (0, .ref (ad 0))]) hx hb dX7_clear_4 rfl hl (by decide) rfl (fun ls hl => ?_)
  refine lv_aload_n hx hb dX7_clear_5 rfl (lv_at hl 1 rfl) ?_
  refine lv_iconst (v := 0) hx hb dX7_clear_6 rfl ?_
  obtain ⟨σ2, e_σ2, hf⟩ := sf_some hf
  refine fp_X7_98 X hN hP hS e_σ2 dX7_clear_7 (fun H locs hP hS => ?_)
  refine lv_aload_n hx hb dX7_clear_10 rfl (lv_at hl 1 rfl) ?_
  refine lv_iconst (v := 0) hx hb dX7_clear_11 rfl ?_
  obtain ⟨σ3, e_σ3, hf⟩ := sf_some hf
  refine fp_X7_114 X hN hP hS e_σ3 dX7_clear_12 (fun H locs hP hS => ?_)
  refine lv_iload_n hx hb dX7_clear_15 rfl (lv_at hl 0 rfl) ?_
  exact rIe X hP hS hf dX7_clear_16
set_option maxHeartbeats 4000000 in
set_option maxRecDepth 100000 in
theorem c_X7_clear {l : Launch} {D : va_G} {ad : Nat → Nat} {cI cZ : ClassId} (hN : nj ad 30) {σ : St} {r : Int32} {σ' : St} (hf : f_X7_clear σ = some (r, σ')) : Met l yX7_clear (.code yX7_clear cX7_clear 2 (some .int) :: wsL_law) rm_X7_clear (va_Pc [.ref (ad 0)] (pw D (wM ad cI cZ) [(cI, .int), (cZ, .boolean)] σ)) (qI D (wM ad cI cZ) (aw ad 30) r σ') 0 0 (aw ad 30) :=
  met_mk (by decide) rfl (Nat.le_of_ble_eq_true rfl) (fun p e s m below meth c X hP ls hl => b_X7_clear X hN hf hP va_S.rf hl)
set_option maxHeartbeats 4000000 in
set_option maxRecDepth 100000 in
theorem b_X7_turn_L70 (X : cx p s m meth c args cX7_turn 4 (some .int) RX7 D [(cI, .int), (cZ, .boolean)]) (hN : nj ad 30) : ∀ (n : Nat) {σ : St} {a1 a2 : Int32} {r : Int32} {σ' : St}, f_X7_turn_L70 n a1 a2 σ = some (r, σ') → ∀ {H : Heap} {locs : List Loc} {ls : Array Slot}, va_P D vwCl (wM ad cI cZ σ) H → va_S (aw ad 30) s.heap H locs → lv_has ls 4 [(0, .ref (ad 0)), (1, .int a1), (2, .int a2)] → W p l e rm_X7_turn s m args below meth c H locs 0 0 (MQ below (qI D (wM ad cI cZ) (aw ad 30) r σ') args s 0 0 (aw ad 30)) (F0 m 70 ls []) := by
  intro n
  induction n with
  | zero =>
    intro σ a1 a2 r σ' hf
    rw [f_X7_turn_L70] at hf
    cases hf
  | succ n ih =>
    intro σ a1 a2 r σ' hf H locs ls hP hS hl
    obtain ⟨hx, hb, hml, hown, hts, hr, hlk, hK⟩ := id X
    rw [f_X7_turn_L70] at hf
    refine lv_iload_n hx hb dX7_turn_70 rfl (lv_at hl 2 rfl) ?_
    refine lv_aload_n hx hb dX7_turn_71 rfl (lv_at hl 0 rfl) ?_
    obtain ⟨x1, e_x1, hf⟩ := lf_some hf
    refine fg_X7_114 X hP e_x1 dX7_turn_72 ?_
    refine lv_icmp_ge (tgt := 143) hx hb dX7_turn_75 (by decide) (fun hq => ?_) (fun hq => ?_)
    · have hf := if_t hq hf
      refine lv_iload_n hx hb dX7_turn_143 rfl (lv_at hl 1 rfl) ?_
      exact rIe X hP hS hf dX7_turn_144
    · have hf := if_f hq hf
      refine lv_aload_n hx hb dX7_turn_78 rfl (lv_at hl 0 rfl) ?_
      refine fg_X7_40 X hP dX7_turn_79 ?_
      refine lv_iload_n hx hb dX7_turn_82 rfl (lv_at hl 2 rfl) ?_
      obtain ⟨hi, x2, e_x2, hf⟩ := ld_some hf
      refine ldr (t0 := 0) X hP wM_11 rfl hi e_x2 dX7_turn_83 ?_
      refine lv_if_ne (tgt := 105) hx hb dX7_turn_84 (by decide) (fun hq => ?_) (fun hq => ?_)
      · have hf := if_f hq hf
        refine lv_aload_n hx hb dX7_turn_105 rfl (lv_at hl 0 rfl) ?_
        refine fg_X7_46 X hP dX7_turn_106 ?_
        refine lv_iload_n hx hb dX7_turn_109 rfl (lv_at hl 2 rfl) ?_
        obtain ⟨hi, x3, e_x3, hf⟩ := ld_some hf
        refine ldr (t0 := 0) X hP wM_13 rfl hi e_x3 dX7_turn_110 ?_
        refine lv_istore_n (lv' := [(3, .int x3), (0, .ref (ad 0)), (1, .int a1), (2, .int a2)]) hx hb dX7_turn_111 rfl hl (by decide) rfl (fun ls hl => ?_)
        refine lv_aload_n hx hb dX7_turn_112 rfl (lv_at hl 1 rfl) ?_
        refine fg_X7_46 X hP dX7_turn_113 ?_
        refine lv_iload_n hx hb dX7_turn_116 rfl (lv_at hl 3 rfl) ?_
        refine lv_bipush (v := 7) hx hb dX7_turn_117 rfl ?_
        refine lv_aload_n hx hb dX7_turn_119 rfl (lv_at hl 1 rfl) ?_
        refine fg_X7_49 X hP dX7_turn_120 ?_
        refine lv_iload_n hx hb dX7_turn_123 rfl (lv_at hl 3 rfl) ?_
        obtain ⟨hi, x4, e_x4, hf⟩ := ld_some hf
        refine ldr (t0 := 0) X hP wM_14 rfl hi e_x4 dX7_turn_124 ?_
        refine lv_isub hx hb dX7_turn_125 ?_
        obtain ⟨hi, σ5, e_σ5, hf⟩ := sd_some hf
        refine str (t0 := 0) X hP (wM_D hN) hS wM_13 wM_s13 rfl hi e_σ5 dX7_turn_126 (fun H locs hP hS => ?_)
        refine lv_aload_n hx hb dX7_turn_127 rfl (lv_at hl 1 rfl) ?_
        refine fg_X7_49 X hP dX7_turn_128 ?_
        refine lv_iload_n hx hb dX7_turn_131 rfl (lv_at hl 3 rfl) ?_
        refine lv_bipush (v := 7) hx hb dX7_turn_132 rfl ?_
        refine lv_iload_n hx hb dX7_turn_134 rfl (lv_at hl 0 rfl) ?_
        refine lv_isub hx hb dX7_turn_135 ?_
        obtain ⟨hi, σ6, e_σ6, hf⟩ := sd_some hf
        refine str (t0 := 0) X hP (wM_D hN) hS wM_14 wM_s14 rfl hi e_σ6 dX7_turn_136 (fun H locs hP hS => ?_)
        refine lv_iinc (v := (a2 + 1)) (lv' := [(2, .int (a2 + 1)), (3, .int x3), (0, .ref (ad 0)), (1, .int a1)]) hx hb dX7_turn_137 hl (k := 3) rfl rfl (by decide) rfl (fun ls hl => ?_)
        refine lv_goto (tgt := 70) hx hb dX7_turn_140 (by decide) ?_
        exact ih hf hP hS (lv_sub hl [2, 3, 0] rfl)
      · have hf := if_t hq hf
        refine lv_aload_n hx hb dX7_turn_87 rfl (lv_at hl 0 rfl) ?_
        refine fg_X7_43 X hP dX7_turn_88 ?_
        refine lv_iload_n hx hb dX7_turn_91 rfl (lv_at hl 2 rfl) ?_
        refine lv_bipush (v := 8) hx hb dX7_turn_92 rfl ?_
        refine lv_aload_n hx hb dX7_turn_94 rfl (lv_at hl 0 rfl) ?_
        refine fg_X7_43 X hP dX7_turn_95 ?_
        refine lv_iload_n hx hb dX7_turn_98 rfl (lv_at hl 2 rfl) ?_
        obtain ⟨hi, x7, e_x7, hf⟩ := ld_some hf
        refine ldr (t0 := 0) X hP wM_12 rfl hi e_x7 dX7_turn_99 ?_
        refine lv_isub hx hb dX7_turn_100 ?_
        obtain ⟨hi, σ8, e_σ8, hf⟩ := sd_some hf
        refine str (t0 := 0) X hP (wM_D hN) hS wM_12 wM_s12 rfl hi e_σ8 dX7_turn_101 (fun H locs hP hS => ?_)
        refine lv_goto (tgt := 137) hx hb dX7_turn_102 (by decide) ?_
        refine lv_iinc (v := (a2 + 1)) (lv' := [(2, .int (a2 + 1)), (0, .ref (ad 0)), (1, .int a1)]) hx hb dX7_turn_137 hl (k := 2) rfl rfl (by decide) rfl (fun ls hl => ?_)
        refine lv_goto (tgt := 70) hx hb dX7_turn_140 (by decide) ?_
        exact ih hf hP hS (lv_sub hl [1, 2, 0] rfl)
set_option maxHeartbeats 4000000 in
set_option maxRecDepth 100000 in
theorem b_X7_turn_L4 (X : cx p s m meth c args cX7_turn 4 (some .int) RX7 D [(cI, .int), (cZ, .boolean)]) (hN : nj ad 30) : ∀ (n : Nat) {σ : St} {a1 a2 : Int32} {r : Int32} {σ' : St}, f_X7_turn_L4 n a1 a2 σ = some (r, σ') → ∀ {H : Heap} {locs : List Loc} {ls : Array Slot}, va_P D vwCl (wM ad cI cZ σ) H → va_S (aw ad 30) s.heap H locs → lv_has ls 4 [(0, .ref (ad 0)), (1, .int a1), (2, .int a2)] → W p l e rm_X7_turn s m args below meth c H locs 0 0 (MQ below (qI D (wM ad cI cZ) (aw ad 30) r σ') args s 0 0 (aw ad 30)) (F0 m 4 ls []) := by
  intro n
  induction n with
  | zero =>
    intro σ a1 a2 r σ' hf
    rw [f_X7_turn_L4] at hf
    cases hf
  | succ n ih =>
    intro σ a1 a2 r σ' hf H locs ls hP hS hl
    obtain ⟨hx, hb, hml, hown, hts, hr, hlk, hK⟩ := id X
    rw [f_X7_turn_L4] at hf
    refine lv_iload_n hx hb dX7_turn_4 rfl (lv_at hl 2 rfl) ?_
    refine lv_aload_n hx hb dX7_turn_5 rfl (lv_at hl 0 rfl) ?_
    obtain ⟨x1, e_x1, hf⟩ := lf_some hf
    refine fg_X7_98 X hP e_x1 dX7_turn_6 ?_
    refine lv_icmp_ge (tgt := 68) hx hb dX7_turn_9 (by decide) (fun hq => ?_) (fun hq => ?_)
    · have hf := if_t hq hf
      refine lv_iconst (v := 0) hx hb dX7_turn_68 rfl ?_
      refine lv_istore_n (lv' := [(2, .int 0), (0, .ref (ad 0)), (1, .int a1)]) hx hb dX7_turn_69 rfl hl (by decide) rfl (fun ls hl => ?_)
      exact b_X7_turn_L70 X hN _ hf hP hS (lv_sub hl [1, 2, 0] rfl)
    · have hf := if_f hq hf
      refine lv_aload_n hx hb dX7_turn_12 rfl (lv_at hl 0 rfl) ?_
      refine fg_X7_16 X hP dX7_turn_13 ?_
      refine lv_iload_n hx hb dX7_turn_16 rfl (lv_at hl 2 rfl) ?_
      obtain ⟨hi, x2, e_x2, hf⟩ := ld_some hf
      refine ldr (t0 := 0) X hP wM_3 rfl hi e_x2 dX7_turn_17 ?_
      refine lv_istore_n (lv' := [(3, .int x2), (0, .ref (ad 0)), (1, .int a1), (2, .int a2)]) hx hb dX7_turn_18 rfl hl (by decide) rfl (fun ls hl => ?_)
      refine lv_aload_n hx hb dX7_turn_19 rfl (lv_at hl 1 rfl) ?_
      refine fg_X7_16 X hP dX7_turn_20 ?_
      refine lv_iload_n hx hb dX7_turn_23 rfl (lv_at hl 3 rfl) ?_
      refine lv_bipush (v := 7) hx hb dX7_turn_24 rfl ?_
      refine lv_aload_n hx hb dX7_turn_26 rfl (lv_at hl 1 rfl) ?_
      refine fg_X7_19 X hP dX7_turn_27 ?_
      refine lv_iload_n hx hb dX7_turn_30 rfl (lv_at hl 3 rfl) ?_
      obtain ⟨hi, x3, e_x3, hf⟩ := ld_some hf
      refine ldr (t0 := 0) X hP wM_4 rfl hi e_x3 dX7_turn_31 ?_
      refine lv_isub hx hb dX7_turn_32 ?_
      obtain ⟨hi, σ4, e_σ4, hf⟩ := sd_some hf
      refine str (t0 := 0) X hP (wM_D hN) hS wM_3 wM_s3 rfl hi e_σ4 dX7_turn_33 (fun H locs hP hS => ?_)
      refine lv_aload_n hx hb dX7_turn_34 rfl (lv_at hl 1 rfl) ?_
      refine fg_X7_19 X hP dX7_turn_35 ?_
      refine lv_iload_n hx hb dX7_turn_38 rfl (lv_at hl 3 rfl) ?_
      refine lv_bipush (v := 7) hx hb dX7_turn_39 rfl ?_
      refine lv_iload_n hx hb dX7_turn_41 rfl (lv_at hl 0 rfl) ?_
      refine lv_isub hx hb dX7_turn_42 ?_
      obtain ⟨hi, σ5, e_σ5, hf⟩ := sd_some hf
      refine str (t0 := 0) X hP (wM_D hN) hS wM_4 wM_s4 rfl hi e_σ5 dX7_turn_43 (fun H locs hP hS => ?_)
      refine lv_iload_n hx hb dX7_turn_44 rfl (lv_at hl 2 rfl) ?_
      refine lv_aload_n hx hb dX7_turn_45 rfl (lv_at hl 1 rfl) ?_
      refine fg_X7_16 X hP dX7_turn_46 ?_
      refine lv_iload_n hx hb dX7_turn_49 rfl (lv_at hl 3 rfl) ?_
      obtain ⟨hi, x6, e_x6, hf⟩ := ld_some hf
      refine ldr (t0 := 0) X hP wM_3 rfl hi e_x6 dX7_turn_50 ?_
      refine lv_iload_n hx hb dX7_turn_51 rfl (lv_at hl 0 rfl) ?_
      refine lv_icmp_ne (tgt := 59) hx hb dX7_turn_52 (by decide) (fun hq => ?_) (fun hq => ?_)
      · have hf := if_f hq hf
        refine lv_iconst (v := 1) hx hb dX7_turn_59 rfl ?_
        refine lv_iadd hx hb dX7_turn_60 ?_
        refine lv_istore_n (lv' := [(1, .int (a1 + 1)), (3, .int x2), (0, .ref (ad 0)), (2, .int a2)]) hx hb dX7_turn_61 rfl hl (by decide) rfl (fun ls hl => ?_)
        refine lv_iinc (v := (a2 + 1)) (lv' := [(2, .int (a2 + 1)), (1, .int (a1 + 1)), (3, .int x2), (0, .ref (ad 0))]) hx hb dX7_turn_62 hl (k := 3) rfl rfl (by decide) rfl (fun ls hl => ?_)
        refine lv_goto (tgt := 4) hx hb dX7_turn_65 (by decide) ?_
        exact ih hf hP hS (lv_sub hl [3, 1, 0] rfl)
      · have hf := if_t hq hf
        refine lv_iconst (v := 0) hx hb dX7_turn_55 rfl ?_
        refine lv_goto (tgt := 60) hx hb dX7_turn_56 (by decide) ?_
        refine lv_iadd hx hb dX7_turn_60 ?_
        refine lv_istore_n (lv' := [(1, .int (a1 + 0)), (3, .int x2), (0, .ref (ad 0)), (2, .int a2)]) hx hb dX7_turn_61 rfl hl (by decide) rfl (fun ls hl => ?_)
        refine lv_iinc (v := (a2 + 1)) (lv' := [(2, .int (a2 + 1)), (1, .int (a1 + 0)), (3, .int x2), (0, .ref (ad 0))]) hx hb dX7_turn_62 hl (k := 3) rfl rfl (by decide) rfl (fun ls hl => ?_)
        refine lv_goto (tgt := 4) hx hb dX7_turn_65 (by decide) ?_
        exact ih hf hP hS (lv_sub hl [3, 1, 0] rfl)
set_option maxHeartbeats 4000000 in
set_option maxRecDepth 100000 in
theorem b_X7_turn (X : cx p s m meth c args cX7_turn 4 (some .int) RX7 D [(cI, .int), (cZ, .boolean)]) (hN : nj ad 30) {σ : St} {r : Int32} {σ' : St} (hf : f_X7_turn σ = some (r, σ')) {H : Heap} {locs : List Loc} {ls : Array Slot} (hP : va_P D vwCl (wM ad cI cZ σ) H) (hS : va_S (aw ad 30) s.heap H locs) (hl : lv_has ls 4 [(0, .ref (ad 0))]) : W p l e rm_X7_turn s m args below meth c H locs 0 0 (MQ below (qI D (wM ad cI cZ) (aw ad 30) r σ') args s 0 0 (aw ad 30)) (F0 m 0 ls []) := by
  obtain ⟨hx, hb, hml, hown, hts, hr, hlk, hK⟩ := id X
  rw [f_X7_turn] at hf
  refine lv_iconst (v := 0) hx hb dX7_turn_0 rfl ?_
  refine lv_istore_n (lv' := [(1, .int 0), (0, .ref (ad 0))]) hx hb dX7_turn_1 rfl hl (by decide) rfl (fun ls hl => ?_)
  refine lv_iconst (v := 0) hx hb dX7_turn_2 rfl ?_
  refine lv_istore_n (lv' := [(2, .int 0), (1, .int 0), (0, .ref (ad 0))]) hx hb dX7_turn_3 rfl hl (by decide) rfl (fun ls hl => ?_)
  exact b_X7_turn_L4 X hN _ hf hP hS (lv_sub hl [2, 1, 0] rfl)
set_option maxHeartbeats 4000000 in
set_option maxRecDepth 100000 in
theorem c_X7_turn {l : Launch} {D : va_G} {ad : Nat → Nat} {cI cZ : ClassId} (hN : nj ad 30) {σ : St} {r : Int32} {σ' : St} (hf : f_X7_turn σ = some (r, σ')) : Met l yX7_turn (.code yX7_turn cX7_turn 4 (some .int) :: wsL_law) rm_X7_turn (va_Pc [.ref (ad 0)] (pw D (wM ad cI cZ) [(cI, .int), (cZ, .boolean)] σ)) (qI D (wM ad cI cZ) (aw ad 30) r σ') 0 0 (aw ad 30) :=
  met_mk (by decide) rfl (Nat.le_of_ble_eq_true rfl) (fun p e s m below meth c X hP ls hl => b_X7_turn X hN hf hP va_S.rf hl)
end WALK
