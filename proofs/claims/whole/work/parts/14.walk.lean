section WALK
variable {p : Program} {l : Launch} {e : Env} {s : State} {m : MethodId} {args : Array Value} {below : List Frame} {meth : Method} {c : Code} {D : va_G} {ad : Nat → Nat} {cI cZ : ClassId}
set_option maxHeartbeats 4000000 in
set_option maxRecDepth 100000 in
theorem b_X6_back (X : cx p s m meth c args cX6_back 1 (some .int) RX6 D [(cI, .int)]) (hN : nj ad 34) {σ : St} {r : Int32} {σ' : St} (hf : f_X6_back σ = some (r, σ')) {H : Heap} {locs : List Loc} {ls : Array Slot} (hP : va_P D vwCl (wC ad cI σ) H) (hS : va_S (aw ad 34) s.heap H locs) (hl : lv_has ls 1 [(0, .ref (ad 0))]) : W p l e rm_X6_back s m args below meth c H locs 0 0 (MQ below (qI D (wC ad cI) (aw ad 34) r σ') args s 0 0 (aw ad 34)) (F0 m 0 ls []) := by
  obtain ⟨hx, hb, hml, hown, hts, hr, hlk, hK⟩ := id X
  rw [f_X6_back] at hf
  refine lv_aload_n hx hb dX6_back_0 rfl (lv_at hl 0 rfl) ?_
  refine fg_X6_10 X hP dX6_back_1 ?_
  obtain ⟨x1, e_x1, hf⟩ := lf_some hf
  refine fg_X6_73 X hP e_x1 dX6_back_4 ?_
  refine lv_iconst (v := 1) hx hb dX6_back_7 rfl ?_
  refine lv_icmp_ge (tgt := 14) hx hb dX6_back_8 (by decide) (fun hq => ?_) (fun hq => ?_)
  · have hf := if_t hq hf
    refine lv_aload_n hx hb dX6_back_14 rfl (lv_at hl 0 rfl) ?_
    refine fg_X6_10 X hP dX6_back_15 ?_
    refine lv_dup hx hb dX6_back_18 rfl ?_
    obtain ⟨x2, e_x2, hf⟩ := lf_some hf
    refine fg_X6_73 X hP e_x2 dX6_back_19 ?_
    refine lv_iconst (v := 1) hx hb dX6_back_22 rfl ?_
    refine lv_isub hx hb dX6_back_23 ?_
    obtain ⟨σ3, e_σ3, hf⟩ := sf_some hf
    refine fp_X6_73 X hN hP hS e_σ3 dX6_back_24 (fun H locs hP hS => ?_)
    refine lv_aload_n hx hb dX6_back_27 rfl (lv_at hl 0 rfl) ?_
    refine lv_iconst (v := 1) hx hb dX6_back_28 rfl ?_
    obtain ⟨hz, hf⟩ := gb_some hf
    obtain ⟨σ4, e_σ4, hf⟩ := sf_some hf
    refine fp_X6_57 X hN hP hS hz e_σ4 dX6_back_29 (fun H locs hP hS => ?_)
    refine lv_aload_n hx hb dX6_back_32 rfl (lv_at hl 0 rfl) ?_
    refine fg_X6_10 X hP dX6_back_33 ?_
    obtain ⟨x5, e_x5, hf⟩ := lf_some hf
    refine fg_X6_73 X hP e_x5 dX6_back_36 ?_
    exact rIe X hP hS hf dX6_back_39
  · have hf := if_f hq hf
    refine lv_bipush (v := (-3)) hx hb dX6_back_11 rfl ?_
    exact rIe X hP hS hf dX6_back_13
set_option maxHeartbeats 4000000 in
set_option maxRecDepth 100000 in
theorem c_X6_back {l : Launch} {D : va_G} {ad : Nat → Nat} {cI : ClassId} (hN : nj ad 34) {σ : St} {r : Int32} {σ' : St} (hf : f_X6_back σ = some (r, σ')) : Met l yX6_back (.code yX6_back cX6_back 1 (some .int) :: wsL_law) rm_X6_back (va_Pc [.ref (ad 0)] (pw D (wC ad cI) [(cI, .int)] σ)) (qI D (wC ad cI) (aw ad 34) r σ') 0 0 (aw ad 34) :=
  met_mk (by decide) rfl (Nat.le_of_ble_eq_true rfl) (fun p e s m below meth c X hP ls hl => b_X6_back X hN hf hP va_S.rf hl)
set_option maxHeartbeats 4000000 in
set_option maxRecDepth 100000 in
theorem b_X6_erase (X : cx p s m meth c args cX6_erase 1 (some .int) RX6 D [(cI, .int)]) (hN : nj ad 34) {σ : St} {r : Int32} {σ' : St} (hf : f_X6_erase σ = some (r, σ')) {H : Heap} {locs : List Loc} {ls : Array Slot} (hP : va_P D vwCl (wC ad cI σ) H) (hS : va_S (aw ad 34) s.heap H locs) (hl : lv_has ls 1 [(0, .ref (ad 0))]) : W p l e rm_X6_erase s m args below meth c H locs 0 0 (MQ below (qI D (wC ad cI) (aw ad 34) r σ') args s 0 0 (aw ad 34)) (F0 m 0 ls []) := by
  obtain ⟨hx, hb, hml, hown, hts, hr, hlk, hK⟩ := id X
  rw [f_X6_erase] at hf
  refine lv_aload_n hx hb dX6_erase_0 rfl (lv_at hl 0 rfl) ?_
  refine fg_X6_26 X hP dX6_erase_1 ?_
  obtain ⟨x1, e_x1, hf⟩ := lf_some hf
  refine fg_X6_96 X hP e_x1 dX6_erase_4 ?_
  refine lv_iconst (v := 1) hx hb dX6_erase_7 rfl ?_
  refine lv_icmp_ge (tgt := 14) hx hb dX6_erase_8 (by decide) (fun hq => ?_) (fun hq => ?_)
  · have hf := if_t hq hf
    refine lv_aload_n hx hb dX6_erase_14 rfl (lv_at hl 0 rfl) ?_
    refine fg_X6_26 X hP dX6_erase_15 ?_
    refine lv_dup hx hb dX6_erase_18 rfl ?_
    obtain ⟨x2, e_x2, hf⟩ := lf_some hf
    refine fg_X6_96 X hP e_x2 dX6_erase_19 ?_
    refine lv_iconst (v := 1) hx hb dX6_erase_22 rfl ?_
    refine lv_isub hx hb dX6_erase_23 ?_
    obtain ⟨σ3, e_σ3, hf⟩ := sf_some hf
    refine fp_X6_96 X hN hP hS e_σ3 dX6_erase_24 (fun H locs hP hS => ?_)
    refine lv_aload_n hx hb dX6_erase_27 rfl (lv_at hl 0 rfl) ?_
    refine lv_iconst (v := 1) hx hb dX6_erase_28 rfl ?_
    obtain ⟨hz, hf⟩ := gb_some hf
    obtain ⟨σ4, e_σ4, hf⟩ := sf_some hf
    refine fp_X6_57 X hN hP hS hz e_σ4 dX6_erase_29 (fun H locs hP hS => ?_)
    refine lv_aload_n hx hb dX6_erase_32 rfl (lv_at hl 0 rfl) ?_
    refine fg_X6_26 X hP dX6_erase_33 ?_
    obtain ⟨x5, e_x5, hf⟩ := lf_some hf
    refine fg_X6_96 X hP e_x5 dX6_erase_36 ?_
    exact rIe X hP hS hf dX6_erase_39
  · have hf := if_f hq hf
    refine lv_bipush (v := (-3)) hx hb dX6_erase_11 rfl ?_
    exact rIe X hP hS hf dX6_erase_13
set_option maxHeartbeats 4000000 in
set_option maxRecDepth 100000 in
theorem c_X6_erase {l : Launch} {D : va_G} {ad : Nat → Nat} {cI : ClassId} (hN : nj ad 34) {σ : St} {r : Int32} {σ' : St} (hf : f_X6_erase σ = some (r, σ')) : Met l yX6_erase (.code yX6_erase cX6_erase 1 (some .int) :: wsL_law) rm_X6_erase (va_Pc [.ref (ad 0)] (pw D (wC ad cI) [(cI, .int)] σ)) (qI D (wC ad cI) (aw ad 34) r σ') 0 0 (aw ad 34) :=
  met_mk (by decide) rfl (Nat.le_of_ble_eq_true rfl) (fun p e s m below meth c X hP ls hl => b_X6_erase X hN hf hP va_S.rf hl)
set_option maxHeartbeats 4000000 in
set_option maxRecDepth 100000 in
theorem b_X6_clear (X : cx p s m meth c args cX6_clear 2 (some .int) RX6 D [(cI, .int)]) (hN : nj ad 34) {σ : St} {r : Int32} {σ' : St} (hf : f_X6_clear σ = some (r, σ')) {H : Heap} {locs : List Loc} {ls : Array Slot} (hP : va_P D vwCl (wC ad cI σ) H) (hS : va_S (aw ad 34) s.heap H locs) (hl : lv_has ls 2 [(0, .ref (ad 0))]) : W p l e rm_X6_clear s m args below meth c H locs 0 0 (MQ below (qI D (wC ad cI) (aw ad 34) r σ') args s 0 0 (aw ad 34)) (F0 m 0 ls []) := by
  obtain ⟨hx, hb, hml, hown, hts, hr, hlk, hK⟩ := id X
  rw [f_X6_clear] at hf
  refine lv_aload_n hx hb dX6_clear_0 rfl (lv_at hl 0 rfl) ?_
  refine fg_X6_10 X hP dX6_clear_1 ?_
  obtain ⟨x1, e_x1, hf⟩ := lf_some hf
  refine fg_X6_73 X hP e_x1 dX6_clear_4 ?_
  refine lv_istore_n (lv' := [(1, .int x1), (0, .ref (ad 0))]) hx hb dX6_clear_7 rfl hl (by decide) rfl (fun ls hl => ?_)
  refine lv_aload_n hx hb dX6_clear_8 rfl (lv_at hl 1 rfl) ?_
  refine fg_X6_10 X hP dX6_clear_9 ?_
  refine lv_iconst (v := 0) hx hb dX6_clear_12 rfl ?_
  obtain ⟨σ2, e_σ2, hf⟩ := sf_some hf
  refine fp_X6_73 X hN hP hS e_σ2 dX6_clear_13 (fun H locs hP hS => ?_)
  refine lv_aload_n hx hb dX6_clear_16 rfl (lv_at hl 1 rfl) ?_
  refine fg_X6_26 X hP dX6_clear_17 ?_
  refine lv_iconst (v := 0) hx hb dX6_clear_20 rfl ?_
  obtain ⟨σ3, e_σ3, hf⟩ := sf_some hf
  refine fp_X6_96 X hN hP hS e_σ3 dX6_clear_21 (fun H locs hP hS => ?_)
  refine lv_aload_n hx hb dX6_clear_24 rfl (lv_at hl 1 rfl) ?_
  refine lv_iconst (v := 1) hx hb dX6_clear_25 rfl ?_
  obtain ⟨hz, hf⟩ := gb_some hf
  obtain ⟨σ4, e_σ4, hf⟩ := sf_some hf
  refine fp_X6_57 X hN hP hS hz e_σ4 dX6_clear_26 (fun H locs hP hS => ?_)
  refine lv_iload_n hx hb dX6_clear_29 rfl (lv_at hl 0 rfl) ?_
  exact rIe X hP hS hf dX6_clear_30
set_option maxHeartbeats 4000000 in
set_option maxRecDepth 100000 in
theorem c_X6_clear {l : Launch} {D : va_G} {ad : Nat → Nat} {cI : ClassId} (hN : nj ad 34) {σ : St} {r : Int32} {σ' : St} (hf : f_X6_clear σ = some (r, σ')) : Met l yX6_clear (.code yX6_clear cX6_clear 2 (some .int) :: wsL_law) rm_X6_clear (va_Pc [.ref (ad 0)] (pw D (wC ad cI) [(cI, .int)] σ)) (qI D (wC ad cI) (aw ad 34) r σ') 0 0 (aw ad 34) :=
  met_mk (by decide) rfl (Nat.le_of_ble_eq_true rfl) (fun p e s m below meth c X hP ls hl => b_X6_clear X hN hf hP va_S.rf hl)
set_option maxHeartbeats 4000000 in
set_option maxRecDepth 100000 in
theorem b_X6_turn (X : cx p s m meth c args cX6_turn 1 (some .int) RX6 D [(cI, .int)]) (hN : nj ad 34) {σ : St} {r : Int32} {σ' : St} (hf : f_X6_turn σ = some (r, σ')) {H : Heap} {locs : List Loc} {ls : Array Slot} (hP : va_P D vwCl (wC ad cI σ) H) (hS : va_S (aw ad 34) s.heap H locs) (hl : lv_has ls 1 [(0, .ref (ad 0))]) : W p l e rm_X6_turn s m args below meth c H locs 0 0 (MQ below (qI D (wC ad cI) (aw ad 34) r σ') args s 0 0 (aw ad 34)) (F0 m 0 ls []) := by
  obtain ⟨hx, hb, hml, hown, hts, hr, hlk, hK⟩ := id X
  rw [f_X6_turn] at hf
  refine lv_aload_n hx hb dX6_turn_0 rfl (lv_at hl 0 rfl) ?_
  refine fg_X6_26 X hP dX6_turn_1 ?_
  obtain ⟨σ1, hc, hf⟩ := bs_some hf
  refine kVv (As := []) (rest := []) (wd := (wC ad cI)) (q0 := 3) (ci := 2) X (c_X2_turnAbout (l := l) (D := D) (σ := σ) hN hc) (cw_X6_100 X.2.2.2.2.1 ⟨Nat.le_of_ble_eq_true rfl, Nat.le_of_ble_eq_true rfl⟩) rfl rfl hP hS hl rfl rfl (Nat.le_of_ble_eq_true rfl) dX6_turn_4 (fun H locs hP hS => ?_)
  refine lv_aload_n hx hb dX6_turn_7 rfl (lv_at hl 0 rfl) ?_
  refine lv_iconst (v := 1) hx hb dX6_turn_8 rfl ?_
  obtain ⟨hz, hf⟩ := gb_some hf
  obtain ⟨σ2, e_σ2, hf⟩ := sf_some hf
  refine fp_X6_57 X hN hP hS hz e_σ2 dX6_turn_9 (fun H locs hP hS => ?_)
  refine lv_aload_n hx hb dX6_turn_12 rfl (lv_at hl 0 rfl) ?_
  refine fg_X6_10 X hP dX6_turn_13 ?_
  obtain ⟨x3, σ4, hc, hf⟩ := bp_some hf
  refine kVi (As := []) (rest := []) (wd := (wC ad cI)) (q0 := 1) (ci := 1) X (c_X1_turnAbout (l := l) (D := D) (σ := σ2) hN hc) (cw_X6_103 X.2.2.2.2.1 ⟨Nat.le_of_ble_eq_true rfl, Nat.le_of_ble_eq_true rfl⟩) rfl rfl hP hS hl rfl rfl (Nat.le_of_ble_eq_true rfl) dX6_turn_16 (fun H locs hP hS => ?_)
  exact rIe X hP hS hf dX6_turn_19
set_option maxHeartbeats 4000000 in
set_option maxRecDepth 100000 in
theorem c_X6_turn {l : Launch} {D : va_G} {ad : Nat → Nat} {cI : ClassId} (hN : nj ad 34) {σ : St} {r : Int32} {σ' : St} (hf : f_X6_turn σ = some (r, σ')) : Met l yX6_turn (.code yX6_turn cX6_turn 1 (some .int) :: wsL_law) rm_X6_turn (va_Pc [.ref (ad 0)] (pw D (wC ad cI) [(cI, .int)] σ)) (qI D (wC ad cI) (aw ad 34) r σ') 0 0 (aw ad 34) :=
  met_mk (by decide) rfl (Nat.le_of_ble_eq_true rfl) (fun p e s m below meth c X hP ls hl => b_X6_turn X hN hf hP va_S.rf hl)
set_option maxHeartbeats 4000000 in
set_option maxRecDepth 100000 in
theorem b_X6_ofBlock (X : cx p s m meth c args cX6_ofBlock 3 (some .int) RX6 D [(cI, .int)]) (hN : nj ad 34) {σ : St} {a1 a2 : Int32} {r : Int32} (hf : f_X6_ofBlock a1 a2 σ = some r) {H : Heap} {locs : List Loc} {ls : Array Slot} (hP : va_P D vwCl (wC ad cI σ) H) (hS : va_S (aw ad 34) s.heap H locs) (hl : lv_has ls 3 [(0, .ref (ad 0)), (1, .int a1), (2, .int a2)]) : W p l e rm_X6_ofBlock s m args below meth c H locs 0 0 (MQ below (qI D (wC ad cI) (aw ad 34) r σ) args s 0 0 (aw ad 34)) (F0 m 0 ls []) := by
  obtain ⟨hx, hb, hml, hown, hts, hr, hlk, hK⟩ := id X
  rw [f_X6_ofBlock] at hf
  refine lv_aload_n hx hb dX6_ofBlock_0 rfl (lv_at hl 0 rfl) ?_
  refine fg_X6_10 X hP dX6_ofBlock_1 ?_
  refine lv_iload_n hx hb dX6_ofBlock_4 rfl (lv_at hl 1 rfl) ?_
  obtain ⟨x1, hc, hf⟩ := bi_some hf
  refine kVi (As := [.int a1]) (rest := []) (wd := (wC ad cI)) (q0 := 1) (ci := 1) X (c_X1_has (l := l) (D := D) (σ := σ) hN hc) (cw_X6_85 X.2.2.2.2.1 ⟨Nat.le_of_ble_eq_true rfl, Nat.le_of_ble_eq_true rfl⟩) rfl rfl hP hS hl rfl rfl (Nat.le_of_ble_eq_true rfl) dX6_ofBlock_5 (fun H locs hP hS => ?_)
  refine lv_if_ne (tgt := 13) hx hb dX6_ofBlock_8 (by decide) (fun hq => ?_) (fun hq => ?_)
  · have hf := if_f hq hf
    refine lv_iload_n hx hb dX6_ofBlock_13 rfl (lv_at hl 2 rfl) ?_
    by_cases q0 : a2 = 0
    · have hf := if_t q0 hf
      refine lv_tableIn (off := 42) (tgt := 56) hx hb dX6_ofBlock_14 (by rw [q0]; decide) (by rw [q0]; decide) (by rw [q0]; rfl) (by decide) ?_
      refine lv_aload_n hx hb dX6_ofBlock_56 rfl (lv_at hl 0 rfl) ?_
      refine fg_X6_10 X hP dX6_ofBlock_57 ?_
      refine fg_X6_106 X hP dX6_ofBlock_60 ?_
      refine lv_iload_n hx hb dX6_ofBlock_63 rfl (lv_at hl 1 rfl) ?_
      obtain ⟨hi, x2, e_x2, hf⟩ := ld_some hf
      refine ldr (t0 := 0) X hP wC_7 rfl hi e_x2 dX6_ofBlock_64 ?_
      exact rI X hP hS hf dX6_ofBlock_65
    · have hf := if_f q0 hf
      by_cases q1 : a2 = 1
      · have hf := if_t q1 hf
        refine lv_tableIn (off := 52) (tgt := 66) hx hb dX6_ofBlock_14 (by rw [q1]; decide) (by rw [q1]; decide) (by rw [q1]; rfl) (by decide) ?_
        refine lv_aload_n hx hb dX6_ofBlock_66 rfl (lv_at hl 0 rfl) ?_
        refine fg_X6_10 X hP dX6_ofBlock_67 ?_
        refine fg_X6_89 X hP dX6_ofBlock_70 ?_
        refine lv_iload_n hx hb dX6_ofBlock_73 rfl (lv_at hl 1 rfl) ?_
        obtain ⟨hi, x3, e_x3, hf⟩ := ld_some hf
        refine ldr (t0 := 0) X hP wC_8 rfl hi e_x3 dX6_ofBlock_74 ?_
        exact rI X hP hS hf dX6_ofBlock_75
      · have hf := if_f q1 hf
        by_cases q2 : a2 = 2
        · have hf := if_t q2 hf
          refine lv_tableIn (off := 62) (tgt := 76) hx hb dX6_ofBlock_14 (by rw [q2]; decide) (by rw [q2]; decide) (by rw [q2]; rfl) (by decide) ?_
          refine lv_aload_n hx hb dX6_ofBlock_76 rfl (lv_at hl 0 rfl) ?_
          refine fg_X6_10 X hP dX6_ofBlock_77 ?_
          refine fg_X6_109 X hP dX6_ofBlock_80 ?_
          refine lv_iload_n hx hb dX6_ofBlock_83 rfl (lv_at hl 1 rfl) ?_
          obtain ⟨hi, x4, e_x4, hf⟩ := ld_some hf
          refine ldr (t0 := 0) X hP wC_9 rfl hi e_x4 dX6_ofBlock_84 ?_
          exact rI X hP hS hf dX6_ofBlock_85
        · have hf := if_f q2 hf
          by_cases q3 : a2 = 3
          · have hf := if_t q3 hf
            refine lv_tableIn (off := 72) (tgt := 86) hx hb dX6_ofBlock_14 (by rw [q3]; decide) (by rw [q3]; decide) (by rw [q3]; rfl) (by decide) ?_
            refine lv_aload_n hx hb dX6_ofBlock_86 rfl (lv_at hl 0 rfl) ?_
            refine fg_X6_10 X hP dX6_ofBlock_87 ?_
            refine fg_X6_112 X hP dX6_ofBlock_90 ?_
            refine lv_iload_n hx hb dX6_ofBlock_93 rfl (lv_at hl 1 rfl) ?_
            obtain ⟨hi, x5, e_x5, hf⟩ := ld_some hf
            refine ldr (t0 := 0) X hP wC_10 rfl hi e_x5 dX6_ofBlock_94 ?_
            exact rI X hP hS hf dX6_ofBlock_95
          · have hf := if_f q3 hf
            by_cases q4 : a2 = 4
            · have hf := if_t q4 hf
              refine lv_tableIn (off := 82) (tgt := 96) hx hb dX6_ofBlock_14 (by rw [q4]; decide) (by rw [q4]; decide) (by rw [q4]; rfl) (by decide) ?_
              refine lv_aload_n hx hb dX6_ofBlock_96 rfl (lv_at hl 0 rfl) ?_
              refine fg_X6_10 X hP dX6_ofBlock_97 ?_
              refine fg_X6_115 X hP dX6_ofBlock_100 ?_
              refine lv_iload_n hx hb dX6_ofBlock_103 rfl (lv_at hl 1 rfl) ?_
              obtain ⟨hi, x6, e_x6, hf⟩ := ld_some hf
              refine ldr (t0 := 0) X hP wC_11 rfl hi e_x6 dX6_ofBlock_104 ?_
              exact rI X hP hS hf dX6_ofBlock_105
            · have hf := if_f q4 hf
              by_cases q5 : a2 = 5
              · have hf := if_t q5 hf
                refine lv_tableIn (off := 92) (tgt := 106) hx hb dX6_ofBlock_14 (by rw [q5]; decide) (by rw [q5]; decide) (by rw [q5]; rfl) (by decide) ?_
                refine lv_aload_n hx hb dX6_ofBlock_106 rfl (lv_at hl 0 rfl) ?_
                refine fg_X6_10 X hP dX6_ofBlock_107 ?_
                refine fg_X6_118 X hP dX6_ofBlock_110 ?_
                refine lv_iload_n hx hb dX6_ofBlock_113 rfl (lv_at hl 1 rfl) ?_
                obtain ⟨hi, x7, e_x7, hf⟩ := ld_some hf
                refine ldr (t0 := 0) X hP wC_12 rfl hi e_x7 dX6_ofBlock_114 ?_
                exact rI X hP hS hf dX6_ofBlock_115
              · have hf := if_f q5 hf
                by_cases q6 : a2 = 6
                · have hf := if_t q6 hf
                  refine lv_tableIn (off := 102) (tgt := 116) hx hb dX6_ofBlock_14 (by rw [q6]; decide) (by rw [q6]; decide) (by rw [q6]; rfl) (by decide) ?_
                  refine lv_aload_n hx hb dX6_ofBlock_116 rfl (lv_at hl 0 rfl) ?_
                  refine fg_X6_10 X hP dX6_ofBlock_117 ?_
                  refine fg_X6_89 X hP dX6_ofBlock_120 ?_
                  refine lv_iload_n hx hb dX6_ofBlock_123 rfl (lv_at hl 1 rfl) ?_
                  obtain ⟨hi, x8, e_x8, hf⟩ := ld_some hf
                  refine ldr (t0 := 0) X hP wC_8 rfl hi e_x8 dX6_ofBlock_124 ?_
                  refine lv_iconst (v := 1) hx hb dX6_ofBlock_125 rfl ?_
                  refine lv_icmp_ne (tgt := 141) hx hb dX6_ofBlock_126 (by decide) (fun hq => ?_) (fun hq => ?_)
                  · have hf := if_f hq hf
                    refine lv_bipush (v := (-9)) hx hb dX6_ofBlock_141 rfl ?_
                    exact rI X hP hS hf dX6_ofBlock_143
                  · have hf := if_t hq hf
                    refine lv_aload_n hx hb dX6_ofBlock_129 rfl (lv_at hl 0 rfl) ?_
                    refine fg_X6_10 X hP dX6_ofBlock_130 ?_
                    refine fg_X6_93 X hP dX6_ofBlock_133 ?_
                    refine lv_iload_n hx hb dX6_ofBlock_136 rfl (lv_at hl 1 rfl) ?_
                    obtain ⟨hi, x9, e_x9, hf⟩ := ld_some hf
                    refine ldr (t0 := 0) X hP wC_13 rfl hi e_x9 dX6_ofBlock_137 ?_
                    refine lv_goto (tgt := 143) hx hb dX6_ofBlock_138 (by decide) ?_
                    exact rI X hP hS hf dX6_ofBlock_143
                · have hf := if_f q6 hf
                  refine lv_tableOut (tgt := 144) hx hb dX6_ofBlock_14 (sw_out 6 (by decide) (fun j hj => ?_)) (by decide) ?_
                  · match j, hj with
                    | 0, _ => exact q0
                    | 1, _ => exact q1
                    | 2, _ => exact q2
                    | 3, _ => exact q3
                    | 4, _ => exact q4
                    | 5, _ => exact q5
                    | 6, _ => exact q6
                    | j + 7, hj => exact absurd hj (by omega)
                  · refine lv_bipush (v := (-2)) hx hb dX6_ofBlock_144 rfl ?_
                    exact rI X hP hS hf dX6_ofBlock_146
  · have hf := if_t hq hf
    refine lv_iconst (v := (-1)) hx hb dX6_ofBlock_11 rfl ?_
    exact rI X hP hS hf dX6_ofBlock_12
set_option maxHeartbeats 4000000 in
set_option maxRecDepth 100000 in
theorem c_X6_ofBlock {l : Launch} {D : va_G} {ad : Nat → Nat} {cI : ClassId} (hN : nj ad 34) {σ : St} {a1 a2 : Int32} {r : Int32} (hf : f_X6_ofBlock a1 a2 σ = some r) : Met l yX6_ofBlock (.code yX6_ofBlock cX6_ofBlock 3 (some .int) :: wsL_law) rm_X6_ofBlock (va_Pc [.ref (ad 0), .int a1, .int a2] (pw D (wC ad cI) [(cI, .int)] σ)) (qI D (wC ad cI) (aw ad 34) r σ) 0 0 (aw ad 34) :=
  met_mk (by decide) rfl (Nat.le_of_ble_eq_true rfl) (fun p e s m below meth c X hP ls hl => b_X6_ofBlock X hN hf hP va_S.rf hl)
set_option maxHeartbeats 4000000 in
set_option maxRecDepth 100000 in
theorem b_X6_ofLine (X : cx p s m meth c args cX6_ofLine 3 (some .int) RX6 D [(cI, .int)]) (hN : nj ad 34) {σ : St} {a1 a2 : Int32} {r : Int32} (hf : f_X6_ofLine a1 a2 σ = some r) {H : Heap} {locs : List Loc} {ls : Array Slot} (hP : va_P D vwCl (wC ad cI σ) H) (hS : va_S (aw ad 34) s.heap H locs) (hl : lv_has ls 3 [(0, .ref (ad 0)), (1, .int a1), (2, .int a2)]) : W p l e rm_X6_ofLine s m args below meth c H locs 0 0 (MQ below (qI D (wC ad cI) (aw ad 34) r σ) args s 0 0 (aw ad 34)) (F0 m 0 ls []) := by
  obtain ⟨hx, hb, hml, hown, hts, hr, hlk, hK⟩ := id X
  rw [f_X6_ofLine] at hf
  refine lv_aload_n hx hb dX6_ofLine_0 rfl (lv_at hl 0 rfl) ?_
  refine fg_X6_26 X hP dX6_ofLine_1 ?_
  refine lv_iload_n hx hb dX6_ofLine_4 rfl (lv_at hl 1 rfl) ?_
  obtain ⟨x1, hc, hf⟩ := bi_some hf
  refine kVi (As := [.int a1]) (rest := []) (wd := (wC ad cI)) (q0 := 3) (ci := 2) X (c_X2_has (l := l) (D := D) (σ := σ) hN hc) (cw_X6_121 X.2.2.2.2.1 ⟨Nat.le_of_ble_eq_true rfl, Nat.le_of_ble_eq_true rfl⟩) rfl rfl hP hS hl rfl rfl (Nat.le_of_ble_eq_true rfl) dX6_ofLine_5 (fun H locs hP hS => ?_)
  refine lv_if_ne (tgt := 13) hx hb dX6_ofLine_8 (by decide) (fun hq => ?_) (fun hq => ?_)
  · have hf := if_f hq hf
    refine lv_iload_n hx hb dX6_ofLine_13 rfl (lv_at hl 2 rfl) ?_
    by_cases q0 : a2 = 0
    · have hf := if_t q0 hf
      refine lv_tableIn (off := 34) (tgt := 48) hx hb dX6_ofLine_14 (by rw [q0]; decide) (by rw [q0]; decide) (by rw [q0]; rfl) (by decide) ?_
      refine lv_aload_n hx hb dX6_ofLine_48 rfl (lv_at hl 0 rfl) ?_
      refine fg_X6_26 X hP dX6_ofLine_49 ?_
      refine fg_X6_122 X hP dX6_ofLine_52 ?_
      refine lv_iload_n hx hb dX6_ofLine_55 rfl (lv_at hl 1 rfl) ?_
      obtain ⟨hi, x2, e_x2, hf⟩ := ld_some hf
      refine ldr (t0 := 0) X hP wC_16 rfl hi e_x2 dX6_ofLine_56 ?_
      exact rI X hP hS hf dX6_ofLine_57
    · have hf := if_f q0 hf
      by_cases q1 : a2 = 1
      · have hf := if_t q1 hf
        refine lv_tableIn (off := 44) (tgt := 58) hx hb dX6_ofLine_14 (by rw [q1]; decide) (by rw [q1]; decide) (by rw [q1]; rfl) (by decide) ?_
        refine lv_aload_n hx hb dX6_ofLine_58 rfl (lv_at hl 0 rfl) ?_
        refine fg_X6_26 X hP dX6_ofLine_59 ?_
        refine fg_X6_123 X hP dX6_ofLine_62 ?_
        refine lv_iload_n hx hb dX6_ofLine_65 rfl (lv_at hl 1 rfl) ?_
        obtain ⟨hi, x3, e_x3, hf⟩ := ld_some hf
        refine ldr (t0 := 0) X hP wC_17 rfl hi e_x3 dX6_ofLine_66 ?_
        exact rI X hP hS hf dX6_ofLine_67
      · have hf := if_f q1 hf
        by_cases q2 : a2 = 2
        · have hf := if_t q2 hf
          refine lv_tableIn (off := 54) (tgt := 68) hx hb dX6_ofLine_14 (by rw [q2]; decide) (by rw [q2]; decide) (by rw [q2]; rfl) (by decide) ?_
          refine lv_aload_n hx hb dX6_ofLine_68 rfl (lv_at hl 0 rfl) ?_
          refine fg_X6_26 X hP dX6_ofLine_69 ?_
          refine fg_X6_126 X hP dX6_ofLine_72 ?_
          refine lv_iload_n hx hb dX6_ofLine_75 rfl (lv_at hl 1 rfl) ?_
          obtain ⟨hi, x4, e_x4, hf⟩ := ld_some hf
          refine ldr (t0 := 0) X hP wC_18 rfl hi e_x4 dX6_ofLine_76 ?_
          exact rI X hP hS hf dX6_ofLine_77
        · have hf := if_f q2 hf
          by_cases q3 : a2 = 3
          · have hf := if_t q3 hf
            refine lv_tableIn (off := 64) (tgt := 78) hx hb dX6_ofLine_14 (by rw [q3]; decide) (by rw [q3]; decide) (by rw [q3]; rfl) (by decide) ?_
            refine lv_aload_n hx hb dX6_ofLine_78 rfl (lv_at hl 0 rfl) ?_
            refine fg_X6_26 X hP dX6_ofLine_79 ?_
            refine fg_X6_129 X hP dX6_ofLine_82 ?_
            refine lv_iload_n hx hb dX6_ofLine_85 rfl (lv_at hl 1 rfl) ?_
            obtain ⟨hi, x5, e_x5, hf⟩ := ld_some hf
            refine ldr (t0 := 0) X hP wC_19 rfl hi e_x5 dX6_ofLine_86 ?_
            exact rI X hP hS hf dX6_ofLine_87
          · have hf := if_f q3 hf
            by_cases q4 : a2 = 4
            · have hf := if_t q4 hf
              refine lv_tableIn (off := 74) (tgt := 88) hx hb dX6_ofLine_14 (by rw [q4]; decide) (by rw [q4]; decide) (by rw [q4]; rfl) (by decide) ?_
              refine lv_aload_n hx hb dX6_ofLine_88 rfl (lv_at hl 0 rfl) ?_
              refine fg_X6_26 X hP dX6_ofLine_89 ?_
              refine fg_X6_132 X hP dX6_ofLine_92 ?_
              refine lv_iload_n hx hb dX6_ofLine_95 rfl (lv_at hl 1 rfl) ?_
              obtain ⟨hi, x6, e_x6, hf⟩ := ld_some hf
              refine ldr (t0 := 0) X hP wC_20 rfl hi e_x6 dX6_ofLine_96 ?_
              exact rI X hP hS hf dX6_ofLine_97
            · have hf := if_f q4 hf
              refine lv_tableOut (tgt := 98) hx hb dX6_ofLine_14 (sw_out 4 (by decide) (fun j hj => ?_)) (by decide) ?_
              · match j, hj with
                | 0, _ => exact q0
                | 1, _ => exact q1
                | 2, _ => exact q2
                | 3, _ => exact q3
                | 4, _ => exact q4
                | j + 5, hj => exact absurd hj (by omega)
              · refine lv_bipush (v := (-2)) hx hb dX6_ofLine_98 rfl ?_
                exact rI X hP hS hf dX6_ofLine_100
  · have hf := if_t hq hf
    refine lv_iconst (v := (-1)) hx hb dX6_ofLine_11 rfl ?_
    exact rI X hP hS hf dX6_ofLine_12
set_option maxHeartbeats 4000000 in
set_option maxRecDepth 100000 in
theorem c_X6_ofLine {l : Launch} {D : va_G} {ad : Nat → Nat} {cI : ClassId} (hN : nj ad 34) {σ : St} {a1 a2 : Int32} {r : Int32} (hf : f_X6_ofLine a1 a2 σ = some r) : Met l yX6_ofLine (.code yX6_ofLine cX6_ofLine 3 (some .int) :: wsL_law) rm_X6_ofLine (va_Pc [.ref (ad 0), .int a1, .int a2] (pw D (wC ad cI) [(cI, .int)] σ)) (qI D (wC ad cI) (aw ad 34) r σ) 0 0 (aw ad 34) :=
  met_mk (by decide) rfl (Nat.le_of_ble_eq_true rfl) (fun p e s m below meth c X hP ls hl => b_X6_ofLine X hN hf hP va_S.rf hl)
set_option maxHeartbeats 4000000 in
set_option maxRecDepth 100000 in
theorem b_X6_at (X : cx p s m meth c args cX6_at 4 (some .int) RX6 D [(cI, .int)]) (hN : nj ad 34) {σ : St} {a1 a2 a3 : Int32} {r : Int32} (hf : f_X6_at a1 a2 a3 σ = some r) {H : Heap} {locs : List Loc} {ls : Array Slot} (hP : va_P D vwCl (wC ad cI σ) H) (hS : va_S (aw ad 34) s.heap H locs) (hl : lv_has ls 4 [(0, .ref (ad 0)), (1, .int a1), (2, .int a2), (3, .int a3)]) : W p l e rm_X6_at s m args below meth c H locs 0 0 (MQ below (qI D (wC ad cI) (aw ad 34) r σ) args s 0 0 (aw ad 34)) (F0 m 0 ls []) := by
  obtain ⟨hx, hb, hml, hown, hts, hr, hlk, hK⟩ := id X
  rw [f_X6_at] at hf
  refine lv_iload_n hx hb dX6_at_0 rfl (lv_at hl 1 rfl) ?_
  refine lv_iconst (v := 4) hx hb dX6_at_1 rfl ?_
  obtain ⟨x1, hc, hf⟩ := bi_some hf
  refine kSi (As := [.int a1, .int 4]) (rest := []) (wd := (wC ad cI)) X (c_X6_isBelow (l := l) (D := D) (σ := σ) hN hc) (cw_X6_61 X.2.2.2.2.1 ⟨Nat.le_of_ble_eq_true rfl, Nat.le_of_ble_eq_true rfl⟩) hP hS hl rfl rfl (Nat.le_of_ble_eq_true rfl) dX6_at_2 (fun H locs hP hS => ?_)
  refine lv_if_eq (tgt := 26) hx hb dX6_at_5 (by decide) (fun hq => ?_) (fun hq => ?_)
  · have hf := if_t hq hf
    refine lv_bipush (v := (-2)) hx hb dX6_at_26 rfl ?_
    exact rI X hP hS hf dX6_at_28
  · have hf := if_f hq hf
    refine lv_iload_n hx hb dX6_at_8 rfl (lv_at hl 2 rfl) ?_
    refine lv_bipush (v := 8) hx hb dX6_at_9 rfl ?_
    obtain ⟨x2, hc, hf⟩ := bi_some hf
    refine kSi (As := [.int a2, .int 8]) (rest := []) (wd := (wC ad cI)) X (c_X6_isBelow (l := l) (D := D) (σ := σ) hN hc) (cw_X6_61 X.2.2.2.2.1 ⟨Nat.le_of_ble_eq_true rfl, Nat.le_of_ble_eq_true rfl⟩) hP hS hl rfl rfl (Nat.le_of_ble_eq_true rfl) dX6_at_11 (fun H locs hP hS => ?_)
    refine lv_if_eq (tgt := 26) hx hb dX6_at_14 (by decide) (fun hq => ?_) (fun hq => ?_)
    · have hf := if_t hq hf
      refine lv_bipush (v := (-2)) hx hb dX6_at_26 rfl ?_
      exact rI X hP hS hf dX6_at_28
    · have hf := if_f hq hf
      refine lv_iload_n hx hb dX6_at_17 rfl (lv_at hl 3 rfl) ?_
      refine lv_bipush (v := 30) hx hb dX6_at_18 rfl ?_
      obtain ⟨x3, hc, hf⟩ := bi_some hf
      refine kSi (As := [.int a3, .int 30]) (rest := []) (wd := (wC ad cI)) X (c_X6_isBelow (l := l) (D := D) (σ := σ) hN hc) (cw_X6_61 X.2.2.2.2.1 ⟨Nat.le_of_ble_eq_true rfl, Nat.le_of_ble_eq_true rfl⟩) hP hS hl rfl rfl (Nat.le_of_ble_eq_true rfl) dX6_at_20 (fun H locs hP hS => ?_)
      refine lv_if_ne (tgt := 29) hx hb dX6_at_23 (by decide) (fun hq => ?_) (fun hq => ?_)
      · have hf := if_f hq hf
        refine lv_aload_n hx hb dX6_at_29 rfl (lv_at hl 0 rfl) ?_
        refine fg_X6_10 X hP dX6_at_30 ?_
        refine lv_iload_n hx hb dX6_at_33 rfl (lv_at hl 1 rfl) ?_
        refine lv_iload_n hx hb dX6_at_34 rfl (lv_at hl 2 rfl) ?_
        refine lv_iload_n hx hb dX6_at_35 rfl (lv_at hl 2 rfl) ?_
        refine lv_iload_n hx hb dX6_at_36 rfl (lv_at hl 3 rfl) ?_
        refine lv_iload_n hx hb dX6_at_37 rfl (lv_at hl 3 rfl) ?_
        obtain ⟨x4, hc, hf⟩ := bi_some hf
        refine kVi (As := [.int a1, .int a2, .int a2, .int a3, .int a3]) (rest := []) (wd := (wC ad cI)) (q0 := 1) (ci := 1) X (c_X1_firstIn (l := l) (D := D) (σ := σ) hN hc) (cw_X6_135 X.2.2.2.2.1 ⟨Nat.le_of_ble_eq_true rfl, Nat.le_of_ble_eq_true rfl⟩) rfl rfl hP hS hl rfl rfl (Nat.le_of_ble_eq_true rfl) dX6_at_38 (fun H locs hP hS => ?_)
        exact rI X hP hS hf dX6_at_41
      · have hf := if_t hq hf
        refine lv_bipush (v := (-2)) hx hb dX6_at_26 rfl ?_
        exact rI X hP hS hf dX6_at_28
set_option maxHeartbeats 4000000 in
set_option maxRecDepth 100000 in
theorem c_X6_at {l : Launch} {D : va_G} {ad : Nat → Nat} {cI : ClassId} (hN : nj ad 34) {σ : St} {a1 a2 a3 : Int32} {r : Int32} (hf : f_X6_at a1 a2 a3 σ = some r) : Met l yX6_at (.code yX6_at cX6_at 4 (some .int) :: wsL_law) rm_X6_at (va_Pc [.ref (ad 0), .int a1, .int a2, .int a3] (pw D (wC ad cI) [(cI, .int)] σ)) (qI D (wC ad cI) (aw ad 34) r σ) 0 0 (aw ad 34) :=
  met_mk (by decide) rfl (Nat.le_of_ble_eq_true rfl) (fun p e s m below meth c X hP ls hl => b_X6_at X hN hf hP va_S.rf hl)
set_option maxHeartbeats 4000000 in
set_option maxRecDepth 100000 in
theorem b_X6_reach (X : cx p s m meth c args cX6_reach 3 (some .int) RX6 D [(cI, .int)]) (hN : nj ad 34) {σ : St} {a1 a2 : Int32} {r : Int32} (hf : f_X6_reach a1 a2 σ = some r) {H : Heap} {locs : List Loc} {ls : Array Slot} (hP : va_P D vwCl (wC ad cI σ) H) (hS : va_S (aw ad 34) s.heap H locs) (hl : lv_has ls 3 [(0, .ref (ad 0)), (1, .int a1), (2, .int a2)]) : W p l e rm_X6_reach s m args below meth c H locs 0 0 (MQ below (qI D (wC ad cI) (aw ad 34) r σ) args s 0 0 (aw ad 34)) (F0 m 0 ls []) := by
  obtain ⟨hx, hb, hml, hown, hts, hr, hlk, hK⟩ := id X
  rw [f_X6_reach] at hf
  refine lv_aload_n hx hb dX6_reach_0 rfl (lv_at hl 0 rfl) ?_
  refine fg_X6_10 X hP dX6_reach_1 ?_
  refine lv_iload_n hx hb dX6_reach_4 rfl (lv_at hl 1 rfl) ?_
  obtain ⟨x1, hc, hf⟩ := bi_some hf
  refine kVi (As := [.int a1]) (rest := []) (wd := (wC ad cI)) (q0 := 1) (ci := 1) X (c_X1_has (l := l) (D := D) (σ := σ) hN hc) (cw_X6_85 X.2.2.2.2.1 ⟨Nat.le_of_ble_eq_true rfl, Nat.le_of_ble_eq_true rfl⟩) rfl rfl hP hS hl rfl rfl (Nat.le_of_ble_eq_true rfl) dX6_reach_5 (fun H locs hP hS => ?_)
  refine lv_if_eq (tgt := 23) hx hb dX6_reach_8 (by decide) (fun hq => ?_) (fun hq => ?_)
  · have hf := if_t hq hf
    refine lv_iconst (v := (-1)) hx hb dX6_reach_23 rfl ?_
    exact rI X hP hS hf dX6_reach_24
  · have hf := if_f hq hf
    refine lv_aload_n hx hb dX6_reach_11 rfl (lv_at hl 0 rfl) ?_
    refine fg_X6_10 X hP dX6_reach_12 ?_
    refine fg_X6_89 X hP dX6_reach_15 ?_
    refine lv_iload_n hx hb dX6_reach_18 rfl (lv_at hl 1 rfl) ?_
    obtain ⟨hi, x2, e_x2, hf⟩ := ld_some hf
    refine ldr (t0 := 0) X hP wC_8 rfl hi e_x2 dX6_reach_19 ?_
    refine lv_if_eq (tgt := 25) hx hb dX6_reach_20 (by decide) (fun hq => ?_) (fun hq => ?_)
    · have hf := if_t hq hf
      refine lv_iload_n hx hb dX6_reach_25 rfl (lv_at hl 2 rfl) ?_
      refine lv_bipush (v := 8) hx hb dX6_reach_26 rfl ?_
      obtain ⟨x3, hc, hf⟩ := bi_some hf
      refine kSi (As := [.int a2, .int 8]) (rest := []) (wd := (wC ad cI)) X (c_X6_isBelow (l := l) (D := D) (σ := σ) hN hc) (cw_X6_61 X.2.2.2.2.1 ⟨Nat.le_of_ble_eq_true rfl, Nat.le_of_ble_eq_true rfl⟩) hP hS hl rfl rfl (Nat.le_of_ble_eq_true rfl) dX6_reach_28 (fun H locs hP hS => ?_)
      refine lv_if_ne (tgt := 37) hx hb dX6_reach_31 (by decide) (fun hq => ?_) (fun hq => ?_)
      · have hf := if_f hq hf
        refine lv_aload_n hx hb dX6_reach_37 rfl (lv_at hl 0 rfl) ?_
        refine fg_X6_35 X hP dX6_reach_38 ?_
        refine lv_iload_n hx hb dX6_reach_41 rfl (lv_at hl 1 rfl) ?_
        refine lv_iload_n hx hb dX6_reach_42 rfl (lv_at hl 2 rfl) ?_
        obtain ⟨x4, hc, hf⟩ := bi_some hf
        refine kVi (As := [.int a1, .int a2]) (rest := []) (wd := (wC ad cI)) (q0 := 4) (ci := 4) X (c_X4_lastRow (l := l) (D := D) (σ := σ) hN hc) (cw_X6_138 X.2.2.2.2.1 ⟨Nat.le_of_ble_eq_true rfl, Nat.le_of_ble_eq_true rfl⟩) rfl rfl hP hS hl rfl rfl (Nat.le_of_ble_eq_true rfl) dX6_reach_43 (fun H locs hP hS => ?_)
        exact rI X hP hS hf dX6_reach_46
      · have hf := if_t hq hf
        refine lv_bipush (v := (-2)) hx hb dX6_reach_34 rfl ?_
        exact rI X hP hS hf dX6_reach_36
    · have hf := if_f hq hf
      refine lv_iconst (v := (-1)) hx hb dX6_reach_23 rfl ?_
      exact rI X hP hS hf dX6_reach_24
set_option maxHeartbeats 4000000 in
set_option maxRecDepth 100000 in
theorem c_X6_reach {l : Launch} {D : va_G} {ad : Nat → Nat} {cI : ClassId} (hN : nj ad 34) {σ : St} {a1 a2 : Int32} {r : Int32} (hf : f_X6_reach a1 a2 σ = some r) : Met l yX6_reach (.code yX6_reach cX6_reach 3 (some .int) :: wsL_law) rm_X6_reach (va_Pc [.ref (ad 0), .int a1, .int a2] (pw D (wC ad cI) [(cI, .int)] σ)) (qI D (wC ad cI) (aw ad 34) r σ) 0 0 (aw ad 34) :=
  met_mk (by decide) rfl (Nat.le_of_ble_eq_true rfl) (fun p e s m below meth c X hP ls hl => b_X6_reach X hN hf hP va_S.rf hl)
set_option maxHeartbeats 4000000 in
set_option maxRecDepth 100000 in
theorem b_X6_refresh (X : cx p s m meth c args cX6_refresh 1 none RX6 D [(cI, .int)]) (hN : nj ad 34) {σ : St} {σ' : St} (hf : f_X6_refresh σ = some σ') {H : Heap} {locs : List Loc} {ls : Array Slot} (hP : va_P D vwCl (wC ad cI σ) H) (hS : va_S (aw ad 34) s.heap H locs) (hl : lv_has ls 1 [(0, .ref (ad 0))]) : W p l e rm_X6_refresh s m args below meth c H locs 0 0 (MQ below (qV D (wC ad cI) (aw ad 34) σ') args s 0 0 (aw ad 34)) (F0 m 0 ls []) := by
  obtain ⟨hx, hb, hml, hown, hts, hr, hlk, hK⟩ := id X
  rw [f_X6_refresh] at hf
  refine lv_aload_n hx hb dX6_refresh_0 rfl (lv_at hl 0 rfl) ?_
  obtain ⟨x1, e_x1, hf⟩ := lf_some hf
  refine fg_X6_57 X hP e_x1 dX6_refresh_1 ?_
  refine lv_if_eq (tgt := 26) hx hb dX6_refresh_4 (by decide) (fun hq => ?_) (fun hq => ?_)
  · have hf := if_t hq hf
    exact rVe X hP hS hf dX6_refresh_26
  · have hf := if_f hq hf
    refine lv_aload_n hx hb dX6_refresh_7 rfl (lv_at hl 0 rfl) ?_
    refine fg_X6_44 X hP dX6_refresh_8 ?_
    obtain ⟨σ2, hc, hf⟩ := bs_some hf
    refine kVv (As := []) (rest := []) (wd := (wC ad cI)) (q0 := 5) (ci := 5) X (c_X5_build (l := l) (D := D) (σ := σ) hN hc) (cw_X6_246 X.2.2.2.2.1 ⟨Nat.le_of_ble_eq_true rfl, Nat.le_of_ble_eq_true rfl⟩) rfl rfl hP hS hl rfl rfl (Nat.le_of_ble_eq_true rfl) dX6_refresh_11 (fun H locs hP hS => ?_)
    refine lv_aload_n hx hb dX6_refresh_14 rfl (lv_at hl 0 rfl) ?_
    refine fg_X6_53 X hP dX6_refresh_15 ?_
    obtain ⟨σ3, hc, hf⟩ := bs_some hf
    refine kVv (As := []) (rest := []) (wd := (wC ad cI)) (q0 := 6) (ci := 0) X (c_X0_build (l := l) (D := D) (σ := σ2) hN hc) (cw_X6_249 X.2.2.2.2.1 ⟨Nat.le_of_ble_eq_true rfl, Nat.le_of_ble_eq_true rfl⟩) rfl rfl hP hS hl rfl rfl (Nat.le_of_ble_eq_true rfl) dX6_refresh_18 (fun H locs hP hS => ?_)
    refine lv_aload_n hx hb dX6_refresh_21 rfl (lv_at hl 0 rfl) ?_
    refine lv_iconst (v := 0) hx hb dX6_refresh_22 rfl ?_
    obtain ⟨hz, hf⟩ := gb_some hf
    obtain ⟨σ4, e_σ4, hf⟩ := sf_some hf
    refine fp_X6_57 X hN hP hS hz e_σ4 dX6_refresh_23 (fun H locs hP hS => ?_)
    exact rVe X hP hS hf dX6_refresh_26
set_option maxHeartbeats 4000000 in
set_option maxRecDepth 100000 in
theorem c_X6_refresh {l : Launch} {D : va_G} {ad : Nat → Nat} {cI : ClassId} (hN : nj ad 34) {σ : St} {σ' : St} (hf : f_X6_refresh σ = some σ') : Met l yX6_refresh (.code yX6_refresh cX6_refresh 1 none :: wsL_law) rm_X6_refresh (va_Pc [.ref (ad 0)] (pw D (wC ad cI) [(cI, .int)] σ)) (qV D (wC ad cI) (aw ad 34) σ') 0 0 (aw ad 34) :=
  met_mk (by decide) rfl (Nat.le_of_ble_eq_true rfl) (fun p e s m below meth c X hP ls hl => b_X6_refresh X hN hf hP va_S.rf hl)
set_option maxHeartbeats 4000000 in
set_option maxRecDepth 100000 in
theorem b_X6_under (X : cx p s m meth c args cX6_under 2 (some .int) RX6 D [(cI, .int)]) (hN : nj ad 34) {σ : St} {a1 : Int32} {r : Int32} {σ' : St} (hf : f_X6_under a1 σ = some (r, σ')) {H : Heap} {locs : List Loc} {ls : Array Slot} (hP : va_P D vwCl (wC ad cI σ) H) (hS : va_S (aw ad 34) s.heap H locs) (hl : lv_has ls 2 [(0, .ref (ad 0)), (1, .int a1)]) : W p l e rm_X6_under s m args below meth c H locs 0 0 (MQ below (qI D (wC ad cI) (aw ad 34) r σ') args s 0 0 (aw ad 34)) (F0 m 0 ls []) := by
  obtain ⟨hx, hb, hml, hown, hts, hr, hlk, hK⟩ := id X
  rw [f_X6_under] at hf
  refine lv_aload_n hx hb dX6_under_0 rfl (lv_at hl 0 rfl) ?_
  refine fg_X6_10 X hP dX6_under_1 ?_
  refine lv_iload_n hx hb dX6_under_4 rfl (lv_at hl 1 rfl) ?_
  obtain ⟨x1, hc, hf⟩ := bi_some hf
  refine kVi (As := [.int a1]) (rest := []) (wd := (wC ad cI)) (q0 := 1) (ci := 1) X (c_X1_has (l := l) (D := D) (σ := σ) hN hc) (cw_X6_85 X.2.2.2.2.1 ⟨Nat.le_of_ble_eq_true rfl, Nat.le_of_ble_eq_true rfl⟩) rfl rfl hP hS hl rfl rfl (Nat.le_of_ble_eq_true rfl) dX6_under_5 (fun H locs hP hS => ?_)
  refine lv_if_ne (tgt := 13) hx hb dX6_under_8 (by decide) (fun hq => ?_) (fun hq => ?_)
  · have hf := if_f hq hf
    refine lv_aload_n hx hb dX6_under_13 rfl (lv_at hl 0 rfl) ?_
    refine fg_X6_10 X hP dX6_under_14 ?_
    refine fg_X6_89 X hP dX6_under_17 ?_
    refine lv_iload_n hx hb dX6_under_20 rfl (lv_at hl 1 rfl) ?_
    obtain ⟨hi, x2, e_x2, hf⟩ := ld_some hf
    refine ldr (t0 := 0) X hP wC_8 rfl hi e_x2 dX6_under_21 ?_
    refine lv_if_ne (tgt := 28) hx hb dX6_under_22 (by decide) (fun hq => ?_) (fun hq => ?_)
    · have hf := if_f hq hf
      refine lv_aload_n hx hb dX6_under_28 rfl (lv_at hl 0 rfl) ?_
      obtain ⟨σ3, hc, hf⟩ := bs_some hf
      refine kVv (As := []) (rest := []) (wd := (wC ad cI)) (q0 := 0) (ci := 6) X (c_X6_refresh (l := l) (D := D) (σ := σ) hN hc) (cw_X6_142 X.2.2.2.2.1 ⟨Nat.le_of_ble_eq_true rfl, Nat.le_of_ble_eq_true rfl⟩) rfl rfl hP hS hl rfl rfl (Nat.le_of_ble_eq_true rfl) dX6_under_29 (fun H locs hP hS => ?_)
      refine lv_aload_n hx hb dX6_under_32 rfl (lv_at hl 0 rfl) ?_
      refine fg_X6_44 X hP dX6_under_33 ?_
      refine fg_X6_145 X hP dX6_under_36 ?_
      refine lv_iload_n hx hb dX6_under_39 rfl (lv_at hl 1 rfl) ?_
      obtain ⟨hi, x4, e_x4, hf⟩ := ld_some hf
      refine ldr (t0 := 0) X hP wC_21 rfl hi e_x4 dX6_under_40 ?_
      exact rIe X hP hS hf dX6_under_41
    · have hf := if_t hq hf
      refine lv_bipush (v := (-3)) hx hb dX6_under_25 rfl ?_
      exact rIe X hP hS hf dX6_under_27
  · have hf := if_t hq hf
    refine lv_iconst (v := (-1)) hx hb dX6_under_11 rfl ?_
    exact rIe X hP hS hf dX6_under_12
set_option maxHeartbeats 4000000 in
set_option maxRecDepth 100000 in
theorem c_X6_under {l : Launch} {D : va_G} {ad : Nat → Nat} {cI : ClassId} (hN : nj ad 34) {σ : St} {a1 : Int32} {r : Int32} {σ' : St} (hf : f_X6_under a1 σ = some (r, σ')) : Met l yX6_under (.code yX6_under cX6_under 2 (some .int) :: wsL_law) rm_X6_under (va_Pc [.ref (ad 0), .int a1] (pw D (wC ad cI) [(cI, .int)] σ)) (qI D (wC ad cI) (aw ad 34) r σ') 0 0 (aw ad 34) :=
  met_mk (by decide) rfl (Nat.le_of_ble_eq_true rfl) (fun p e s m below meth c X hP ls hl => b_X6_under X hN hf hP va_S.rf hl)
set_option maxHeartbeats 4000000 in
set_option maxRecDepth 100000 in
theorem b_X6_story (X : cx p s m meth c args cX6_story 2 (some .int) RX6 D [(cI, .int)]) (hN : nj ad 34) {σ : St} {a1 : Int32} {r : Int32} {σ' : St} (hf : f_X6_story a1 σ = some (r, σ')) {H : Heap} {locs : List Loc} {ls : Array Slot} (hP : va_P D vwCl (wC ad cI σ) H) (hS : va_S (aw ad 34) s.heap H locs) (hl : lv_has ls 2 [(0, .ref (ad 0)), (1, .int a1)]) : W p l e rm_X6_story s m args below meth c H locs 0 0 (MQ below (qI D (wC ad cI) (aw ad 34) r σ') args s 0 0 (aw ad 34)) (F0 m 0 ls []) := by
  obtain ⟨hx, hb, hml, hown, hts, hr, hlk, hK⟩ := id X
  rw [f_X6_story] at hf
  refine lv_aload_n hx hb dX6_story_0 rfl (lv_at hl 0 rfl) ?_
  refine fg_X6_10 X hP dX6_story_1 ?_
  refine lv_iload_n hx hb dX6_story_4 rfl (lv_at hl 1 rfl) ?_
  obtain ⟨x1, hc, hf⟩ := bi_some hf
  refine kVi (As := [.int a1]) (rest := []) (wd := (wC ad cI)) (q0 := 1) (ci := 1) X (c_X1_has (l := l) (D := D) (σ := σ) hN hc) (cw_X6_85 X.2.2.2.2.1 ⟨Nat.le_of_ble_eq_true rfl, Nat.le_of_ble_eq_true rfl⟩) rfl rfl hP hS hl rfl rfl (Nat.le_of_ble_eq_true rfl) dX6_story_5 (fun H locs hP hS => ?_)
  refine lv_if_ne (tgt := 13) hx hb dX6_story_8 (by decide) (fun hq => ?_) (fun hq => ?_)
  · have hf := if_f hq hf
    refine lv_aload_n hx hb dX6_story_13 rfl (lv_at hl 0 rfl) ?_
    obtain ⟨σ2, hc, hf⟩ := bs_some hf
    refine kVv (As := []) (rest := []) (wd := (wC ad cI)) (q0 := 0) (ci := 6) X (c_X6_refresh (l := l) (D := D) (σ := σ) hN hc) (cw_X6_142 X.2.2.2.2.1 ⟨Nat.le_of_ble_eq_true rfl, Nat.le_of_ble_eq_true rfl⟩) rfl rfl hP hS hl rfl rfl (Nat.le_of_ble_eq_true rfl) dX6_story_14 (fun H locs hP hS => ?_)
    refine lv_aload_n hx hb dX6_story_17 rfl (lv_at hl 0 rfl) ?_
    refine fg_X6_44 X hP dX6_story_18 ?_
    refine fg_X6_148 X hP dX6_story_21 ?_
    refine lv_iload_n hx hb dX6_story_24 rfl (lv_at hl 1 rfl) ?_
    obtain ⟨hi, x3, e_x3, hf⟩ := ld_some hf
    refine ldr (t0 := 0) X hP wC_24 rfl hi e_x3 dX6_story_25 ?_
    exact rIe X hP hS hf dX6_story_26
  · have hf := if_t hq hf
    refine lv_iconst (v := (-1)) hx hb dX6_story_11 rfl ?_
    exact rIe X hP hS hf dX6_story_12
set_option maxHeartbeats 4000000 in
set_option maxRecDepth 100000 in
theorem c_X6_story {l : Launch} {D : va_G} {ad : Nat → Nat} {cI : ClassId} (hN : nj ad 34) {σ : St} {a1 : Int32} {r : Int32} {σ' : St} (hf : f_X6_story a1 σ = some (r, σ')) : Met l yX6_story (.code yX6_story cX6_story 2 (some .int) :: wsL_law) rm_X6_story (va_Pc [.ref (ad 0), .int a1] (pw D (wC ad cI) [(cI, .int)] σ)) (qI D (wC ad cI) (aw ad 34) r σ') 0 0 (aw ad 34) :=
  met_mk (by decide) rfl (Nat.le_of_ble_eq_true rfl) (fun p e s m below meth c X hP ls hl => b_X6_story X hN hf hP va_S.rf hl)
set_option maxHeartbeats 4000000 in
set_option maxRecDepth 100000 in
theorem b_X6_takenBy (X : cx p s m meth c args cX6_takenBy 2 (some .int) RX6 D [(cI, .int)]) (hN : nj ad 34) {σ : St} {a1 : Int32} {r : Int32} {σ' : St} (hf : f_X6_takenBy a1 σ = some (r, σ')) {H : Heap} {locs : List Loc} {ls : Array Slot} (hP : va_P D vwCl (wC ad cI σ) H) (hS : va_S (aw ad 34) s.heap H locs) (hl : lv_has ls 2 [(0, .ref (ad 0)), (1, .int a1)]) : W p l e rm_X6_takenBy s m args below meth c H locs 0 0 (MQ below (qI D (wC ad cI) (aw ad 34) r σ') args s 0 0 (aw ad 34)) (F0 m 0 ls []) := by
  obtain ⟨hx, hb, hml, hown, hts, hr, hlk, hK⟩ := id X
  rw [f_X6_takenBy] at hf
  refine lv_aload_n hx hb dX6_takenBy_0 rfl (lv_at hl 0 rfl) ?_
  refine fg_X6_10 X hP dX6_takenBy_1 ?_
  refine lv_iload_n hx hb dX6_takenBy_4 rfl (lv_at hl 1 rfl) ?_
  obtain ⟨x1, hc, hf⟩ := bi_some hf
  refine kVi (As := [.int a1]) (rest := []) (wd := (wC ad cI)) (q0 := 1) (ci := 1) X (c_X1_has (l := l) (D := D) (σ := σ) hN hc) (cw_X6_85 X.2.2.2.2.1 ⟨Nat.le_of_ble_eq_true rfl, Nat.le_of_ble_eq_true rfl⟩) rfl rfl hP hS hl rfl rfl (Nat.le_of_ble_eq_true rfl) dX6_takenBy_5 (fun H locs hP hS => ?_)
  refine lv_if_ne (tgt := 13) hx hb dX6_takenBy_8 (by decide) (fun hq => ?_) (fun hq => ?_)
  · have hf := if_f hq hf
    refine lv_aload_n hx hb dX6_takenBy_13 rfl (lv_at hl 0 rfl) ?_
    refine fg_X6_10 X hP dX6_takenBy_14 ?_
    refine fg_X6_89 X hP dX6_takenBy_17 ?_
    refine lv_iload_n hx hb dX6_takenBy_20 rfl (lv_at hl 1 rfl) ?_
    obtain ⟨hi, x2, e_x2, hf⟩ := ld_some hf
    refine ldr (t0 := 0) X hP wC_8 rfl hi e_x2 dX6_takenBy_21 ?_
    refine lv_iconst (v := 1) hx hb dX6_takenBy_22 rfl ?_
    refine lv_icmp_eq (tgt := 29) hx hb dX6_takenBy_23 (by decide) (fun hq => ?_) (fun hq => ?_)
    · have hf := if_t hq hf
      refine lv_aload_n hx hb dX6_takenBy_29 rfl (lv_at hl 0 rfl) ?_
      obtain ⟨σ3, hc, hf⟩ := bs_some hf
      refine kVv (As := []) (rest := []) (wd := (wC ad cI)) (q0 := 0) (ci := 6) X (c_X6_refresh (l := l) (D := D) (σ := σ) hN hc) (cw_X6_142 X.2.2.2.2.1 ⟨Nat.le_of_ble_eq_true rfl, Nat.le_of_ble_eq_true rfl⟩) rfl rfl hP hS hl rfl rfl (Nat.le_of_ble_eq_true rfl) dX6_takenBy_30 (fun H locs hP hS => ?_)
      refine lv_aload_n hx hb dX6_takenBy_33 rfl (lv_at hl 0 rfl) ?_
      refine fg_X6_44 X hP dX6_takenBy_34 ?_
      refine fg_X6_151 X hP dX6_takenBy_37 ?_
      refine lv_iload_n hx hb dX6_takenBy_40 rfl (lv_at hl 1 rfl) ?_
      obtain ⟨hi, x4, e_x4, hf⟩ := ld_some hf
      refine ldr (t0 := 0) X hP wC_22 rfl hi e_x4 dX6_takenBy_41 ?_
      exact rIe X hP hS hf dX6_takenBy_42
    · have hf := if_f hq hf
      refine lv_bipush (v := (-3)) hx hb dX6_takenBy_26 rfl ?_
      exact rIe X hP hS hf dX6_takenBy_28
  · have hf := if_t hq hf
    refine lv_iconst (v := (-1)) hx hb dX6_takenBy_11 rfl ?_
    exact rIe X hP hS hf dX6_takenBy_12
set_option maxHeartbeats 4000000 in
set_option maxRecDepth 100000 in
theorem c_X6_takenBy {l : Launch} {D : va_G} {ad : Nat → Nat} {cI : ClassId} (hN : nj ad 34) {σ : St} {a1 : Int32} {r : Int32} {σ' : St} (hf : f_X6_takenBy a1 σ = some (r, σ')) : Met l yX6_takenBy (.code yX6_takenBy cX6_takenBy 2 (some .int) :: wsL_law) rm_X6_takenBy (va_Pc [.ref (ad 0), .int a1] (pw D (wC ad cI) [(cI, .int)] σ)) (qI D (wC ad cI) (aw ad 34) r σ') 0 0 (aw ad 34) :=
  met_mk (by decide) rfl (Nat.le_of_ble_eq_true rfl) (fun p e s m below meth c X hP ls hl => b_X6_takenBy X hN hf hP va_S.rf hl)
set_option maxHeartbeats 4000000 in
set_option maxRecDepth 100000 in
theorem b_X6_ofStory (X : cx p s m meth c args cX6_ofStory 3 (some .int) RX6 D [(cI, .int)]) (hN : nj ad 34) {σ : St} {a1 a2 : Int32} {r : Int32} {σ' : St} (hf : f_X6_ofStory a1 a2 σ = some (r, σ')) {H : Heap} {locs : List Loc} {ls : Array Slot} (hP : va_P D vwCl (wC ad cI σ) H) (hS : va_S (aw ad 34) s.heap H locs) (hl : lv_has ls 3 [(0, .ref (ad 0)), (1, .int a1), (2, .int a2)]) : W p l e rm_X6_ofStory s m args below meth c H locs 0 0 (MQ below (qI D (wC ad cI) (aw ad 34) r σ') args s 0 0 (aw ad 34)) (F0 m 0 ls []) := by
  obtain ⟨hx, hb, hml, hown, hts, hr, hlk, hK⟩ := id X
  rw [f_X6_ofStory] at hf
  refine lv_aload_n hx hb dX6_ofStory_0 rfl (lv_at hl 0 rfl) ?_
  obtain ⟨σ1, hc, hf⟩ := bs_some hf
  refine kVv (As := []) (rest := []) (wd := (wC ad cI)) (q0 := 0) (ci := 6) X (c_X6_refresh (l := l) (D := D) (σ := σ) hN hc) (cw_X6_142 X.2.2.2.2.1 ⟨Nat.le_of_ble_eq_true rfl, Nat.le_of_ble_eq_true rfl⟩) rfl rfl hP hS hl rfl rfl (Nat.le_of_ble_eq_true rfl) dX6_ofStory_1 (fun H locs hP hS => ?_)
  refine lv_aload_n hx hb dX6_ofStory_4 rfl (lv_at hl 0 rfl) ?_
  refine fg_X6_44 X hP dX6_ofStory_5 ?_
  refine lv_iload_n hx hb dX6_ofStory_8 rfl (lv_at hl 1 rfl) ?_
  obtain ⟨x2, hc, hf⟩ := bi_some hf
  refine kVi (As := [.int a1]) (rest := []) (wd := (wC ad cI)) (q0 := 5) (ci := 5) X (c_X5_has (l := l) (D := D) (σ := σ1) hN hc) (cw_X6_154 X.2.2.2.2.1 ⟨Nat.le_of_ble_eq_true rfl, Nat.le_of_ble_eq_true rfl⟩) rfl rfl hP hS hl rfl rfl (Nat.le_of_ble_eq_true rfl) dX6_ofStory_9 (fun H locs hP hS => ?_)
  refine lv_if_ne (tgt := 17) hx hb dX6_ofStory_12 (by decide) (fun hq => ?_) (fun hq => ?_)
  · have hf := if_f hq hf
    refine lv_iload_n hx hb dX6_ofStory_17 rfl (lv_at hl 2 rfl) ?_
    by_cases q0 : a2 = 0
    · have hf := if_t q0 hf
      refine lv_tableIn (off := 50) (tgt := 68) hx hb dX6_ofStory_18 (by rw [q0]; decide) (by rw [q0]; decide) (by rw [q0]; rfl) (by decide) ?_
      refine lv_aload_n hx hb dX6_ofStory_68 rfl (lv_at hl 0 rfl) ?_
      refine fg_X6_44 X hP dX6_ofStory_69 ?_
      refine lv_iload_n hx hb dX6_ofStory_72 rfl (lv_at hl 1 rfl) ?_
      obtain ⟨x3, hc, hf⟩ := bi_some hf
      refine kVi (As := [.int a1]) (rest := []) (wd := (wC ad cI)) (q0 := 5) (ci := 5) X (c_X5_headOf (l := l) (D := D) (σ := σ1) hN hc) (cw_X6_155 X.2.2.2.2.1 ⟨Nat.le_of_ble_eq_true rfl, Nat.le_of_ble_eq_true rfl⟩) rfl rfl hP hS hl rfl rfl (Nat.le_of_ble_eq_true rfl) dX6_ofStory_73 (fun H locs hP hS => ?_)
      exact rIe X hP hS hf dX6_ofStory_76
    · have hf := if_f q0 hf
      by_cases q1 : a2 = 1
      · have hf := if_t q1 hf
        refine lv_tableIn (off := 59) (tgt := 77) hx hb dX6_ofStory_18 (by rw [q1]; decide) (by rw [q1]; decide) (by rw [q1]; rfl) (by decide) ?_
        refine lv_aload_n hx hb dX6_ofStory_77 rfl (lv_at hl 0 rfl) ?_
        refine fg_X6_44 X hP dX6_ofStory_78 ?_
        refine lv_iload_n hx hb dX6_ofStory_81 rfl (lv_at hl 1 rfl) ?_
        obtain ⟨x4, hc, hf⟩ := bi_some hf
        refine kVi (As := [.int a1]) (rest := []) (wd := (wC ad cI)) (q0 := 5) (ci := 5) X (c_X5_textsOf (l := l) (D := D) (σ := σ1) hN hc) (cw_X6_159 X.2.2.2.2.1 ⟨Nat.le_of_ble_eq_true rfl, Nat.le_of_ble_eq_true rfl⟩) rfl rfl hP hS hl rfl rfl (Nat.le_of_ble_eq_true rfl) dX6_ofStory_82 (fun H locs hP hS => ?_)
        exact rIe X hP hS hf dX6_ofStory_85
      · have hf := if_f q1 hf
        by_cases q2 : a2 = 2
        · have hf := if_t q2 hf
          refine lv_tableIn (off := 68) (tgt := 86) hx hb dX6_ofStory_18 (by rw [q2]; decide) (by rw [q2]; decide) (by rw [q2]; rfl) (by decide) ?_
          refine lv_aload_n hx hb dX6_ofStory_86 rfl (lv_at hl 0 rfl) ?_
          refine fg_X6_44 X hP dX6_ofStory_87 ?_
          refine lv_iload_n hx hb dX6_ofStory_90 rfl (lv_at hl 1 rfl) ?_
          obtain ⟨x5, hc, hf⟩ := bi_some hf
          refine kVi (As := [.int a1]) (rest := []) (wd := (wC ad cI)) (q0 := 5) (ci := 5) X (c_X5_wordsOf (l := l) (D := D) (σ := σ1) hN hc) (cw_X6_162 X.2.2.2.2.1 ⟨Nat.le_of_ble_eq_true rfl, Nat.le_of_ble_eq_true rfl⟩) rfl rfl hP hS hl rfl rfl (Nat.le_of_ble_eq_true rfl) dX6_ofStory_91 (fun H locs hP hS => ?_)
          exact rIe X hP hS hf dX6_ofStory_94
        · have hf := if_f q2 hf
          by_cases q3 : a2 = 3
          · have hf := if_t q3 hf
            refine lv_tableIn (off := 77) (tgt := 95) hx hb dX6_ofStory_18 (by rw [q3]; decide) (by rw [q3]; decide) (by rw [q3]; rfl) (by decide) ?_
            refine lv_aload_n hx hb dX6_ofStory_95 rfl (lv_at hl 0 rfl) ?_
            refine fg_X6_44 X hP dX6_ofStory_96 ?_
            refine lv_iload_n hx hb dX6_ofStory_99 rfl (lv_at hl 1 rfl) ?_
            obtain ⟨x6, hc, hf⟩ := bi_some hf
            refine kVi (As := [.int a1]) (rest := []) (wd := (wC ad cI)) (q0 := 5) (ci := 5) X (c_X5_picturesOf (l := l) (D := D) (σ := σ1) hN hc) (cw_X6_165 X.2.2.2.2.1 ⟨Nat.le_of_ble_eq_true rfl, Nat.le_of_ble_eq_true rfl⟩) rfl rfl hP hS hl rfl rfl (Nat.le_of_ble_eq_true rfl) dX6_ofStory_100 (fun H locs hP hS => ?_)
            exact rIe X hP hS hf dX6_ofStory_103
          · have hf := if_f q3 hf
            by_cases q4 : a2 = 4
            · have hf := if_t q4 hf
              refine lv_tableIn (off := 86) (tgt := 104) hx hb dX6_ofStory_18 (by rw [q4]; decide) (by rw [q4]; decide) (by rw [q4]; rfl) (by decide) ?_
              refine lv_aload_n hx hb dX6_ofStory_104 rfl (lv_at hl 0 rfl) ?_
              refine fg_X6_44 X hP dX6_ofStory_105 ?_
              refine lv_iload_n hx hb dX6_ofStory_108 rfl (lv_at hl 1 rfl) ?_
              obtain ⟨x7, hc, hf⟩ := bi_some hf
              refine kVi (As := [.int a1]) (rest := []) (wd := (wC ad cI)) (q0 := 5) (ci := 5) X (c_X5_joinedOf (l := l) (D := D) (σ := σ1) hN hc) (cw_X6_168 X.2.2.2.2.1 ⟨Nat.le_of_ble_eq_true rfl, Nat.le_of_ble_eq_true rfl⟩) rfl rfl hP hS hl rfl rfl (Nat.le_of_ble_eq_true rfl) dX6_ofStory_109 (fun H locs hP hS => ?_)
              exact rIe X hP hS hf dX6_ofStory_112
            · have hf := if_f q4 hf
              by_cases q5 : a2 = 5
              · have hf := if_t q5 hf
                refine lv_tableIn (off := 95) (tgt := 113) hx hb dX6_ofStory_18 (by rw [q5]; decide) (by rw [q5]; decide) (by rw [q5]; rfl) (by decide) ?_
                refine lv_aload_n hx hb dX6_ofStory_113 rfl (lv_at hl 0 rfl) ?_
                refine fg_X6_53 X hP dX6_ofStory_114 ?_
                refine fg_X6_171 X hP dX6_ofStory_117 ?_
                refine lv_iload_n hx hb dX6_ofStory_120 rfl (lv_at hl 1 rfl) ?_
                obtain ⟨hi, x8, e_x8, hf⟩ := ld_some hf
                refine ldr (t0 := 0) X hP wC_28 rfl hi e_x8 dX6_ofStory_121 ?_
                exact rIe X hP hS hf dX6_ofStory_122
              · have hf := if_f q5 hf
                by_cases q6 : a2 = 6
                · have hf := if_t q6 hf
                  refine lv_tableIn (off := 105) (tgt := 123) hx hb dX6_ofStory_18 (by rw [q6]; decide) (by rw [q6]; decide) (by rw [q6]; rfl) (by decide) ?_
                  refine lv_aload_n hx hb dX6_ofStory_123 rfl (lv_at hl 0 rfl) ?_
                  refine fg_X6_53 X hP dX6_ofStory_124 ?_
                  refine fg_X6_174 X hP dX6_ofStory_127 ?_
                  refine lv_iload_n hx hb dX6_ofStory_130 rfl (lv_at hl 1 rfl) ?_
                  obtain ⟨hi, x9, e_x9, hf⟩ := ld_some hf
                  refine ldr (t0 := 0) X hP wC_29 rfl hi e_x9 dX6_ofStory_131 ?_
                  exact rIe X hP hS hf dX6_ofStory_132
                · have hf := if_f q6 hf
                  by_cases q7 : a2 = 7
                  · have hf := if_t q7 hf
                    refine lv_tableIn (off := 115) (tgt := 133) hx hb dX6_ofStory_18 (by rw [q7]; decide) (by rw [q7]; decide) (by rw [q7]; rfl) (by decide) ?_
                    refine lv_aload_n hx hb dX6_ofStory_133 rfl (lv_at hl 0 rfl) ?_
                    refine fg_X6_53 X hP dX6_ofStory_134 ?_
                    refine fg_X6_177 X hP dX6_ofStory_137 ?_
                    refine lv_iload_n hx hb dX6_ofStory_140 rfl (lv_at hl 1 rfl) ?_
                    obtain ⟨hi, x10, e_x10, hf⟩ := ld_some hf
                    refine ldr (t0 := 0) X hP wC_30 rfl hi e_x10 dX6_ofStory_141 ?_
                    exact rIe X hP hS hf dX6_ofStory_142
                  · have hf := if_f q7 hf
                    by_cases q8 : a2 = 8
                    · have hf := if_t q8 hf
                      refine lv_tableIn (off := 125) (tgt := 143) hx hb dX6_ofStory_18 (by rw [q8]; decide) (by rw [q8]; decide) (by rw [q8]; rfl) (by decide) ?_
                      refine lv_aload_n hx hb dX6_ofStory_143 rfl (lv_at hl 0 rfl) ?_
                      refine fg_X6_53 X hP dX6_ofStory_144 ?_
                      refine lv_iload_n hx hb dX6_ofStory_147 rfl (lv_at hl 1 rfl) ?_
                      obtain ⟨x11, hc, hf⟩ := bi_some hf
                      refine kVi (As := [.int a1]) (rest := []) (wd := (wC ad cI)) (q0 := 6) (ci := 0) X (c_X0_isBroken (l := l) (D := D) (σ := σ1) hN hc) (cw_X6_180 X.2.2.2.2.1 ⟨Nat.le_of_ble_eq_true rfl, Nat.le_of_ble_eq_true rfl⟩) rfl rfl hP hS hl rfl rfl (Nat.le_of_ble_eq_true rfl) dX6_ofStory_148 (fun H locs hP hS => ?_)
                      refine lv_if_eq (tgt := 158) hx hb dX6_ofStory_151 (by decide) (fun hq => ?_) (fun hq => ?_)
                      · have hf := if_t hq hf
                        refine lv_iconst (v := 0) hx hb dX6_ofStory_158 rfl ?_
                        exact rIe X hP hS hf dX6_ofStory_159
                      · have hf := if_f hq hf
                        refine lv_iconst (v := 1) hx hb dX6_ofStory_154 rfl ?_
                        refine lv_goto (tgt := 159) hx hb dX6_ofStory_155 (by decide) ?_
                        exact rIe X hP hS hf dX6_ofStory_159
                    · have hf := if_f q8 hf
                      refine lv_tableOut (tgt := 160) hx hb dX6_ofStory_18 (sw_out 8 (by decide) (fun j hj => ?_)) (by decide) ?_
                      · match j, hj with
                        | 0, _ => exact q0
                        | 1, _ => exact q1
                        | 2, _ => exact q2
                        | 3, _ => exact q3
                        | 4, _ => exact q4
                        | 5, _ => exact q5
                        | 6, _ => exact q6
                        | 7, _ => exact q7
                        | 8, _ => exact q8
                        | j + 9, hj => exact absurd hj (by omega)
                      · refine lv_bipush (v := (-2)) hx hb dX6_ofStory_160 rfl ?_
                        exact rIe X hP hS hf dX6_ofStory_162
  · have hf := if_t hq hf
    refine lv_iconst (v := (-1)) hx hb dX6_ofStory_15 rfl ?_
    exact rIe X hP hS hf dX6_ofStory_16
set_option maxHeartbeats 4000000 in
set_option maxRecDepth 100000 in
theorem c_X6_ofStory {l : Launch} {D : va_G} {ad : Nat → Nat} {cI : ClassId} (hN : nj ad 34) {σ : St} {a1 a2 : Int32} {r : Int32} {σ' : St} (hf : f_X6_ofStory a1 a2 σ = some (r, σ')) : Met l yX6_ofStory (.code yX6_ofStory cX6_ofStory 3 (some .int) :: wsL_law) rm_X6_ofStory (va_Pc [.ref (ad 0), .int a1, .int a2] (pw D (wC ad cI) [(cI, .int)] σ)) (qI D (wC ad cI) (aw ad 34) r σ') 0 0 (aw ad 34) :=
  met_mk (by decide) rfl (Nat.le_of_ble_eq_true rfl) (fun p e s m below meth c X hP ls hl => b_X6_ofStory X hN hf hP va_S.rf hl)
set_option maxHeartbeats 4000000 in
set_option maxRecDepth 100000 in
theorem b_X6_text (X : cx p s m meth c args cX6_text 3 (some .int) RX6 D [(cI, .int)]) (hN : nj ad 34) {σ : St} {a1 a2 : Int32} {r : Int32} {σ' : St} (hf : f_X6_text a1 a2 σ = some (r, σ')) {H : Heap} {locs : List Loc} {ls : Array Slot} (hP : va_P D vwCl (wC ad cI σ) H) (hS : va_S (aw ad 34) s.heap H locs) (hl : lv_has ls 3 [(0, .ref (ad 0)), (1, .int a1), (2, .int a2)]) : W p l e rm_X6_text s m args below meth c H locs 0 0 (MQ below (qI D (wC ad cI) (aw ad 34) r σ') args s 0 0 (aw ad 34)) (F0 m 0 ls []) := by
  obtain ⟨hx, hb, hml, hown, hts, hr, hlk, hK⟩ := id X
  rw [f_X6_text] at hf
  refine lv_aload_n hx hb dX6_text_0 rfl (lv_at hl 0 rfl) ?_
  obtain ⟨σ1, hc, hf⟩ := bs_some hf
  refine kVv (As := []) (rest := []) (wd := (wC ad cI)) (q0 := 0) (ci := 6) X (c_X6_refresh (l := l) (D := D) (σ := σ) hN hc) (cw_X6_142 X.2.2.2.2.1 ⟨Nat.le_of_ble_eq_true rfl, Nat.le_of_ble_eq_true rfl⟩) rfl rfl hP hS hl rfl rfl (Nat.le_of_ble_eq_true rfl) dX6_text_1 (fun H locs hP hS => ?_)
  refine lv_aload_n hx hb dX6_text_4 rfl (lv_at hl 0 rfl) ?_
  refine fg_X6_44 X hP dX6_text_5 ?_
  refine lv_iload_n hx hb dX6_text_8 rfl (lv_at hl 1 rfl) ?_
  obtain ⟨x2, hc, hf⟩ := bi_some hf
  refine kVi (As := [.int a1]) (rest := []) (wd := (wC ad cI)) (q0 := 5) (ci := 5) X (c_X5_has (l := l) (D := D) (σ := σ1) hN hc) (cw_X6_154 X.2.2.2.2.1 ⟨Nat.le_of_ble_eq_true rfl, Nat.le_of_ble_eq_true rfl⟩) rfl rfl hP hS hl rfl rfl (Nat.le_of_ble_eq_true rfl) dX6_text_9 (fun H locs hP hS => ?_)
  refine lv_if_ne (tgt := 17) hx hb dX6_text_12 (by decide) (fun hq => ?_) (fun hq => ?_)
  · have hf := if_f hq hf
    refine lv_iload_n hx hb dX6_text_17 rfl (lv_at hl 2 rfl) ?_
    refine lv_bipush (v := 24) hx hb dX6_text_18 rfl ?_
    obtain ⟨x3, hc, hf⟩ := bi_some hf
    refine kSi (As := [.int a2, .int 24]) (rest := []) (wd := (wC ad cI)) X (c_X6_isBelow (l := l) (D := D) (σ := σ1) hN hc) (cw_X6_61 X.2.2.2.2.1 ⟨Nat.le_of_ble_eq_true rfl, Nat.le_of_ble_eq_true rfl⟩) hP hS hl rfl rfl (Nat.le_of_ble_eq_true rfl) dX6_text_20 (fun H locs hP hS => ?_)
    refine lv_if_ne (tgt := 29) hx hb dX6_text_23 (by decide) (fun hq => ?_) (fun hq => ?_)
    · have hf := if_f hq hf
      refine lv_aload_n hx hb dX6_text_29 rfl (lv_at hl 0 rfl) ?_
      refine fg_X6_44 X hP dX6_text_30 ?_
      refine lv_iload_n hx hb dX6_text_33 rfl (lv_at hl 1 rfl) ?_
      refine lv_iload_n hx hb dX6_text_34 rfl (lv_at hl 2 rfl) ?_
      obtain ⟨x4, hc, hf⟩ := bi_some hf
      refine kVi (As := [.int a1, .int a2]) (rest := []) (wd := (wC ad cI)) (q0 := 5) (ci := 5) X (c_X5_textAt (l := l) (D := D) (σ := σ1) hN hc) (cw_X6_183 X.2.2.2.2.1 ⟨Nat.le_of_ble_eq_true rfl, Nat.le_of_ble_eq_true rfl⟩) rfl rfl hP hS hl rfl rfl (Nat.le_of_ble_eq_true rfl) dX6_text_35 (fun H locs hP hS => ?_)
      exact rIe X hP hS hf dX6_text_38
    · have hf := if_t hq hf
      refine lv_bipush (v := (-2)) hx hb dX6_text_26 rfl ?_
      exact rIe X hP hS hf dX6_text_28
  · have hf := if_t hq hf
    refine lv_iconst (v := (-1)) hx hb dX6_text_15 rfl ?_
    exact rIe X hP hS hf dX6_text_16
set_option maxHeartbeats 4000000 in
set_option maxRecDepth 100000 in
theorem c_X6_text {l : Launch} {D : va_G} {ad : Nat → Nat} {cI : ClassId} (hN : nj ad 34) {σ : St} {a1 a2 : Int32} {r : Int32} {σ' : St} (hf : f_X6_text a1 a2 σ = some (r, σ')) : Met l yX6_text (.code yX6_text cX6_text 3 (some .int) :: wsL_law) rm_X6_text (va_Pc [.ref (ad 0), .int a1, .int a2] (pw D (wC ad cI) [(cI, .int)] σ)) (qI D (wC ad cI) (aw ad 34) r σ') 0 0 (aw ad 34) :=
  met_mk (by decide) rfl (Nat.le_of_ble_eq_true rfl) (fun p e s m below meth c X hP ls hl => b_X6_text X hN hf hP va_S.rf hl)
set_option maxHeartbeats 4000000 in
set_option maxRecDepth 100000 in
theorem b_X6_mark_B91 (X : cx p s m meth c args cX6_mark 6 (some .int) RX6 D [(cI, .int)]) (hN : nj ad 34) {σ : St} {a1 a2 a3 a4 t0 : Int32} {r : Int32} {σ' : St} (hf : f_X6_mark_B91 a1 a2 a3 a4 t0 σ = some (r, σ')) {H : Heap} {locs : List Loc} {ls : Array Slot} (hP : va_P D vwCl (wC ad cI σ) H) (hS : va_S (aw ad 34) s.heap H locs) (hl : lv_has ls 6 [(0, .ref (ad 0)), (1, .int a1), (2, .int a2), (3, .int a3), (4, .int a4)]) : W p l e rm_X6_mark s m args below meth c H locs 0 0 (MQ below (qI D (wC ad cI) (aw ad 34) r σ') args s 0 0 (aw ad 34)) (F0 m 91 ls [.int t0]) := by
  obtain ⟨hx, hb, hml, hown, hts, hr, hlk, hK⟩ := id X
  rw [f_X6_mark_B91] at hf
  refine lv_istore (lv' := [(5, .int t0), (0, .ref (ad 0)), (1, .int a1), (2, .int a2), (3, .int a3), (4, .int a4)]) hx hb dX6_mark_91 hl (by decide) rfl (fun ls hl => ?_)
  refine lv_aload_n hx hb dX6_mark_93 rfl (lv_at hl 1 rfl) ?_
  refine fg_X6_19 X hP dX6_mark_94 ?_
  refine lv_iload_n hx hb dX6_mark_97 rfl (lv_at hl 2 rfl) ?_
  refine lv_iload_n hx hb dX6_mark_98 rfl (lv_at hl 3 rfl) ?_
  refine lv_iload_n hx hb dX6_mark_99 rfl (lv_at hl 4 rfl) ?_
  refine lv_iload hx hb dX6_mark_100 (lv_at hl 5 rfl) ?_
  obtain ⟨σ1, hc, hf⟩ := bs_some hf
  refine kVv (As := [.int a1, .int a2, .int a3, .int a4]) (rest := []) (wd := (wC ad cI)) (q0 := 2) (ci := 3) X (c_X3_put (l := l) (D := D) (σ := σ) hN hc) (cw_X6_188 X.2.2.2.2.1 ⟨Nat.le_of_ble_eq_true rfl, Nat.le_of_ble_eq_true rfl⟩) rfl rfl hP hS hl rfl rfl (Nat.le_of_ble_eq_true rfl) dX6_mark_102 (fun H locs hP hS => ?_)
  refine lv_aload_n hx hb dX6_mark_105 rfl (lv_at hl 1 rfl) ?_
  refine lv_iconst (v := 1) hx hb dX6_mark_106 rfl ?_
  obtain ⟨hz, hf⟩ := gb_some hf
  obtain ⟨σ2, e_σ2, hf⟩ := sf_some hf
  refine fp_X6_57 X hN hP hS hz e_σ2 dX6_mark_107 (fun H locs hP hS => ?_)
  refine lv_iload hx hb dX6_mark_110 (lv_at hl 0 rfl) ?_
  exact rIe X hP hS hf dX6_mark_112
set_option maxHeartbeats 4000000 in
set_option maxRecDepth 100000 in
theorem b_X6_mark_B74 (X : cx p s m meth c args cX6_mark 6 (some .int) RX6 D [(cI, .int)]) (hN : nj ad 34) {σ : St} {a1 a2 a3 a4 : Int32} {r : Int32} {σ' : St} (hf : f_X6_mark_B74 a1 a2 a3 a4 σ = some (r, σ')) {H : Heap} {locs : List Loc} {ls : Array Slot} (hP : va_P D vwCl (wC ad cI σ) H) (hS : va_S (aw ad 34) s.heap H locs) (hl : lv_has ls 6 [(0, .ref (ad 0)), (1, .int a1), (2, .int a2), (3, .int a3), (4, .int a4)]) : W p l e rm_X6_mark s m args below meth c H locs 0 0 (MQ below (qI D (wC ad cI) (aw ad 34) r σ') args s 0 0 (aw ad 34)) (F0 m 74 ls []) := by
  obtain ⟨hx, hb, hml, hown, hts, hr, hlk, hK⟩ := id X
  rw [f_X6_mark_B74] at hf
  refine lv_aload_n hx hb dX6_mark_74 rfl (lv_at hl 0 rfl) ?_
  refine fg_X6_19 X hP dX6_mark_75 ?_
  refine lv_iload_n hx hb dX6_mark_78 rfl (lv_at hl 1 rfl) ?_
  refine lv_iload_n hx hb dX6_mark_79 rfl (lv_at hl 2 rfl) ?_
  obtain ⟨x1, hc, hf⟩ := bi_some hf
  refine kVi (As := [.int a1, .int a2]) (rest := []) (wd := (wC ad cI)) (q0 := 2) (ci := 3) X (c_X3_has (l := l) (D := D) (σ := σ) hN hc) (cw_X6_186 X.2.2.2.2.1 ⟨Nat.le_of_ble_eq_true rfl, Nat.le_of_ble_eq_true rfl⟩) rfl rfl hP hS hl rfl rfl (Nat.le_of_ble_eq_true rfl) dX6_mark_80 (fun H locs hP hS => ?_)
  refine lv_if_eq (tgt := 90) hx hb dX6_mark_83 (by decide) (fun hq => ?_) (fun hq => ?_)
  · have hf := if_t hq hf
    refine lv_iconst (v := 0) hx hb dX6_mark_90 rfl ?_
    exact b_X6_mark_B91 X hN hf hP hS (lv_sub hl [0, 1, 2, 3, 4] rfl)
  · have hf := if_f hq hf
    refine lv_iconst (v := 1) hx hb dX6_mark_86 rfl ?_
    refine lv_goto (tgt := 91) hx hb dX6_mark_87 (by decide) ?_
    exact b_X6_mark_B91 X hN hf hP hS (lv_sub hl [0, 1, 2, 3, 4] rfl)
set_option maxHeartbeats 4000000 in
set_option maxRecDepth 100000 in
theorem b_X6_mark (X : cx p s m meth c args cX6_mark 6 (some .int) RX6 D [(cI, .int)]) (hN : nj ad 34) {σ : St} {a1 a2 a3 a4 : Int32} {r : Int32} {σ' : St} (hf : f_X6_mark a1 a2 a3 a4 σ = some (r, σ')) {H : Heap} {locs : List Loc} {ls : Array Slot} (hP : va_P D vwCl (wC ad cI σ) H) (hS : va_S (aw ad 34) s.heap H locs) (hl : lv_has ls 6 [(0, .ref (ad 0)), (1, .int a1), (2, .int a2), (3, .int a3), (4, .int a4)]) : W p l e rm_X6_mark s m args below meth c H locs 0 0 (MQ below (qI D (wC ad cI) (aw ad 34) r σ') args s 0 0 (aw ad 34)) (F0 m 0 ls []) := by
  obtain ⟨hx, hb, hml, hown, hts, hr, hlk, hK⟩ := id X
  rw [f_X6_mark] at hf
  refine lv_aload_n hx hb dX6_mark_0 rfl (lv_at hl 0 rfl) ?_
  refine fg_X6_10 X hP dX6_mark_1 ?_
  refine lv_iload_n hx hb dX6_mark_4 rfl (lv_at hl 1 rfl) ?_
  obtain ⟨x1, hc, hf⟩ := bi_some hf
  refine kVi (As := [.int a1]) (rest := []) (wd := (wC ad cI)) (q0 := 1) (ci := 1) X (c_X1_has (l := l) (D := D) (σ := σ) hN hc) (cw_X6_85 X.2.2.2.2.1 ⟨Nat.le_of_ble_eq_true rfl, Nat.le_of_ble_eq_true rfl⟩) rfl rfl hP hS hl rfl rfl (Nat.le_of_ble_eq_true rfl) dX6_mark_5 (fun H locs hP hS => ?_)
  refine lv_if_ne (tgt := 13) hx hb dX6_mark_8 (by decide) (fun hq => ?_) (fun hq => ?_)
  · have hf := if_f hq hf
    refine lv_iload_n hx hb dX6_mark_13 rfl (lv_at hl 2 rfl) ?_
    refine lv_iconst (v := 2) hx hb dX6_mark_14 rfl ?_
    obtain ⟨x2, hc, hf⟩ := bi_some hf
    refine kSi (As := [.int a2, .int 2]) (rest := []) (wd := (wC ad cI)) X (c_X6_isBelow (l := l) (D := D) (σ := σ) hN hc) (cw_X6_61 X.2.2.2.2.1 ⟨Nat.le_of_ble_eq_true rfl, Nat.le_of_ble_eq_true rfl⟩) hP hS hl rfl rfl (Nat.le_of_ble_eq_true rfl) dX6_mark_15 (fun H locs hP hS => ?_)
    refine lv_if_eq (tgt := 39) hx hb dX6_mark_18 (by decide) (fun hq => ?_) (fun hq => ?_)
    · have hf := if_t hq hf
      refine lv_bipush (v := (-2)) hx hb dX6_mark_39 rfl ?_
      exact rIe X hP hS hf dX6_mark_41
    · have hf := if_f hq hf
      refine lv_iload_n hx hb dX6_mark_21 rfl (lv_at hl 3 rfl) ?_
      refine lv_iconst (v := 4) hx hb dX6_mark_22 rfl ?_
      obtain ⟨x3, hc, hf⟩ := bi_some hf
      refine kSi (As := [.int a3, .int 4]) (rest := []) (wd := (wC ad cI)) X (c_X6_isBelow (l := l) (D := D) (σ := σ) hN hc) (cw_X6_61 X.2.2.2.2.1 ⟨Nat.le_of_ble_eq_true rfl, Nat.le_of_ble_eq_true rfl⟩) hP hS hl rfl rfl (Nat.le_of_ble_eq_true rfl) dX6_mark_23 (fun H locs hP hS => ?_)
      refine lv_if_eq (tgt := 39) hx hb dX6_mark_26 (by decide) (fun hq => ?_) (fun hq => ?_)
      · have hf := if_t hq hf
        refine lv_bipush (v := (-2)) hx hb dX6_mark_39 rfl ?_
        exact rIe X hP hS hf dX6_mark_41
      · have hf := if_f hq hf
        refine lv_iload hx hb dX6_mark_29 (lv_at hl 4 rfl) ?_
        refine lv_bipush (v := 100) hx hb dX6_mark_31 rfl ?_
        obtain ⟨x4, hc, hf⟩ := bi_some hf
        refine kSi (As := [.int a4, .int 100]) (rest := []) (wd := (wC ad cI)) X (c_X6_isBelow (l := l) (D := D) (σ := σ) hN hc) (cw_X6_61 X.2.2.2.2.1 ⟨Nat.le_of_ble_eq_true rfl, Nat.le_of_ble_eq_true rfl⟩) hP hS hl rfl rfl (Nat.le_of_ble_eq_true rfl) dX6_mark_33 (fun H locs hP hS => ?_)
        refine lv_if_ne (tgt := 42) hx hb dX6_mark_36 (by decide) (fun hq => ?_) (fun hq => ?_)
        · have hf := if_f hq hf
          refine lv_aload_n hx hb dX6_mark_42 rfl (lv_at hl 0 rfl) ?_
          refine fg_X6_10 X hP dX6_mark_43 ?_
          refine fg_X6_89 X hP dX6_mark_46 ?_
          refine lv_iload_n hx hb dX6_mark_49 rfl (lv_at hl 1 rfl) ?_
          obtain ⟨hi, x5, e_x5, hf⟩ := ld_some hf
          refine ldr (t0 := 0) X hP wC_8 rfl hi e_x5 dX6_mark_50 ?_
          refine lv_iconst (v := 2) hx hb dX6_mark_51 rfl ?_
          refine lv_icmp_eq (tgt := 71) hx hb dX6_mark_52 (by decide) (fun hq => ?_) (fun hq => ?_)
          · have hf := if_t hq hf
            refine lv_bipush (v := (-3)) hx hb dX6_mark_71 rfl ?_
            exact rIe X hP hS hf dX6_mark_73
          · have hf := if_f hq hf
            refine lv_aload_n hx hb dX6_mark_55 rfl (lv_at hl 0 rfl) ?_
            refine fg_X6_10 X hP dX6_mark_56 ?_
            refine fg_X6_89 X hP dX6_mark_59 ?_
            refine lv_iload_n hx hb dX6_mark_62 rfl (lv_at hl 1 rfl) ?_
            obtain ⟨hi, x6, e_x6, hf⟩ := ld_some hf
            refine ldr (t0 := 0) X hP wC_8 rfl hi e_x6 dX6_mark_63 ?_
            refine lv_if_ne (tgt := 74) hx hb dX6_mark_64 (by decide) (fun hq => ?_) (fun hq => ?_)
            · have hf := if_f hq hf
              exact b_X6_mark_B74 X hN hf hP hS (lv_sub hl [0, 1, 2, 3, 4] rfl)
            · have hf := if_t hq hf
              refine lv_iload_n hx hb dX6_mark_67 rfl (lv_at hl 2 rfl) ?_
              refine lv_if_ne (tgt := 74) hx hb dX6_mark_68 (by decide) (fun hq => ?_) (fun hq => ?_)
              · have hf := if_f hq hf
                exact b_X6_mark_B74 X hN hf hP hS (lv_sub hl [0, 1, 2, 3, 4] rfl)
              · have hf := if_t hq hf
                refine lv_bipush (v := (-3)) hx hb dX6_mark_71 rfl ?_
                exact rIe X hP hS hf dX6_mark_73
        · have hf := if_t hq hf
          refine lv_bipush (v := (-2)) hx hb dX6_mark_39 rfl ?_
          exact rIe X hP hS hf dX6_mark_41
  · have hf := if_t hq hf
    refine lv_iconst (v := (-1)) hx hb dX6_mark_11 rfl ?_
    exact rIe X hP hS hf dX6_mark_12
set_option maxHeartbeats 4000000 in
set_option maxRecDepth 100000 in
theorem c_X6_mark {l : Launch} {D : va_G} {ad : Nat → Nat} {cI : ClassId} (hN : nj ad 34) {σ : St} {a1 a2 a3 a4 : Int32} {r : Int32} {σ' : St} (hf : f_X6_mark a1 a2 a3 a4 σ = some (r, σ')) : Met l yX6_mark (.code yX6_mark cX6_mark 6 (some .int) :: wsL_law) rm_X6_mark (va_Pc [.ref (ad 0), .int a1, .int a2, .int a3, .int a4] (pw D (wC ad cI) [(cI, .int)] σ)) (qI D (wC ad cI) (aw ad 34) r σ') 0 0 (aw ad 34) :=
  met_mk (by decide) rfl (Nat.le_of_ble_eq_true rfl) (fun p e s m below meth c X hP ls hl => b_X6_mark X hN hf hP va_S.rf hl)
set_option maxHeartbeats 4000000 in
set_option maxRecDepth 100000 in
theorem b_X6_unmark_B41 (X : cx p s m meth c args cX6_unmark 4 (some .int) RX6 D [(cI, .int)]) (hN : nj ad 34) {σ : St} {a1 a2 t0 : Int32} {r : Int32} {σ' : St} (hf : f_X6_unmark_B41 a1 a2 t0 σ = some (r, σ')) {H : Heap} {locs : List Loc} {ls : Array Slot} (hP : va_P D vwCl (wC ad cI σ) H) (hS : va_S (aw ad 34) s.heap H locs) (hl : lv_has ls 4 [(0, .ref (ad 0)), (1, .int a1), (2, .int a2)]) : W p l e rm_X6_unmark s m args below meth c H locs 0 0 (MQ below (qI D (wC ad cI) (aw ad 34) r σ') args s 0 0 (aw ad 34)) (F0 m 41 ls [.int t0]) := by
  obtain ⟨hx, hb, hml, hown, hts, hr, hlk, hK⟩ := id X
  rw [f_X6_unmark_B41] at hf
  refine lv_istore_n (lv' := [(3, .int t0), (0, .ref (ad 0)), (1, .int a1), (2, .int a2)]) hx hb dX6_unmark_41 rfl hl (by decide) rfl (fun ls hl => ?_)
  refine lv_aload_n hx hb dX6_unmark_42 rfl (lv_at hl 1 rfl) ?_
  refine fg_X6_19 X hP dX6_unmark_43 ?_
  refine lv_iload_n hx hb dX6_unmark_46 rfl (lv_at hl 2 rfl) ?_
  refine lv_iload_n hx hb dX6_unmark_47 rfl (lv_at hl 3 rfl) ?_
  obtain ⟨σ1, hc, hf⟩ := bs_some hf
  refine kVv (As := [.int a1, .int a2]) (rest := []) (wd := (wC ad cI)) (q0 := 2) (ci := 3) X (c_X3_forget (l := l) (D := D) (σ := σ) hN hc) (cw_X6_192 X.2.2.2.2.1 ⟨Nat.le_of_ble_eq_true rfl, Nat.le_of_ble_eq_true rfl⟩) rfl rfl hP hS hl rfl rfl (Nat.le_of_ble_eq_true rfl) dX6_unmark_48 (fun H locs hP hS => ?_)
  refine lv_aload_n hx hb dX6_unmark_51 rfl (lv_at hl 1 rfl) ?_
  refine lv_iconst (v := 1) hx hb dX6_unmark_52 rfl ?_
  obtain ⟨hz, hf⟩ := gb_some hf
  obtain ⟨σ2, e_σ2, hf⟩ := sf_some hf
  refine fp_X6_57 X hN hP hS hz e_σ2 dX6_unmark_53 (fun H locs hP hS => ?_)
  refine lv_iload_n hx hb dX6_unmark_56 rfl (lv_at hl 0 rfl) ?_
  exact rIe X hP hS hf dX6_unmark_57
set_option maxHeartbeats 4000000 in
set_option maxRecDepth 100000 in
theorem b_X6_unmark (X : cx p s m meth c args cX6_unmark 4 (some .int) RX6 D [(cI, .int)]) (hN : nj ad 34) {σ : St} {a1 a2 : Int32} {r : Int32} {σ' : St} (hf : f_X6_unmark a1 a2 σ = some (r, σ')) {H : Heap} {locs : List Loc} {ls : Array Slot} (hP : va_P D vwCl (wC ad cI σ) H) (hS : va_S (aw ad 34) s.heap H locs) (hl : lv_has ls 4 [(0, .ref (ad 0)), (1, .int a1), (2, .int a2)]) : W p l e rm_X6_unmark s m args below meth c H locs 0 0 (MQ below (qI D (wC ad cI) (aw ad 34) r σ') args s 0 0 (aw ad 34)) (F0 m 0 ls []) := by
  obtain ⟨hx, hb, hml, hown, hts, hr, hlk, hK⟩ := id X
  rw [f_X6_unmark] at hf
  refine lv_aload_n hx hb dX6_unmark_0 rfl (lv_at hl 0 rfl) ?_
  refine fg_X6_10 X hP dX6_unmark_1 ?_
  refine lv_iload_n hx hb dX6_unmark_4 rfl (lv_at hl 1 rfl) ?_
  obtain ⟨x1, hc, hf⟩ := bi_some hf
  refine kVi (As := [.int a1]) (rest := []) (wd := (wC ad cI)) (q0 := 1) (ci := 1) X (c_X1_has (l := l) (D := D) (σ := σ) hN hc) (cw_X6_85 X.2.2.2.2.1 ⟨Nat.le_of_ble_eq_true rfl, Nat.le_of_ble_eq_true rfl⟩) rfl rfl hP hS hl rfl rfl (Nat.le_of_ble_eq_true rfl) dX6_unmark_5 (fun H locs hP hS => ?_)
  refine lv_if_ne (tgt := 13) hx hb dX6_unmark_8 (by decide) (fun hq => ?_) (fun hq => ?_)
  · have hf := if_f hq hf
    refine lv_iload_n hx hb dX6_unmark_13 rfl (lv_at hl 2 rfl) ?_
    refine lv_iconst (v := 2) hx hb dX6_unmark_14 rfl ?_
    obtain ⟨x2, hc, hf⟩ := bi_some hf
    refine kSi (As := [.int a2, .int 2]) (rest := []) (wd := (wC ad cI)) X (c_X6_isBelow (l := l) (D := D) (σ := σ) hN hc) (cw_X6_61 X.2.2.2.2.1 ⟨Nat.le_of_ble_eq_true rfl, Nat.le_of_ble_eq_true rfl⟩) hP hS hl rfl rfl (Nat.le_of_ble_eq_true rfl) dX6_unmark_15 (fun H locs hP hS => ?_)
    refine lv_if_ne (tgt := 24) hx hb dX6_unmark_18 (by decide) (fun hq => ?_) (fun hq => ?_)
    · have hf := if_f hq hf
      refine lv_aload_n hx hb dX6_unmark_24 rfl (lv_at hl 0 rfl) ?_
      refine fg_X6_19 X hP dX6_unmark_25 ?_
      refine lv_iload_n hx hb dX6_unmark_28 rfl (lv_at hl 1 rfl) ?_
      refine lv_iload_n hx hb dX6_unmark_29 rfl (lv_at hl 2 rfl) ?_
      obtain ⟨x3, hc, hf⟩ := bi_some hf
      refine kVi (As := [.int a1, .int a2]) (rest := []) (wd := (wC ad cI)) (q0 := 2) (ci := 3) X (c_X3_has (l := l) (D := D) (σ := σ) hN hc) (cw_X6_186 X.2.2.2.2.1 ⟨Nat.le_of_ble_eq_true rfl, Nat.le_of_ble_eq_true rfl⟩) rfl rfl hP hS hl rfl rfl (Nat.le_of_ble_eq_true rfl) dX6_unmark_30 (fun H locs hP hS => ?_)
      refine lv_if_eq (tgt := 40) hx hb dX6_unmark_33 (by decide) (fun hq => ?_) (fun hq => ?_)
      · have hf := if_t hq hf
        refine lv_iconst (v := 0) hx hb dX6_unmark_40 rfl ?_
        exact b_X6_unmark_B41 X hN hf hP hS (lv_sub hl [0, 1, 2] rfl)
      · have hf := if_f hq hf
        refine lv_iconst (v := 1) hx hb dX6_unmark_36 rfl ?_
        refine lv_goto (tgt := 41) hx hb dX6_unmark_37 (by decide) ?_
        exact b_X6_unmark_B41 X hN hf hP hS (lv_sub hl [0, 1, 2] rfl)
    · have hf := if_t hq hf
      refine lv_bipush (v := (-2)) hx hb dX6_unmark_21 rfl ?_
      exact rIe X hP hS hf dX6_unmark_23
  · have hf := if_t hq hf
    refine lv_iconst (v := (-1)) hx hb dX6_unmark_11 rfl ?_
    exact rIe X hP hS hf dX6_unmark_12
set_option maxHeartbeats 4000000 in
set_option maxRecDepth 100000 in
theorem c_X6_unmark {l : Launch} {D : va_G} {ad : Nat → Nat} {cI : ClassId} (hN : nj ad 34) {σ : St} {a1 a2 : Int32} {r : Int32} {σ' : St} (hf : f_X6_unmark a1 a2 σ = some (r, σ')) : Met l yX6_unmark (.code yX6_unmark cX6_unmark 4 (some .int) :: wsL_law) rm_X6_unmark (va_Pc [.ref (ad 0), .int a1, .int a2] (pw D (wC ad cI) [(cI, .int)] σ)) (qI D (wC ad cI) (aw ad 34) r σ') 0 0 (aw ad 34) :=
  met_mk (by decide) rfl (Nat.le_of_ble_eq_true rfl) (fun p e s m below meth c X hP ls hl => b_X6_unmark X hN hf hP va_S.rf hl)
set_option maxHeartbeats 4000000 in
set_option maxRecDepth 100000 in
theorem b_X6_ofMark (X : cx p s m meth c args cX6_ofMark 4 (some .int) RX6 D [(cI, .int)]) (hN : nj ad 34) {σ : St} {a1 a2 a3 : Int32} {r : Int32} (hf : f_X6_ofMark a1 a2 a3 σ = some r) {H : Heap} {locs : List Loc} {ls : Array Slot} (hP : va_P D vwCl (wC ad cI σ) H) (hS : va_S (aw ad 34) s.heap H locs) (hl : lv_has ls 4 [(0, .ref (ad 0)), (1, .int a1), (2, .int a2), (3, .int a3)]) : W p l e rm_X6_ofMark s m args below meth c H locs 0 0 (MQ below (qI D (wC ad cI) (aw ad 34) r σ) args s 0 0 (aw ad 34)) (F0 m 0 ls []) := by
  obtain ⟨hx, hb, hml, hown, hts, hr, hlk, hK⟩ := id X
  rw [f_X6_ofMark] at hf
  refine lv_aload_n hx hb dX6_ofMark_0 rfl (lv_at hl 0 rfl) ?_
  refine fg_X6_10 X hP dX6_ofMark_1 ?_
  refine lv_iload_n hx hb dX6_ofMark_4 rfl (lv_at hl 1 rfl) ?_
  obtain ⟨x1, hc, hf⟩ := bi_some hf
  refine kVi (As := [.int a1]) (rest := []) (wd := (wC ad cI)) (q0 := 1) (ci := 1) X (c_X1_has (l := l) (D := D) (σ := σ) hN hc) (cw_X6_85 X.2.2.2.2.1 ⟨Nat.le_of_ble_eq_true rfl, Nat.le_of_ble_eq_true rfl⟩) rfl rfl hP hS hl rfl rfl (Nat.le_of_ble_eq_true rfl) dX6_ofMark_5 (fun H locs hP hS => ?_)
  refine lv_if_ne (tgt := 13) hx hb dX6_ofMark_8 (by decide) (fun hq => ?_) (fun hq => ?_)
  · have hf := if_f hq hf
    refine lv_iload_n hx hb dX6_ofMark_13 rfl (lv_at hl 2 rfl) ?_
    refine lv_iconst (v := 2) hx hb dX6_ofMark_14 rfl ?_
    obtain ⟨x2, hc, hf⟩ := bi_some hf
    refine kSi (As := [.int a2, .int 2]) (rest := []) (wd := (wC ad cI)) X (c_X6_isBelow (l := l) (D := D) (σ := σ) hN hc) (cw_X6_61 X.2.2.2.2.1 ⟨Nat.le_of_ble_eq_true rfl, Nat.le_of_ble_eq_true rfl⟩) hP hS hl rfl rfl (Nat.le_of_ble_eq_true rfl) dX6_ofMark_15 (fun H locs hP hS => ?_)
    refine lv_if_eq (tgt := 29) hx hb dX6_ofMark_18 (by decide) (fun hq => ?_) (fun hq => ?_)
    · have hf := if_t hq hf
      refine lv_bipush (v := (-2)) hx hb dX6_ofMark_29 rfl ?_
      exact rI X hP hS hf dX6_ofMark_31
    · have hf := if_f hq hf
      refine lv_iload_n hx hb dX6_ofMark_21 rfl (lv_at hl 3 rfl) ?_
      refine lv_iconst (v := 2) hx hb dX6_ofMark_22 rfl ?_
      obtain ⟨x3, hc, hf⟩ := bi_some hf
      refine kSi (As := [.int a3, .int 2]) (rest := []) (wd := (wC ad cI)) X (c_X6_isBelow (l := l) (D := D) (σ := σ) hN hc) (cw_X6_61 X.2.2.2.2.1 ⟨Nat.le_of_ble_eq_true rfl, Nat.le_of_ble_eq_true rfl⟩) hP hS hl rfl rfl (Nat.le_of_ble_eq_true rfl) dX6_ofMark_23 (fun H locs hP hS => ?_)
      refine lv_if_ne (tgt := 32) hx hb dX6_ofMark_26 (by decide) (fun hq => ?_) (fun hq => ?_)
      · have hf := if_f hq hf
        refine lv_iload_n hx hb dX6_ofMark_32 rfl (lv_at hl 3 rfl) ?_
        refine lv_if_ne (tgt := 48) hx hb dX6_ofMark_33 (by decide) (fun hq => ?_) (fun hq => ?_)
        · have hf := if_f hq hf
          refine lv_aload_n hx hb dX6_ofMark_48 rfl (lv_at hl 0 rfl) ?_
          refine fg_X6_19 X hP dX6_ofMark_49 ?_
          refine lv_iload_n hx hb dX6_ofMark_52 rfl (lv_at hl 1 rfl) ?_
          refine lv_iload_n hx hb dX6_ofMark_53 rfl (lv_at hl 2 rfl) ?_
          obtain ⟨x4, hc, hf⟩ := bi_some hf
          refine kVi (As := [.int a1, .int a2]) (rest := []) (wd := (wC ad cI)) (q0 := 2) (ci := 3) X (c_X3_wordOf (l := l) (D := D) (σ := σ) hN hc) (cw_X6_199 X.2.2.2.2.1 ⟨Nat.le_of_ble_eq_true rfl, Nat.le_of_ble_eq_true rfl⟩) rfl rfl hP hS hl rfl rfl (Nat.le_of_ble_eq_true rfl) dX6_ofMark_54 (fun H locs hP hS => ?_)
          exact rI X hP hS hf dX6_ofMark_57
        · have hf := if_t hq hf
          refine lv_aload_n hx hb dX6_ofMark_36 rfl (lv_at hl 0 rfl) ?_
          refine fg_X6_19 X hP dX6_ofMark_37 ?_
          refine lv_iload_n hx hb dX6_ofMark_40 rfl (lv_at hl 1 rfl) ?_
          refine lv_iload_n hx hb dX6_ofMark_41 rfl (lv_at hl 2 rfl) ?_
          obtain ⟨x5, hc, hf⟩ := bi_some hf
          refine kVi (As := [.int a1, .int a2]) (rest := []) (wd := (wC ad cI)) (q0 := 2) (ci := 3) X (c_X3_pageOf (l := l) (D := D) (σ := σ) hN hc) (cw_X6_196 X.2.2.2.2.1 ⟨Nat.le_of_ble_eq_true rfl, Nat.le_of_ble_eq_true rfl⟩) rfl rfl hP hS hl rfl rfl (Nat.le_of_ble_eq_true rfl) dX6_ofMark_42 (fun H locs hP hS => ?_)
          refine lv_goto (tgt := 57) hx hb dX6_ofMark_45 (by decide) ?_
          exact rI X hP hS hf dX6_ofMark_57
      · have hf := if_t hq hf
        refine lv_bipush (v := (-2)) hx hb dX6_ofMark_29 rfl ?_
        exact rI X hP hS hf dX6_ofMark_31
  · have hf := if_t hq hf
    refine lv_iconst (v := (-1)) hx hb dX6_ofMark_11 rfl ?_
    exact rI X hP hS hf dX6_ofMark_12
set_option maxHeartbeats 4000000 in
set_option maxRecDepth 100000 in
theorem c_X6_ofMark {l : Launch} {D : va_G} {ad : Nat → Nat} {cI : ClassId} (hN : nj ad 34) {σ : St} {a1 a2 a3 : Int32} {r : Int32} (hf : f_X6_ofMark a1 a2 a3 σ = some r) : Met l yX6_ofMark (.code yX6_ofMark cX6_ofMark 4 (some .int) :: wsL_law) rm_X6_ofMark (va_Pc [.ref (ad 0), .int a1, .int a2, .int a3] (pw D (wC ad cI) [(cI, .int)] σ)) (qI D (wC ad cI) (aw ad 34) r σ) 0 0 (aw ad 34) :=
  met_mk (by decide) rfl (Nat.le_of_ble_eq_true rfl) (fun p e s m below meth c X hP ls hl => b_X6_ofMark X hN hf hP va_S.rf hl)
end WALK
