section WALK
variable {p : Program} {l : Launch} {e : Env} {s : State} {m : MethodId} {args : Array Value} {below : List Frame} {meth : Method} {c : Code} {D : va_G} {ad : Nat → Nat} {cI cZ : ClassId}
set_option maxHeartbeats 4000000 in
set_option maxRecDepth 100000 in
theorem b_X7_unmark_B42 (X : cx p s m meth c args cX7_unmark 4 (some .int) RX7 D [(cI, .int), (cZ, .boolean)]) (hN : nj ad 30) {σ : St} {a1 a2 t0 : Int32} {r : Int32} {σ' : St} (hf : f_X7_unmark_B42 a1 a2 t0 σ = some (r, σ')) {H : Heap} {locs : List Loc} {ls : Array Slot} (hP : va_P D vwCl (wM ad cI cZ σ) H) (hS : va_S (aw ad 30) s.heap H locs) (hl : lv_has ls 4 [(0, .ref (ad 0)), (1, .int a1), (2, .int a2)]) : W p l e rm_X7_unmark s m args below meth c H locs 0 0 (MQ below (qI D (wM ad cI cZ) (aw ad 30) r σ') args s 0 0 (aw ad 30)) (F0 m 42 ls [.int t0]) := by
  obtain ⟨hx, hb, hml, hown, hts, hr, hlk, hK⟩ := id X
  rw [f_X7_unmark_B42] at hf
  refine lv_istore_n (lv' := [(3, .int t0), (0, .ref (ad 0)), (1, .int a1), (2, .int a2)]) hx hb dX7_unmark_42 rfl hl (by decide) rfl (fun ls hl => ?_)
  refine lv_aload_n hx hb dX7_unmark_43 rfl (lv_at hl 1 rfl) ?_
  refine fg_X7_31 X hP dX7_unmark_44 ?_
  refine lv_iconst (v := 2) hx hb dX7_unmark_47 rfl ?_
  refine lv_iload_n hx hb dX7_unmark_48 rfl (lv_at hl 2 rfl) ?_
  refine lv_imul hx hb dX7_unmark_49 ?_
  refine lv_iload_n hx hb dX7_unmark_50 rfl (lv_at hl 3 rfl) ?_
  refine lv_iadd hx hb dX7_unmark_51 ?_
  refine lv_bipush (v := (-9)) hx hb dX7_unmark_52 rfl ?_
  obtain ⟨hi, σ1, e_σ1, hf⟩ := sd_some hf
  refine str (t0 := 0) X hP (wM_D hN) hS wM_8 wM_s8 rfl hi e_σ1 dX7_unmark_54 (fun H locs hP hS => ?_)
  refine lv_iload_n hx hb dX7_unmark_55 rfl (lv_at hl 0 rfl) ?_
  exact rIe X hP hS hf dX7_unmark_56
set_option maxHeartbeats 4000000 in
set_option maxRecDepth 100000 in
theorem b_X7_unmark (X : cx p s m meth c args cX7_unmark 4 (some .int) RX7 D [(cI, .int), (cZ, .boolean)]) (hN : nj ad 30) {σ : St} {a1 a2 : Int32} {r : Int32} {σ' : St} (hf : f_X7_unmark a1 a2 σ = some (r, σ')) {H : Heap} {locs : List Loc} {ls : Array Slot} (hP : va_P D vwCl (wM ad cI cZ σ) H) (hS : va_S (aw ad 30) s.heap H locs) (hl : lv_has ls 4 [(0, .ref (ad 0)), (1, .int a1), (2, .int a2)]) : W p l e rm_X7_unmark s m args below meth c H locs 0 0 (MQ below (qI D (wM ad cI cZ) (aw ad 30) r σ') args s 0 0 (aw ad 30)) (F0 m 0 ls []) := by
  obtain ⟨hx, hb, hml, hown, hts, hr, hlk, hK⟩ := id X
  rw [f_X7_unmark] at hf
  refine lv_aload_n hx hb dX7_unmark_0 rfl (lv_at hl 0 rfl) ?_
  refine lv_iload_n hx hb dX7_unmark_1 rfl (lv_at hl 1 rfl) ?_
  obtain ⟨x1, hc, hf⟩ := bi_some hf
  refine kVi (As := [.int a1]) (rest := []) (wd := (wM ad cI cZ)) (q0 := 0) (ci := 7) X (c_X7_isBlock (l := l) (D := D) (σ := σ) hN hc) (cw_X7_110 X.2.2.2.2.1 ⟨Nat.le_of_ble_eq_true rfl, Nat.le_of_ble_eq_true rfl⟩) rfl rfl hP hS hl rfl rfl (Nat.le_of_ble_eq_true rfl) dX7_unmark_2 (fun H locs hP hS => ?_)
  refine lv_if_ne (tgt := 10) hx hb dX7_unmark_5 (by decide) (fun hq => ?_) (fun hq => ?_)
  · have hf := if_f hq hf
    refine lv_iload_n hx hb dX7_unmark_10 rfl (lv_at hl 2 rfl) ?_
    refine lv_iconst (v := 0) hx hb dX7_unmark_11 rfl ?_
    refine lv_iconst (v := 1) hx hb dX7_unmark_12 rfl ?_
    obtain ⟨x2, hc, hf⟩ := bi_some hf
    refine kSi (As := [.int a2, .int 0, .int 1]) (rest := []) (wd := (wM ad cI cZ)) X (c_X7_within (l := l) (D := D) (σ := σ) hN hc) (cw_X7_102 X.2.2.2.2.1 ⟨Nat.le_of_ble_eq_true rfl, Nat.le_of_ble_eq_true rfl⟩) hP hS hl rfl rfl (Nat.le_of_ble_eq_true rfl) dX7_unmark_13 (fun H locs hP hS => ?_)
    refine lv_if_ne (tgt := 22) hx hb dX7_unmark_16 (by decide) (fun hq => ?_) (fun hq => ?_)
    · have hf := if_f hq hf
      refine lv_aload_n hx hb dX7_unmark_22 rfl (lv_at hl 0 rfl) ?_
      refine fg_X7_31 X hP dX7_unmark_23 ?_
      refine lv_iconst (v := 2) hx hb dX7_unmark_26 rfl ?_
      refine lv_iload_n hx hb dX7_unmark_27 rfl (lv_at hl 1 rfl) ?_
      refine lv_imul hx hb dX7_unmark_28 ?_
      refine lv_iload_n hx hb dX7_unmark_29 rfl (lv_at hl 2 rfl) ?_
      refine lv_iadd hx hb dX7_unmark_30 ?_
      obtain ⟨hi, x3, e_x3, hf⟩ := ld_some hf
      refine ldr (t0 := 0) X hP wM_8 rfl hi e_x3 dX7_unmark_31 ?_
      refine lv_bipush (v := (-9)) hx hb dX7_unmark_32 rfl ?_
      refine lv_icmp_ne (tgt := 41) hx hb dX7_unmark_34 (by decide) (fun hq => ?_) (fun hq => ?_)
      · have hf := if_f hq hf
        refine lv_iconst (v := 1) hx hb dX7_unmark_41 rfl ?_
        exact b_X7_unmark_B42 X hN hf hP hS (lv_sub hl [0, 1, 2] rfl)
      · have hf := if_t hq hf
        refine lv_iconst (v := 0) hx hb dX7_unmark_37 rfl ?_
        refine lv_goto (tgt := 42) hx hb dX7_unmark_38 (by decide) ?_
        exact b_X7_unmark_B42 X hN hf hP hS (lv_sub hl [0, 1, 2] rfl)
    · have hf := if_t hq hf
      refine lv_bipush (v := (-2)) hx hb dX7_unmark_19 rfl ?_
      exact rIe X hP hS hf dX7_unmark_21
  · have hf := if_t hq hf
    refine lv_iconst (v := (-1)) hx hb dX7_unmark_8 rfl ?_
    exact rIe X hP hS hf dX7_unmark_9
set_option maxHeartbeats 4000000 in
set_option maxRecDepth 100000 in
theorem c_X7_unmark {l : Launch} {D : va_G} {ad : Nat → Nat} {cI cZ : ClassId} (hN : nj ad 30) {σ : St} {a1 a2 : Int32} {r : Int32} {σ' : St} (hf : f_X7_unmark a1 a2 σ = some (r, σ')) : Met l yX7_unmark (.code yX7_unmark cX7_unmark 4 (some .int) :: wsL_law) rm_X7_unmark (va_Pc [.ref (ad 0), .int a1, .int a2] (pw D (wM ad cI cZ) [(cI, .int), (cZ, .boolean)] σ)) (qI D (wM ad cI cZ) (aw ad 30) r σ') 0 0 (aw ad 30) :=
  met_mk (by decide) rfl (Nat.le_of_ble_eq_true rfl) (fun p e s m below meth c X hP ls hl => b_X7_unmark X hN hf hP va_S.rf hl)
set_option maxHeartbeats 4000000 in
set_option maxRecDepth 100000 in
theorem b_X7_ofMark (X : cx p s m meth c args cX7_ofMark 5 (some .int) RX7 D [(cI, .int), (cZ, .boolean)]) (hN : nj ad 30) {σ : St} {a1 a2 a3 : Int32} {r : Int32} (hf : f_X7_ofMark a1 a2 a3 σ = some r) {H : Heap} {locs : List Loc} {ls : Array Slot} (hP : va_P D vwCl (wM ad cI cZ σ) H) (hS : va_S (aw ad 30) s.heap H locs) (hl : lv_has ls 5 [(0, .ref (ad 0)), (1, .int a1), (2, .int a2), (3, .int a3)]) : W p l e rm_X7_ofMark s m args below meth c H locs 0 0 (MQ below (qI D (wM ad cI cZ) (aw ad 30) r σ) args s 0 0 (aw ad 30)) (F0 m 0 ls []) := by
  obtain ⟨hx, hb, hml, hown, hts, hr, hlk, hK⟩ := id X
  rw [f_X7_ofMark] at hf
  refine lv_aload_n hx hb dX7_ofMark_0 rfl (lv_at hl 0 rfl) ?_
  refine lv_iload_n hx hb dX7_ofMark_1 rfl (lv_at hl 1 rfl) ?_
  obtain ⟨x1, hc, hf⟩ := bi_some hf
  refine kVi (As := [.int a1]) (rest := []) (wd := (wM ad cI cZ)) (q0 := 0) (ci := 7) X (c_X7_isBlock (l := l) (D := D) (σ := σ) hN hc) (cw_X7_110 X.2.2.2.2.1 ⟨Nat.le_of_ble_eq_true rfl, Nat.le_of_ble_eq_true rfl⟩) rfl rfl hP hS hl rfl rfl (Nat.le_of_ble_eq_true rfl) dX7_ofMark_2 (fun H locs hP hS => ?_)
  refine lv_if_ne (tgt := 10) hx hb dX7_ofMark_5 (by decide) (fun hq => ?_) (fun hq => ?_)
  · have hf := if_f hq hf
    refine lv_iload_n hx hb dX7_ofMark_10 rfl (lv_at hl 2 rfl) ?_
    refine lv_iconst (v := 0) hx hb dX7_ofMark_11 rfl ?_
    refine lv_iconst (v := 1) hx hb dX7_ofMark_12 rfl ?_
    obtain ⟨x2, hc, hf⟩ := bi_some hf
    refine kSi (As := [.int a2, .int 0, .int 1]) (rest := []) (wd := (wM ad cI cZ)) X (c_X7_within (l := l) (D := D) (σ := σ) hN hc) (cw_X7_102 X.2.2.2.2.1 ⟨Nat.le_of_ble_eq_true rfl, Nat.le_of_ble_eq_true rfl⟩) hP hS hl rfl rfl (Nat.le_of_ble_eq_true rfl) dX7_ofMark_13 (fun H locs hP hS => ?_)
    refine lv_if_eq (tgt := 28) hx hb dX7_ofMark_16 (by decide) (fun hq => ?_) (fun hq => ?_)
    · have hf := if_t hq hf
      refine lv_bipush (v := (-2)) hx hb dX7_ofMark_28 rfl ?_
      exact rI X hP hS hf dX7_ofMark_30
    · have hf := if_f hq hf
      refine lv_iload_n hx hb dX7_ofMark_19 rfl (lv_at hl 3 rfl) ?_
      refine lv_iconst (v := 0) hx hb dX7_ofMark_20 rfl ?_
      refine lv_iconst (v := 1) hx hb dX7_ofMark_21 rfl ?_
      obtain ⟨x3, hc, hf⟩ := bi_some hf
      refine kSi (As := [.int a3, .int 0, .int 1]) (rest := []) (wd := (wM ad cI cZ)) X (c_X7_within (l := l) (D := D) (σ := σ) hN hc) (cw_X7_102 X.2.2.2.2.1 ⟨Nat.le_of_ble_eq_true rfl, Nat.le_of_ble_eq_true rfl⟩) hP hS hl rfl rfl (Nat.le_of_ble_eq_true rfl) dX7_ofMark_22 (fun H locs hP hS => ?_)
      refine lv_if_ne (tgt := 31) hx hb dX7_ofMark_25 (by decide) (fun hq => ?_) (fun hq => ?_)
      · have hf := if_f hq hf
        refine lv_aload_n hx hb dX7_ofMark_31 rfl (lv_at hl 0 rfl) ?_
        refine fg_X7_31 X hP dX7_ofMark_32 ?_
        refine lv_iconst (v := 2) hx hb dX7_ofMark_35 rfl ?_
        refine lv_iload_n hx hb dX7_ofMark_36 rfl (lv_at hl 1 rfl) ?_
        refine lv_imul hx hb dX7_ofMark_37 ?_
        refine lv_iload_n hx hb dX7_ofMark_38 rfl (lv_at hl 2 rfl) ?_
        refine lv_iadd hx hb dX7_ofMark_39 ?_
        obtain ⟨hi, x4, e_x4, hf⟩ := ld_some hf
        refine ldr (t0 := 0) X hP wM_8 rfl hi e_x4 dX7_ofMark_40 ?_
        refine lv_istore (lv' := [(4, .int x4), (0, .ref (ad 0)), (1, .int a1), (2, .int a2), (3, .int a3)]) hx hb dX7_ofMark_41 hl (by decide) rfl (fun ls hl => ?_)
        refine lv_iload hx hb dX7_ofMark_43 (lv_at hl 0 rfl) ?_
        refine lv_bipush (v := (-9)) hx hb dX7_ofMark_45 rfl ?_
        refine lv_icmp_eq (tgt := 54) hx hb dX7_ofMark_47 (by decide) (fun hq => ?_) (fun hq => ?_)
        · have hf := if_t hq hf
          refine lv_iload hx hb dX7_ofMark_54 (lv_at hl 0 rfl) ?_
          refine lv_goto (tgt := 69) hx hb dX7_ofMark_56 (by decide) ?_
          exact rI X hP hS hf dX7_ofMark_69
        · have hf := if_f hq hf
          refine lv_iload_n hx hb dX7_ofMark_50 rfl (lv_at hl 4 rfl) ?_
          refine lv_if_ne (tgt := 59) hx hb dX7_ofMark_51 (by decide) (fun hq => ?_) (fun hq => ?_)
          · have hf := if_f hq hf
            refine lv_aload_n hx hb dX7_ofMark_59 rfl (lv_at hl 1 rfl) ?_
            refine fg_X7_34 X hP dX7_ofMark_60 ?_
            refine lv_iconst (v := 2) hx hb dX7_ofMark_63 rfl ?_
            refine lv_iload_n hx hb dX7_ofMark_64 rfl (lv_at hl 2 rfl) ?_
            refine lv_imul hx hb dX7_ofMark_65 ?_
            refine lv_iload_n hx hb dX7_ofMark_66 rfl (lv_at hl 3 rfl) ?_
            refine lv_iadd hx hb dX7_ofMark_67 ?_
            obtain ⟨hi, x5, e_x5, hf⟩ := ld_some hf
            refine ldr (t0 := 0) X hP wM_9 rfl hi e_x5 dX7_ofMark_68 ?_
            exact rI X hP hS hf dX7_ofMark_69
          · have hf := if_t hq hf
            refine lv_iload hx hb dX7_ofMark_54 (lv_at hl 0 rfl) ?_
            refine lv_goto (tgt := 69) hx hb dX7_ofMark_56 (by decide) ?_
            exact rI X hP hS hf dX7_ofMark_69
      · have hf := if_t hq hf
        refine lv_bipush (v := (-2)) hx hb dX7_ofMark_28 rfl ?_
        exact rI X hP hS hf dX7_ofMark_30
  · have hf := if_t hq hf
    refine lv_iconst (v := (-1)) hx hb dX7_ofMark_8 rfl ?_
    exact rI X hP hS hf dX7_ofMark_9
set_option maxHeartbeats 4000000 in
set_option maxRecDepth 100000 in
theorem c_X7_ofMark {l : Launch} {D : va_G} {ad : Nat → Nat} {cI cZ : ClassId} (hN : nj ad 30) {σ : St} {a1 a2 a3 : Int32} {r : Int32} (hf : f_X7_ofMark a1 a2 a3 σ = some r) : Met l yX7_ofMark (.code yX7_ofMark cX7_ofMark 5 (some .int) :: wsL_law) rm_X7_ofMark (va_Pc [.ref (ad 0), .int a1, .int a2, .int a3] (pw D (wM ad cI cZ) [(cI, .int), (cZ, .boolean)] σ)) (qI D (wM ad cI cZ) (aw ad 30) r σ) 0 0 (aw ad 30) :=
  met_mk (by decide) rfl (Nat.le_of_ble_eq_true rfl) (fun p e s m below meth c X hP ls hl => b_X7_ofMark X hN hf hP va_S.rf hl)
set_option maxHeartbeats 4000000 in
set_option maxRecDepth 100000 in
theorem b_X7_onwardOf_L13 (X : cx p s m meth c args cX7_onwardOf 6 (some .int) RX7 D [(cI, .int), (cZ, .boolean)]) (hN : nj ad 30) : ∀ (n : Nat) {σ : St} {a2 a3 a4 : Int32} {r : Int32}, f_X7_onwardOf_L13 σ n a2 a3 a4 = some r → ∀ {H : Heap} {locs : List Loc} {ls : Array Slot}, va_P D vwCl (wM ad cI cZ σ) H → va_S (aw ad 30) s.heap H locs → lv_has ls 6 [(0, .ref (ad 0)), (2, .int a2), (3, .int a3), (4, .int a4)] → W p l e rm_X7_onwardOf s m args below meth c H locs 0 0 (MQ below (qI D (wM ad cI cZ) (aw ad 30) r σ) args s 0 0 (aw ad 30)) (F0 m 13 ls []) := by
  intro n
  induction n with
  | zero =>
    intro σ a2 a3 a4 r hf
    rw [f_X7_onwardOf_L13] at hf
    cases hf
  | succ n ih =>
    intro σ a2 a3 a4 r hf H locs ls hP hS hl
    obtain ⟨hx, hb, hml, hown, hts, hr, hlk, hK⟩ := id X
    rw [f_X7_onwardOf_L13] at hf
    refine lv_iload hx hb dX7_onwardOf_13 (lv_at hl 3 rfl) ?_
    refine lv_aload_n hx hb dX7_onwardOf_15 rfl (lv_at hl 0 rfl) ?_
    refine fg_X7_61 X hP dX7_onwardOf_16 ?_
    refine lv_iload_n hx hb dX7_onwardOf_19 rfl (lv_at hl 2 rfl) ?_
    obtain ⟨hi, x1, e_x1, hf⟩ := ld_some hf
    refine ldr (t0 := 0) X hP wM_18 rfl hi e_x1 dX7_onwardOf_20 ?_
    refine lv_icmp_ge (tgt := 65) hx hb dX7_onwardOf_21 (by decide) (fun hq => ?_) (fun hq => ?_)
    · have hf := if_t hq hf
      refine lv_iload_n hx hb dX7_onwardOf_65 rfl (lv_at hl 1 rfl) ?_
      exact rI X hP hS hf dX7_onwardOf_66
    · have hf := if_f hq hf
      refine lv_aload_n hx hb dX7_onwardOf_24 rfl (lv_at hl 0 rfl) ?_
      refine fg_X7_64 X hP dX7_onwardOf_25 ?_
      refine lv_bipush (v := 24) hx hb dX7_onwardOf_28 rfl ?_
      refine lv_iload_n hx hb dX7_onwardOf_30 rfl (lv_at hl 2 rfl) ?_
      refine lv_imul hx hb dX7_onwardOf_31 ?_
      refine lv_iload hx hb dX7_onwardOf_32 (lv_at hl 3 rfl) ?_
      refine lv_iadd hx hb dX7_onwardOf_34 ?_
      obtain ⟨hi, x2, e_x2, hf⟩ := ld_some hf
      refine ldr (t0 := 0) X hP wM_19 rfl hi e_x2 dX7_onwardOf_35 ?_
      refine lv_istore (lv' := [(5, .int x2), (0, .ref (ad 0)), (2, .int a2), (3, .int a3), (4, .int a4)]) hx hb dX7_onwardOf_36 hl (by decide) rfl (fun ls hl => ?_)
      refine lv_aload_n hx hb dX7_onwardOf_38 rfl (lv_at hl 1 rfl) ?_
      refine fg_X7_31 X hP dX7_onwardOf_39 ?_
      refine lv_iconst (v := 2) hx hb dX7_onwardOf_42 rfl ?_
      refine lv_iload hx hb dX7_onwardOf_43 (lv_at hl 0 rfl) ?_
      refine lv_imul hx hb dX7_onwardOf_45 ?_
      obtain ⟨hi, x3, e_x3, hf⟩ := ld_some hf
      refine ldr (t0 := 0) X hP wM_8 rfl hi e_x3 dX7_onwardOf_46 ?_
      refine lv_bipush (v := (-9)) hx hb dX7_onwardOf_47 rfl ?_
      refine lv_icmp_ne (tgt := 56) hx hb dX7_onwardOf_49 (by decide) (fun hq => ?_) (fun hq => ?_)
      · have hf := if_f hq hf
        refine lv_iload hx hb dX7_onwardOf_56 (lv_at hl 0 rfl) ?_
        refine lv_istore_n (lv' := [(2, .int x2), (5, .int x2), (0, .ref (ad 0)), (3, .int a3), (4, .int a4)]) hx hb dX7_onwardOf_58 rfl hl (by decide) rfl (fun ls hl => ?_)
        refine lv_iinc (v := (a4 + 1)) (lv' := [(4, .int (a4 + 1)), (2, .int x2), (5, .int x2), (0, .ref (ad 0)), (3, .int a3)]) hx hb dX7_onwardOf_59 hl (k := 4) rfl rfl (by decide) rfl (fun ls hl => ?_)
        refine lv_goto (tgt := 13) hx hb dX7_onwardOf_62 (by decide) ?_
        exact ih hf hP hS (lv_sub hl [3, 1, 4, 0] rfl)
      · have hf := if_t hq hf
        refine lv_iload_n hx hb dX7_onwardOf_52 rfl (lv_at hl 2 rfl) ?_
        refine lv_goto (tgt := 58) hx hb dX7_onwardOf_53 (by decide) ?_
        refine lv_istore_n (lv' := [(2, .int a2), (5, .int x2), (0, .ref (ad 0)), (3, .int a3), (4, .int a4)]) hx hb dX7_onwardOf_58 rfl hl (by decide) rfl (fun ls hl => ?_)
        refine lv_iinc (v := (a4 + 1)) (lv' := [(4, .int (a4 + 1)), (2, .int a2), (5, .int x2), (0, .ref (ad 0)), (3, .int a3)]) hx hb dX7_onwardOf_59 hl (k := 4) rfl rfl (by decide) rfl (fun ls hl => ?_)
        refine lv_goto (tgt := 13) hx hb dX7_onwardOf_62 (by decide) ?_
        exact ih hf hP hS (lv_sub hl [3, 1, 4, 0] rfl)
set_option maxHeartbeats 4000000 in
set_option maxRecDepth 100000 in
theorem b_X7_onwardOf (X : cx p s m meth c args cX7_onwardOf 6 (some .int) RX7 D [(cI, .int), (cZ, .boolean)]) (hN : nj ad 30) {σ : St} {a1 : Int32} {r : Int32} (hf : f_X7_onwardOf a1 σ = some r) {H : Heap} {locs : List Loc} {ls : Array Slot} (hP : va_P D vwCl (wM ad cI cZ σ) H) (hS : va_S (aw ad 30) s.heap H locs) (hl : lv_has ls 6 [(0, .ref (ad 0)), (1, .int a1)]) : W p l e rm_X7_onwardOf s m args below meth c H locs 0 0 (MQ below (qI D (wM ad cI cZ) (aw ad 30) r σ) args s 0 0 (aw ad 30)) (F0 m 0 ls []) := by
  obtain ⟨hx, hb, hml, hown, hts, hr, hlk, hK⟩ := id X
  rw [f_X7_onwardOf] at hf
  refine lv_bipush (v := (-9)) hx hb dX7_onwardOf_0 rfl ?_
  refine lv_istore_n (lv' := [(2, .int (-9)), (0, .ref (ad 0)), (1, .int a1)]) hx hb dX7_onwardOf_2 rfl hl (by decide) rfl (fun ls hl => ?_)
  refine lv_aload_n hx hb dX7_onwardOf_3 rfl (lv_at hl 1 rfl) ?_
  refine fg_X7_67 X hP dX7_onwardOf_4 ?_
  refine lv_iload_n hx hb dX7_onwardOf_7 rfl (lv_at hl 2 rfl) ?_
  obtain ⟨hi, x1, e_x1, hf⟩ := ld_some hf
  refine ldr (t0 := 0) X hP wM_20 rfl hi e_x1 dX7_onwardOf_8 ?_
  refine lv_istore_n (lv' := [(3, .int x1), (2, .int (-9)), (0, .ref (ad 0)), (1, .int a1)]) hx hb dX7_onwardOf_9 rfl hl (by decide) rfl (fun ls hl => ?_)
  refine lv_iconst (v := 0) hx hb dX7_onwardOf_10 rfl ?_
  refine lv_istore (lv' := [(4, .int 0), (3, .int x1), (2, .int (-9)), (0, .ref (ad 0)), (1, .int a1)]) hx hb dX7_onwardOf_11 hl (by decide) rfl (fun ls hl => ?_)
  exact b_X7_onwardOf_L13 X hN _ hf hP hS (lv_sub hl [3, 2, 1, 0] rfl)
set_option maxHeartbeats 4000000 in
set_option maxRecDepth 100000 in
theorem c_X7_onwardOf {l : Launch} {D : va_G} {ad : Nat → Nat} {cI cZ : ClassId} (hN : nj ad 30) {σ : St} {a1 : Int32} {r : Int32} (hf : f_X7_onwardOf a1 σ = some r) : Met l yX7_onwardOf (.code yX7_onwardOf cX7_onwardOf 6 (some .int) :: wsL_law) rm_X7_onwardOf (va_Pc [.ref (ad 0), .int a1] (pw D (wM ad cI cZ) [(cI, .int), (cZ, .boolean)] σ)) (qI D (wM ad cI cZ) (aw ad 30) r σ) 0 0 (aw ad 30) :=
  met_mk (by decide) rfl (Nat.le_of_ble_eq_true rfl) (fun p e s m below meth c X hP ls hl => b_X7_onwardOf X hN hf hP va_S.rf hl)
set_option maxHeartbeats 4000000 in
set_option maxRecDepth 100000 in
theorem b_X7_aimBy_B61 (X : cx p s m meth c args cX7_aimBy 4 (some .int) RX7 D [(cI, .int), (cZ, .boolean)]) (hN : nj ad 30) {σ : St} {a1 a2 t0 : Int32} {r : Int32} {K : Int32 → Int32 → Option Int32} (hk : ∀ {b1 b2 : Int32} {H : Heap} {locs : List Loc} {ls : Array Slot}, K b1 b2 = some r → va_P D vwCl (wM ad cI cZ σ) H → va_S (aw ad 30) s.heap H locs → lv_has ls 4 [(0, .ref (ad 0)), (1, .int b1), (2, .int b2)] → W p l e rm_X7_aimBy s m args below meth c H locs 0 0 (MQ below (qI D (wM ad cI cZ) (aw ad 30) r σ) args s 0 0 (aw ad 30)) (F0 m 2 ls [])) (hf : f_X7_aimBy_B61 σ K a1 a2 t0 = some r) {H : Heap} {locs : List Loc} {ls : Array Slot} (hP : va_P D vwCl (wM ad cI cZ σ) H) (hS : va_S (aw ad 30) s.heap H locs) (hl : lv_has ls 4 [(0, .ref (ad 0)), (1, .int a1), (2, .int a2)]) : W p l e rm_X7_aimBy s m args below meth c H locs 0 0 (MQ below (qI D (wM ad cI cZ) (aw ad 30) r σ) args s 0 0 (aw ad 30)) (F0 m 61 ls [.int t0]) := by
  obtain ⟨hx, hb, hml, hown, hts, hr, hlk, hK⟩ := id X
  rw [f_X7_aimBy_B61] at hf
  refine lv_istore_n (lv' := [(3, .int t0), (0, .ref (ad 0)), (1, .int a1), (2, .int a2)]) hx hb dX7_aimBy_61 rfl hl (by decide) rfl (fun ls hl => ?_)
  refine lv_iload_n hx hb dX7_aimBy_62 rfl (lv_at hl 0 rfl) ?_
  refine lv_if_eq (tgt := 94) hx hb dX7_aimBy_63 (by decide) (fun hq => ?_) (fun hq => ?_)
  · have hf := if_t hq hf
    refine lv_iinc (v := (a2 + 1)) (lv' := [(2, .int (a2 + 1)), (3, .int t0), (0, .ref (ad 0)), (1, .int a1)]) hx hb dX7_aimBy_94 hl (k := 3) rfl rfl (by decide) rfl (fun ls hl => ?_)
    refine lv_goto (tgt := 2) hx hb dX7_aimBy_97 (by decide) ?_
    exact hk hf hP hS (lv_sub hl [2, 3, 0] rfl)
  · have hf := if_f hq hf
    refine lv_aload_n hx hb dX7_aimBy_66 rfl (lv_at hl 1 rfl) ?_
    refine fg_X7_34 X hP dX7_aimBy_67 ?_
    refine lv_iconst (v := 2) hx hb dX7_aimBy_70 rfl ?_
    refine lv_iload_n hx hb dX7_aimBy_71 rfl (lv_at hl 3 rfl) ?_
    refine lv_imul hx hb dX7_aimBy_72 ?_
    refine lv_iconst (v := 1) hx hb dX7_aimBy_73 rfl ?_
    refine lv_iadd hx hb dX7_aimBy_74 ?_
    obtain ⟨hi, x1, e_x1, hf⟩ := ld_some hf
    refine ldr (t0 := 0) X hP wM_9 rfl hi e_x1 dX7_aimBy_75 ?_
    refine lv_aload_n hx hb dX7_aimBy_76 rfl (lv_at hl 1 rfl) ?_
    refine fg_X7_34 X hP dX7_aimBy_77 ?_
    refine lv_iconst (v := 2) hx hb dX7_aimBy_80 rfl ?_
    refine lv_iload_n hx hb dX7_aimBy_81 rfl (lv_at hl 2 rfl) ?_
    refine lv_imul hx hb dX7_aimBy_82 ?_
    obtain ⟨hi, x2, e_x2, hf⟩ := ld_some hf
    refine ldr (t0 := 0) X hP wM_9 rfl hi e_x2 dX7_aimBy_83 ?_
    refine lv_icmp_ne (tgt := 94) hx hb dX7_aimBy_84 (by decide) (fun hq => ?_) (fun hq => ?_)
    · have hf := if_f hq hf
      refine lv_iinc (v := (a2 + 1)) (lv' := [(2, .int (a2 + 1)), (3, .int t0), (0, .ref (ad 0)), (1, .int a1)]) hx hb dX7_aimBy_94 hl (k := 3) rfl rfl (by decide) rfl (fun ls hl => ?_)
      refine lv_goto (tgt := 2) hx hb dX7_aimBy_97 (by decide) ?_
      exact hk hf hP hS (lv_sub hl [2, 3, 0] rfl)
    · have hf := if_t hq hf
      refine lv_aload_n hx hb dX7_aimBy_87 rfl (lv_at hl 1 rfl) ?_
      refine fg_X7_70 X hP dX7_aimBy_88 ?_
      refine lv_iload_n hx hb dX7_aimBy_91 rfl (lv_at hl 3 rfl) ?_
      obtain ⟨hi, x3, e_x3, hf⟩ := ld_some hf
      refine ldr (t0 := 0) X hP wM_21 rfl hi e_x3 dX7_aimBy_92 ?_
      exact rI X hP hS hf dX7_aimBy_93
set_option maxHeartbeats 4000000 in
set_option maxRecDepth 100000 in
theorem b_X7_aimBy_B60 (X : cx p s m meth c args cX7_aimBy 4 (some .int) RX7 D [(cI, .int), (cZ, .boolean)]) (hN : nj ad 30) {σ : St} {a1 a2 : Int32} {r : Int32} {K : Int32 → Int32 → Option Int32} (hk : ∀ {b1 b2 : Int32} {H : Heap} {locs : List Loc} {ls : Array Slot}, K b1 b2 = some r → va_P D vwCl (wM ad cI cZ σ) H → va_S (aw ad 30) s.heap H locs → lv_has ls 4 [(0, .ref (ad 0)), (1, .int b1), (2, .int b2)] → W p l e rm_X7_aimBy s m args below meth c H locs 0 0 (MQ below (qI D (wM ad cI cZ) (aw ad 30) r σ) args s 0 0 (aw ad 30)) (F0 m 2 ls [])) (hf : f_X7_aimBy_B60 σ K a1 a2 = some r) {H : Heap} {locs : List Loc} {ls : Array Slot} (hP : va_P D vwCl (wM ad cI cZ σ) H) (hS : va_S (aw ad 30) s.heap H locs) (hl : lv_has ls 4 [(0, .ref (ad 0)), (1, .int a1), (2, .int a2)]) : W p l e rm_X7_aimBy s m args below meth c H locs 0 0 (MQ below (qI D (wM ad cI cZ) (aw ad 30) r σ) args s 0 0 (aw ad 30)) (F0 m 60 ls []) := by
  obtain ⟨hx, hb, hml, hown, hts, hr, hlk, hK⟩ := id X
  rw [f_X7_aimBy_B60] at hf
  refine lv_iconst (v := 0) hx hb dX7_aimBy_60 rfl ?_
  exact b_X7_aimBy_B61 X hN hk hf hP hS (lv_sub hl [0, 1, 2] rfl)
set_option maxHeartbeats 4000000 in
set_option maxRecDepth 100000 in
theorem b_X7_aimBy_L2 (X : cx p s m meth c args cX7_aimBy 4 (some .int) RX7 D [(cI, .int), (cZ, .boolean)]) (hN : nj ad 30) : ∀ (n : Nat) {σ : St} {a1 a2 : Int32} {r : Int32}, f_X7_aimBy_L2 σ n a1 a2 = some r → ∀ {H : Heap} {locs : List Loc} {ls : Array Slot}, va_P D vwCl (wM ad cI cZ σ) H → va_S (aw ad 30) s.heap H locs → lv_has ls 4 [(0, .ref (ad 0)), (1, .int a1), (2, .int a2)] → W p l e rm_X7_aimBy s m args below meth c H locs 0 0 (MQ below (qI D (wM ad cI cZ) (aw ad 30) r σ) args s 0 0 (aw ad 30)) (F0 m 2 ls []) := by
  intro n
  induction n with
  | zero =>
    intro σ a1 a2 r hf
    rw [f_X7_aimBy_L2] at hf
    cases hf
  | succ n ih =>
    intro σ a1 a2 r hf H locs ls hP hS hl
    obtain ⟨hx, hb, hml, hown, hts, hr, hlk, hK⟩ := id X
    rw [f_X7_aimBy_L2] at hf
    refine lv_iload_n hx hb dX7_aimBy_2 rfl (lv_at hl 2 rfl) ?_
    refine lv_aload_n hx hb dX7_aimBy_3 rfl (lv_at hl 0 rfl) ?_
    obtain ⟨x1, e_x1, hf⟩ := lf_some hf
    refine fg_X7_98 X hP e_x1 dX7_aimBy_4 ?_
    refine lv_icmp_ge (tgt := 100) hx hb dX7_aimBy_7 (by decide) (fun hq => ?_) (fun hq => ?_)
    · have hf := if_t hq hf
      refine lv_bipush (v := (-9)) hx hb dX7_aimBy_100 rfl ?_
      exact rI X hP hS hf dX7_aimBy_102
    · have hf := if_f hq hf
      refine lv_aload_n hx hb dX7_aimBy_10 rfl (lv_at hl 0 rfl) ?_
      refine fg_X7_13 X hP dX7_aimBy_11 ?_
      refine lv_iload_n hx hb dX7_aimBy_14 rfl (lv_at hl 2 rfl) ?_
      obtain ⟨hi, x2, e_x2, hf⟩ := ld_some hf
      refine ldr (t0 := 0) X hP wM_2 rfl hi e_x2 dX7_aimBy_15 ?_
      refine lv_iconst (v := 2) hx hb dX7_aimBy_16 rfl ?_
      refine lv_icmp_eq (tgt := 60) hx hb dX7_aimBy_17 (by decide) (fun hq => ?_) (fun hq => ?_)
      · have hf := if_t hq hf
        exact b_X7_aimBy_B60 X hN (fun hf hP hS hl => ih hf hP hS hl) hf hP hS (lv_sub hl [0, 1, 2] rfl)
      · have hf := if_f hq hf
        refine lv_aload_n hx hb dX7_aimBy_20 rfl (lv_at hl 0 rfl) ?_
        refine fg_X7_7 X hP dX7_aimBy_21 ?_
        refine lv_iload_n hx hb dX7_aimBy_24 rfl (lv_at hl 2 rfl) ?_
        obtain ⟨hi, x3, e_x3, hf⟩ := ld_some hf
        refine ldr (t0 := 0) X hP wM_1 rfl hi e_x3 dX7_aimBy_25 ?_
        refine lv_aload_n hx hb dX7_aimBy_26 rfl (lv_at hl 0 rfl) ?_
        refine fg_X7_31 X hP dX7_aimBy_27 ?_
        refine lv_iconst (v := 2) hx hb dX7_aimBy_30 rfl ?_
        refine lv_iload_n hx hb dX7_aimBy_31 rfl (lv_at hl 1 rfl) ?_
        refine lv_imul hx hb dX7_aimBy_32 ?_
        obtain ⟨hi, x4, e_x4, hf⟩ := ld_some hf
        refine ldr (t0 := 0) X hP wM_8 rfl hi e_x4 dX7_aimBy_33 ?_
        refine lv_icmp_ne (tgt := 60) hx hb dX7_aimBy_34 (by decide) (fun hq => ?_) (fun hq => ?_)
        · have hf := if_f hq hf
          exact b_X7_aimBy_B60 X hN (fun hf hP hS hl => ih hf hP hS hl) hf hP hS (lv_sub hl [0, 1, 2] rfl)
        · have hf := if_t hq hf
          refine lv_aload_n hx hb dX7_aimBy_37 rfl (lv_at hl 0 rfl) ?_
          refine fg_X7_31 X hP dX7_aimBy_38 ?_
          refine lv_iconst (v := 2) hx hb dX7_aimBy_41 rfl ?_
          refine lv_iload_n hx hb dX7_aimBy_42 rfl (lv_at hl 2 rfl) ?_
          refine lv_imul hx hb dX7_aimBy_43 ?_
          refine lv_iconst (v := 1) hx hb dX7_aimBy_44 rfl ?_
          refine lv_iadd hx hb dX7_aimBy_45 ?_
          obtain ⟨hi, x5, e_x5, hf⟩ := ld_some hf
          refine ldr (t0 := 0) X hP wM_8 rfl hi e_x5 dX7_aimBy_46 ?_
          refine lv_aload_n hx hb dX7_aimBy_47 rfl (lv_at hl 0 rfl) ?_
          refine fg_X7_7 X hP dX7_aimBy_48 ?_
          refine lv_iload_n hx hb dX7_aimBy_51 rfl (lv_at hl 1 rfl) ?_
          obtain ⟨hi, x6, e_x6, hf⟩ := ld_some hf
          refine ldr (t0 := 0) X hP wM_1 rfl hi e_x6 dX7_aimBy_52 ?_
          refine lv_icmp_ne (tgt := 60) hx hb dX7_aimBy_53 (by decide) (fun hq => ?_) (fun hq => ?_)
          · have hf := if_f hq hf
            exact b_X7_aimBy_B60 X hN (fun hf hP hS hl => ih hf hP hS hl) hf hP hS (lv_sub hl [0, 1, 2] rfl)
          · have hf := if_t hq hf
            refine lv_iconst (v := 1) hx hb dX7_aimBy_56 rfl ?_
            refine lv_goto (tgt := 61) hx hb dX7_aimBy_57 (by decide) ?_
            exact b_X7_aimBy_B61 X hN (fun hf hP hS hl => ih hf hP hS hl) hf hP hS (lv_sub hl [0, 1, 2] rfl)
set_option maxHeartbeats 4000000 in
set_option maxRecDepth 100000 in
theorem b_X7_aimBy (X : cx p s m meth c args cX7_aimBy 4 (some .int) RX7 D [(cI, .int), (cZ, .boolean)]) (hN : nj ad 30) {σ : St} {a1 : Int32} {r : Int32} (hf : f_X7_aimBy a1 σ = some r) {H : Heap} {locs : List Loc} {ls : Array Slot} (hP : va_P D vwCl (wM ad cI cZ σ) H) (hS : va_S (aw ad 30) s.heap H locs) (hl : lv_has ls 4 [(0, .ref (ad 0)), (1, .int a1)]) : W p l e rm_X7_aimBy s m args below meth c H locs 0 0 (MQ below (qI D (wM ad cI cZ) (aw ad 30) r σ) args s 0 0 (aw ad 30)) (F0 m 0 ls []) := by
  obtain ⟨hx, hb, hml, hown, hts, hr, hlk, hK⟩ := id X
  rw [f_X7_aimBy] at hf
  refine lv_iconst (v := 0) hx hb dX7_aimBy_0 rfl ?_
  refine lv_istore_n (lv' := [(2, .int 0), (0, .ref (ad 0)), (1, .int a1)]) hx hb dX7_aimBy_1 rfl hl (by decide) rfl (fun ls hl => ?_)
  exact b_X7_aimBy_L2 X hN _ hf hP hS (lv_sub hl [1, 2, 0] rfl)
set_option maxHeartbeats 4000000 in
set_option maxRecDepth 100000 in
theorem c_X7_aimBy {l : Launch} {D : va_G} {ad : Nat → Nat} {cI cZ : ClassId} (hN : nj ad 30) {σ : St} {a1 : Int32} {r : Int32} (hf : f_X7_aimBy a1 σ = some r) : Met l yX7_aimBy (.code yX7_aimBy cX7_aimBy 4 (some .int) :: wsL_law) rm_X7_aimBy (va_Pc [.ref (ad 0), .int a1] (pw D (wM ad cI cZ) [(cI, .int), (cZ, .boolean)] σ)) (qI D (wM ad cI cZ) (aw ad 30) r σ) 0 0 (aw ad 30) :=
  met_mk (by decide) rfl (Nat.le_of_ble_eq_true rfl) (fun p e s m below meth c X hP ls hl => b_X7_aimBy X hN hf hP va_S.rf hl)
set_option maxHeartbeats 4000000 in
set_option maxRecDepth 100000 in
theorem b_X7_lays_B82 (X : cx p s m meth c args cX7_lays 4 none RX7 D [(cI, .int), (cZ, .boolean)]) (hN : nj ad 30) {σ : St} {σ' : St} (hf : f_X7_lays_B82 σ = some σ') {H : Heap} {locs : List Loc} {ls : Array Slot} (hP : va_P D vwCl (wM ad cI cZ σ) H) (hS : va_S (aw ad 30) s.heap H locs) (hl : lv_has ls 4 [(0, .ref (ad 0))]) : W p l e rm_X7_lays s m args below meth c H locs 0 0 (MQ below (qV D (wM ad cI cZ) (aw ad 30) σ') args s 0 0 (aw ad 30)) (F0 m 82 ls []) := by
  obtain ⟨hx, hb, hml, hown, hts, hr, hlk, hK⟩ := id X
  rw [f_X7_lays_B82] at hf
  refine lv_aload_n hx hb dX7_lays_82 rfl (lv_at hl 0 rfl) ?_
  refine lv_dup hx hb dX7_lays_83 rfl ?_
  obtain ⟨x1, e_x1, hf⟩ := lf_some hf
  refine fg_X7_162 X hP e_x1 dX7_lays_84 ?_
  refine lv_iconst (v := 1) hx hb dX7_lays_87 rfl ?_
  refine lv_iadd hx hb dX7_lays_88 ?_
  obtain ⟨σ2, e_σ2, hf⟩ := sf_some hf
  refine fp_X7_162 X hN hP hS e_σ2 dX7_lays_89 (fun H locs hP hS => ?_)
  refine lv_aload_n hx hb dX7_lays_92 rfl (lv_at hl 0 rfl) ?_
  refine fg_X7_86 X hP dX7_lays_93 ?_
  refine lv_aload_n hx hb dX7_lays_96 rfl (lv_at hl 0 rfl) ?_
  obtain ⟨x3, e_x3, hf⟩ := lf_some hf
  refine fg_X7_162 X hP e_x3 dX7_lays_97 ?_
  refine lv_aload_n hx hb dX7_lays_100 rfl (lv_at hl 0 rfl) ?_
  obtain ⟨x4, e_x4, hf⟩ := lf_some hf
  refine fg_X7_165 X hP e_x4 dX7_lays_101 ?_
  obtain ⟨hi, σ5, e_σ5, hf⟩ := sd_some hf
  refine str (t0 := 0) X hP (wM_D hN) hS wM_26 wM_s26 rfl hi e_σ5 dX7_lays_104 (fun H locs hP hS => ?_)
  exact rVe X hP hS hf dX7_lays_105
set_option maxHeartbeats 4000000 in
set_option maxRecDepth 100000 in
theorem b_X7_lays_L25 (X : cx p s m meth c args cX7_lays 4 none RX7 D [(cI, .int), (cZ, .boolean)]) (hN : nj ad 30) : ∀ (n : Nat) {σ : St} {a3 : Int32} {σ' : St}, f_X7_lays_L25 n a3 σ = some σ' → ∀ {H : Heap} {locs : List Loc} {ls : Array Slot}, va_P D vwCl (wM ad cI cZ σ) H → va_S (aw ad 30) s.heap H locs → lv_has ls 4 [(0, .ref (ad 0)), (3, .int a3)] → W p l e rm_X7_lays s m args below meth c H locs 0 0 (MQ below (qV D (wM ad cI cZ) (aw ad 30) σ') args s 0 0 (aw ad 30)) (F0 m 25 ls []) := by
  intro n
  induction n with
  | zero =>
    intro σ a3 σ' hf
    rw [f_X7_lays_L25] at hf
    cases hf
  | succ n ih =>
    intro σ a3 σ' hf H locs ls hP hS hl
    obtain ⟨hx, hb, hml, hown, hts, hr, hlk, hK⟩ := id X
    rw [f_X7_lays_L25] at hf
    refine lv_iload_n hx hb dX7_lays_25 rfl (lv_at hl 1 rfl) ?_
    refine lv_bipush (v := (-9)) hx hb dX7_lays_26 rfl ?_
    refine lv_icmp_eq (tgt := 82) hx hb dX7_lays_28 (by decide) (fun hq => ?_) (fun hq => ?_)
    · have hf := if_t hq hf
      exact b_X7_lays_B82 X hN hf hP hS (lv_sub hl [0] rfl)
    · have hf := if_f hq hf
      refine lv_aload_n hx hb dX7_lays_31 rfl (lv_at hl 0 rfl) ?_
      refine fg_X7_95 X hP dX7_lays_32 ?_
      refine lv_iload_n hx hb dX7_lays_35 rfl (lv_at hl 1 rfl) ?_
      obtain ⟨hi, x1, e_x1, hf⟩ := ld_some hf
      refine ldr (t0 := 0) X hP wM_29 rfl hi e_x1 dX7_lays_36 ?_
      refine lv_bipush (v := (-9)) hx hb dX7_lays_37 rfl ?_
      refine lv_icmp_ne (tgt := 82) hx hb dX7_lays_39 (by decide) (fun hq => ?_) (fun hq => ?_)
      · have hf := if_f hq hf
        exact b_X7_lays_B82 X hN hf hP hS (lv_sub hl [0] rfl)
      · have hf := if_t hq hf
        refine lv_aload_n hx hb dX7_lays_42 rfl (lv_at hl 0 rfl) ?_
        refine fg_X7_95 X hP dX7_lays_43 ?_
        refine lv_iload_n hx hb dX7_lays_46 rfl (lv_at hl 1 rfl) ?_
        refine lv_aload_n hx hb dX7_lays_47 rfl (lv_at hl 0 rfl) ?_
        obtain ⟨x2, e_x2, hf⟩ := lf_some hf
        refine fg_X7_162 X hP e_x2 dX7_lays_48 ?_
        obtain ⟨hi, σ3, e_σ3, hf⟩ := sd_some hf
        refine str (t0 := 0) X hP (wM_D hN) hS wM_29 wM_s29 rfl hi e_σ3 dX7_lays_51 (fun H locs hP hS => ?_)
        refine lv_aload_n hx hb dX7_lays_52 rfl (lv_at hl 0 rfl) ?_
        refine fg_X7_92 X hP dX7_lays_53 ?_
        refine lv_aload_n hx hb dX7_lays_56 rfl (lv_at hl 0 rfl) ?_
        obtain ⟨x4, e_x4, hf⟩ := lf_some hf
        refine fg_X7_165 X hP e_x4 dX7_lays_57 ?_
        refine lv_iload_n hx hb dX7_lays_60 rfl (lv_at hl 1 rfl) ?_
        obtain ⟨hi, σ5, e_σ5, hf⟩ := sd_some hf
        refine str (t0 := 0) X hP (wM_D hN) hS wM_28 wM_s28 rfl hi e_σ5 dX7_lays_61 (fun H locs hP hS => ?_)
        refine lv_aload_n hx hb dX7_lays_62 rfl (lv_at hl 0 rfl) ?_
        refine lv_dup hx hb dX7_lays_63 rfl ?_
        obtain ⟨x6, e_x6, hf⟩ := lf_some hf
        refine fg_X7_165 X hP e_x6 dX7_lays_64 ?_
        refine lv_iconst (v := 1) hx hb dX7_lays_67 rfl ?_
        refine lv_iadd hx hb dX7_lays_68 ?_
        obtain ⟨σ7, e_σ7, hf⟩ := sf_some hf
        refine fp_X7_165 X hN hP hS e_σ7 dX7_lays_69 (fun H locs hP hS => ?_)
        refine lv_aload_n hx hb dX7_lays_72 rfl (lv_at hl 0 rfl) ?_
        refine fg_X7_80 X hP dX7_lays_73 ?_
        refine lv_iload_n hx hb dX7_lays_76 rfl (lv_at hl 1 rfl) ?_
        obtain ⟨hi, x8, e_x8, hf⟩ := ld_some hf
        refine ldr (t0 := 0) X hP wM_24 rfl hi e_x8 dX7_lays_77 ?_
        refine lv_istore_n (lv' := [(3, .int x8), (0, .ref (ad 0))]) hx hb dX7_lays_78 rfl hl (by decide) rfl (fun ls hl => ?_)
        refine lv_goto (tgt := 25) hx hb dX7_lays_79 (by decide) ?_
        exact ih hf hP hS (lv_sub hl [1, 0] rfl)
set_option maxHeartbeats 4000000 in
set_option maxRecDepth 100000 in
theorem b_X7_lays (X : cx p s m meth c args cX7_lays 4 none RX7 D [(cI, .int), (cZ, .boolean)]) (hN : nj ad 30) {σ : St} {a1 a2 : Int32} {σ' : St} (hf : f_X7_lays a1 a2 σ = some σ') {H : Heap} {locs : List Loc} {ls : Array Slot} (hP : va_P D vwCl (wM ad cI cZ σ) H) (hS : va_S (aw ad 30) s.heap H locs) (hl : lv_has ls 4 [(0, .ref (ad 0)), (1, .int a1), (2, .int a2)]) : W p l e rm_X7_lays s m args below meth c H locs 0 0 (MQ below (qV D (wM ad cI cZ) (aw ad 30) σ') args s 0 0 (aw ad 30)) (F0 m 0 ls []) := by
  obtain ⟨hx, hb, hml, hown, hts, hr, hlk, hK⟩ := id X
  rw [f_X7_lays] at hf
  refine lv_aload_n hx hb dX7_lays_0 rfl (lv_at hl 0 rfl) ?_
  refine fg_X7_86 X hP dX7_lays_1 ?_
  refine lv_aload_n hx hb dX7_lays_4 rfl (lv_at hl 0 rfl) ?_
  obtain ⟨x1, e_x1, hf⟩ := lf_some hf
  refine fg_X7_162 X hP e_x1 dX7_lays_5 ?_
  refine lv_aload_n hx hb dX7_lays_8 rfl (lv_at hl 0 rfl) ?_
  obtain ⟨x2, e_x2, hf⟩ := lf_some hf
  refine fg_X7_165 X hP e_x2 dX7_lays_9 ?_
  obtain ⟨hi, σ3, e_σ3, hf⟩ := sd_some hf
  refine str (t0 := 0) X hP (wM_D hN) hS wM_26 wM_s26 rfl hi e_σ3 dX7_lays_12 (fun H locs hP hS => ?_)
  refine lv_aload_n hx hb dX7_lays_13 rfl (lv_at hl 0 rfl) ?_
  refine fg_X7_89 X hP dX7_lays_14 ?_
  refine lv_aload_n hx hb dX7_lays_17 rfl (lv_at hl 0 rfl) ?_
  obtain ⟨x4, e_x4, hf⟩ := lf_some hf
  refine fg_X7_162 X hP e_x4 dX7_lays_18 ?_
  refine lv_iload_n hx hb dX7_lays_21 rfl (lv_at hl 2 rfl) ?_
  obtain ⟨hz, hf⟩ := gb_some hf
  obtain ⟨hi, σ5, e_σ5, hf⟩ := sd_some hf
  refine stz (t0 := 1) X hP (wM_D hN) hS wM_27 wM_s27 rfl hz hi e_σ5 dX7_lays_22 (fun H locs hP hS => ?_)
  refine lv_iload_n hx hb dX7_lays_23 rfl (lv_at hl 1 rfl) ?_
  refine lv_istore_n (lv' := [(3, .int a1), (0, .ref (ad 0)), (1, .int a1), (2, .int a2)]) hx hb dX7_lays_24 rfl hl (by decide) rfl (fun ls hl => ?_)
  exact b_X7_lays_L25 X hN _ hf hP hS (lv_sub hl [1, 0] rfl)
set_option maxHeartbeats 4000000 in
set_option maxRecDepth 100000 in
theorem c_X7_lays {l : Launch} {D : va_G} {ad : Nat → Nat} {cI cZ : ClassId} (hN : nj ad 30) {σ : St} {a1 a2 : Int32} {σ' : St} (hf : f_X7_lays a1 a2 σ = some σ') : Met l yX7_lays (.code yX7_lays cX7_lays 4 none :: wsL_law) rm_X7_lays (va_Pc [.ref (ad 0), .int a1, .int a2] (pw D (wM ad cI cZ) [(cI, .int), (cZ, .boolean)] σ)) (qV D (wM ad cI cZ) (aw ad 30) σ') 0 0 (aw ad 30) :=
  met_mk (by decide) rfl (Nat.le_of_ble_eq_true rfl) (fun p e s m below meth c X hP ls hl => b_X7_lays X hN hf hP va_S.rf hl)
set_option maxHeartbeats 4000000 in
set_option maxRecDepth 100000 in
theorem b_X7_findArticles_L193 (X : cx p s m meth c args cX7_findArticles 3 none RX7 D [(cI, .int), (cZ, .boolean)]) (hN : nj ad 30) : ∀ (n : Nat) {σ : St} {a1 : Int32} {σ' : St}, f_X7_findArticles_L193 n a1 σ = some σ' → ∀ {H : Heap} {locs : List Loc} {ls : Array Slot}, va_P D vwCl (wM ad cI cZ σ) H → va_S (aw ad 30) s.heap H locs → lv_has ls 3 [(0, .ref (ad 0)), (1, .int a1)] → W p l e rm_X7_findArticles s m args below meth c H locs 0 0 (MQ below (qV D (wM ad cI cZ) (aw ad 30) σ') args s 0 0 (aw ad 30)) (F0 m 193 ls []) := by
  intro n
  induction n with
  | zero =>
    intro σ a1 σ' hf
    rw [f_X7_findArticles_L193] at hf
    cases hf
  | succ n ih =>
    intro σ a1 σ' hf H locs ls hP hS hl
    obtain ⟨hx, hb, hml, hown, hts, hr, hlk, hK⟩ := id X
    rw [f_X7_findArticles_L193] at hf
    refine lv_iload_n hx hb dX7_findArticles_193 rfl (lv_at hl 1 rfl) ?_
    refine lv_aload_n hx hb dX7_findArticles_194 rfl (lv_at hl 0 rfl) ?_
    obtain ⟨x1, e_x1, hf⟩ := lf_some hf
    refine fg_X7_153 X hP e_x1 dX7_findArticles_195 ?_
    refine lv_icmp_ge (tgt := 224) hx hb dX7_findArticles_198 (by decide) (fun hq => ?_) (fun hq => ?_)
    · have hf := if_t hq hf
      exact rVe X hP hS hf dX7_findArticles_224
    · have hf := if_f hq hf
      refine lv_aload_n hx hb dX7_findArticles_201 rfl (lv_at hl 0 rfl) ?_
      refine fg_X7_95 X hP dX7_findArticles_202 ?_
      refine lv_iload_n hx hb dX7_findArticles_205 rfl (lv_at hl 1 rfl) ?_
      obtain ⟨hi, x2, e_x2, hf⟩ := ld_some hf
      refine ldr (t0 := 0) X hP wM_29 rfl hi e_x2 dX7_findArticles_206 ?_
      refine lv_bipush (v := (-9)) hx hb dX7_findArticles_207 rfl ?_
      refine lv_icmp_ne (tgt := 218) hx hb dX7_findArticles_209 (by decide) (fun hq => ?_) (fun hq => ?_)
      · have hf := if_f hq hf
        refine lv_iinc (v := (a1 + 1)) (lv' := [(1, .int (a1 + 1)), (0, .ref (ad 0))]) hx hb dX7_findArticles_218 hl (k := 1) rfl rfl (by decide) rfl (fun ls hl => ?_)
        refine lv_goto (tgt := 193) hx hb dX7_findArticles_221 (by decide) ?_
        exact ih hf hP hS (lv_sub hl [1, 0] rfl)
      · have hf := if_t hq hf
        refine lv_aload_n hx hb dX7_findArticles_212 rfl (lv_at hl 0 rfl) ?_
        refine lv_iload_n hx hb dX7_findArticles_213 rfl (lv_at hl 1 rfl) ?_
        refine lv_iconst (v := 1) hx hb dX7_findArticles_214 rfl ?_
        obtain ⟨σ3, hc, hf⟩ := bs_some hf
        refine kVv (As := [.int a1, .int 1]) (rest := []) (wd := (wM ad cI cZ)) (q0 := 0) (ci := 7) X (c_X7_lays (l := l) (D := D) (σ := σ) hN hc) (cw_X7_174 X.2.2.2.2.1 ⟨Nat.le_of_ble_eq_true rfl, Nat.le_of_ble_eq_true rfl⟩) rfl rfl hP hS hl rfl rfl (Nat.le_of_ble_eq_true rfl) dX7_findArticles_215 (fun H locs hP hS => ?_)
        refine lv_iinc (v := (a1 + 1)) (lv' := [(1, .int (a1 + 1)), (0, .ref (ad 0))]) hx hb dX7_findArticles_218 hl (k := 1) rfl rfl (by decide) rfl (fun ls hl => ?_)
        refine lv_goto (tgt := 193) hx hb dX7_findArticles_221 (by decide) ?_
        exact ih hf hP hS (lv_sub hl [1, 0] rfl)
set_option maxHeartbeats 4000000 in
set_option maxRecDepth 100000 in
theorem b_X7_findArticles_L160 (X : cx p s m meth c args cX7_findArticles 3 none RX7 D [(cI, .int), (cZ, .boolean)]) (hN : nj ad 30) : ∀ (n : Nat) {σ : St} {a1 : Int32} {σ' : St}, f_X7_findArticles_L160 n a1 σ = some σ' → ∀ {H : Heap} {locs : List Loc} {ls : Array Slot}, va_P D vwCl (wM ad cI cZ σ) H → va_S (aw ad 30) s.heap H locs → lv_has ls 3 [(0, .ref (ad 0)), (1, .int a1)] → W p l e rm_X7_findArticles s m args below meth c H locs 0 0 (MQ below (qV D (wM ad cI cZ) (aw ad 30) σ') args s 0 0 (aw ad 30)) (F0 m 160 ls []) := by
  intro n
  induction n with
  | zero =>
    intro σ a1 σ' hf
    rw [f_X7_findArticles_L160] at hf
    cases hf
  | succ n ih =>
    intro σ a1 σ' hf H locs ls hP hS hl
    obtain ⟨hx, hb, hml, hown, hts, hr, hlk, hK⟩ := id X
    rw [f_X7_findArticles_L160] at hf
    refine lv_iload_n hx hb dX7_findArticles_160 rfl (lv_at hl 1 rfl) ?_
    refine lv_aload_n hx hb dX7_findArticles_161 rfl (lv_at hl 0 rfl) ?_
    obtain ⟨x1, e_x1, hf⟩ := lf_some hf
    refine fg_X7_153 X hP e_x1 dX7_findArticles_162 ?_
    refine lv_icmp_ge (tgt := 191) hx hb dX7_findArticles_165 (by decide) (fun hq => ?_) (fun hq => ?_)
    · have hf := if_t hq hf
      refine lv_iconst (v := 0) hx hb dX7_findArticles_191 rfl ?_
      refine lv_istore_n (lv' := [(1, .int 0), (0, .ref (ad 0))]) hx hb dX7_findArticles_192 rfl hl (by decide) rfl (fun ls hl => ?_)
      exact b_X7_findArticles_L193 X hN _ hf hP hS (lv_sub hl [1, 0] rfl)
    · have hf := if_f hq hf
      refine lv_aload_n hx hb dX7_findArticles_168 rfl (lv_at hl 0 rfl) ?_
      refine fg_X7_83 X hP dX7_findArticles_169 ?_
      refine lv_iload_n hx hb dX7_findArticles_172 rfl (lv_at hl 1 rfl) ?_
      obtain ⟨hi, x2, e_x2, hf⟩ := ld_some hf
      refine ldr (t0 := 0) X hP wM_25 rfl hi e_x2 dX7_findArticles_173 ?_
      refine lv_bipush (v := (-9)) hx hb dX7_findArticles_174 rfl ?_
      refine lv_icmp_ne (tgt := 185) hx hb dX7_findArticles_176 (by decide) (fun hq => ?_) (fun hq => ?_)
      · have hf := if_f hq hf
        refine lv_iinc (v := (a1 + 1)) (lv' := [(1, .int (a1 + 1)), (0, .ref (ad 0))]) hx hb dX7_findArticles_185 hl (k := 1) rfl rfl (by decide) rfl (fun ls hl => ?_)
        refine lv_goto (tgt := 160) hx hb dX7_findArticles_188 (by decide) ?_
        exact ih hf hP hS (lv_sub hl [1, 0] rfl)
      · have hf := if_t hq hf
        refine lv_aload_n hx hb dX7_findArticles_179 rfl (lv_at hl 0 rfl) ?_
        refine lv_iload_n hx hb dX7_findArticles_180 rfl (lv_at hl 1 rfl) ?_
        refine lv_iconst (v := 0) hx hb dX7_findArticles_181 rfl ?_
        obtain ⟨σ3, hc, hf⟩ := bs_some hf
        refine kVv (As := [.int a1, .int 0]) (rest := []) (wd := (wM ad cI cZ)) (q0 := 0) (ci := 7) X (c_X7_lays (l := l) (D := D) (σ := σ) hN hc) (cw_X7_174 X.2.2.2.2.1 ⟨Nat.le_of_ble_eq_true rfl, Nat.le_of_ble_eq_true rfl⟩) rfl rfl hP hS hl rfl rfl (Nat.le_of_ble_eq_true rfl) dX7_findArticles_182 (fun H locs hP hS => ?_)
        refine lv_iinc (v := (a1 + 1)) (lv' := [(1, .int (a1 + 1)), (0, .ref (ad 0))]) hx hb dX7_findArticles_185 hl (k := 1) rfl rfl (by decide) rfl (fun ls hl => ?_)
        refine lv_goto (tgt := 160) hx hb dX7_findArticles_188 (by decide) ?_
        exact ih hf hP hS (lv_sub hl [1, 0] rfl)
set_option maxHeartbeats 4000000 in
set_option maxRecDepth 100000 in
theorem b_X7_findArticles_L91 (X : cx p s m meth c args cX7_findArticles 3 none RX7 D [(cI, .int), (cZ, .boolean)]) (hN : nj ad 30) : ∀ (n : Nat) {σ : St} {a1 : Int32} {σ' : St}, f_X7_findArticles_L91 n a1 σ = some σ' → ∀ {H : Heap} {locs : List Loc} {ls : Array Slot}, va_P D vwCl (wM ad cI cZ σ) H → va_S (aw ad 30) s.heap H locs → lv_has ls 3 [(0, .ref (ad 0)), (1, .int a1)] → W p l e rm_X7_findArticles s m args below meth c H locs 0 0 (MQ below (qV D (wM ad cI cZ) (aw ad 30) σ') args s 0 0 (aw ad 30)) (F0 m 91 ls []) := by
  intro n
  induction n with
  | zero =>
    intro σ a1 σ' hf
    rw [f_X7_findArticles_L91] at hf
    cases hf
  | succ n ih =>
    intro σ a1 σ' hf H locs ls hP hS hl
    obtain ⟨hx, hb, hml, hown, hts, hr, hlk, hK⟩ := id X
    rw [f_X7_findArticles_L91] at hf
    refine lv_iload_n hx hb dX7_findArticles_91 rfl (lv_at hl 1 rfl) ?_
    refine lv_aload_n hx hb dX7_findArticles_92 rfl (lv_at hl 0 rfl) ?_
    obtain ⟨x1, e_x1, hf⟩ := lf_some hf
    refine fg_X7_153 X hP e_x1 dX7_findArticles_93 ?_
    refine lv_icmp_ge (tgt := 148) hx hb dX7_findArticles_96 (by decide) (fun hq => ?_) (fun hq => ?_)
    · have hf := if_t hq hf
      refine lv_aload_n hx hb dX7_findArticles_148 rfl (lv_at hl 0 rfl) ?_
      refine lv_iconst (v := 0) hx hb dX7_findArticles_149 rfl ?_
      obtain ⟨σ2, e_σ2, hf⟩ := sf_some hf
      refine fp_X7_162 X hN hP hS e_σ2 dX7_findArticles_150 (fun H locs hP hS => ?_)
      refine lv_aload_n hx hb dX7_findArticles_153 rfl (lv_at hl 0 rfl) ?_
      refine lv_iconst (v := 0) hx hb dX7_findArticles_154 rfl ?_
      obtain ⟨σ3, e_σ3, hf⟩ := sf_some hf
      refine fp_X7_165 X hN hP hS e_σ3 dX7_findArticles_155 (fun H locs hP hS => ?_)
      refine lv_iconst (v := 0) hx hb dX7_findArticles_158 rfl ?_
      refine lv_istore_n (lv' := [(1, .int 0), (0, .ref (ad 0))]) hx hb dX7_findArticles_159 rfl hl (by decide) rfl (fun ls hl => ?_)
      exact b_X7_findArticles_L160 X hN _ hf hP hS (lv_sub hl [1, 0] rfl)
    · have hf := if_f hq hf
      refine lv_aload_n hx hb dX7_findArticles_99 rfl (lv_at hl 0 rfl) ?_
      refine fg_X7_77 X hP dX7_findArticles_100 ?_
      refine lv_iload_n hx hb dX7_findArticles_103 rfl (lv_at hl 1 rfl) ?_
      obtain ⟨hi, x4, e_x4, hf⟩ := ld_some hf
      refine ldr (t0 := 0) X hP wM_23 rfl hi e_x4 dX7_findArticles_104 ?_
      refine lv_istore_n (lv' := [(2, .int x4), (0, .ref (ad 0)), (1, .int a1)]) hx hb dX7_findArticles_105 rfl hl (by decide) rfl (fun ls hl => ?_)
      refine lv_iload_n hx hb dX7_findArticles_106 rfl (lv_at hl 0 rfl) ?_
      refine lv_bipush (v := (-9)) hx hb dX7_findArticles_107 rfl ?_
      refine lv_icmp_eq (tgt := 142) hx hb dX7_findArticles_109 (by decide) (fun hq => ?_) (fun hq => ?_)
      · have hf := if_t hq hf
        refine lv_iinc (v := (a1 + 1)) (lv' := [(1, .int (a1 + 1)), (2, .int x4), (0, .ref (ad 0))]) hx hb dX7_findArticles_142 hl (k := 2) rfl rfl (by decide) rfl (fun ls hl => ?_)
        refine lv_goto (tgt := 91) hx hb dX7_findArticles_145 (by decide) ?_
        exact ih hf hP hS (lv_sub hl [2, 0] rfl)
      · have hf := if_f hq hf
        refine lv_iload_n hx hb dX7_findArticles_112 rfl (lv_at hl 0 rfl) ?_
        refine lv_iload_n hx hb dX7_findArticles_113 rfl (lv_at hl 2 rfl) ?_
        refine lv_icmp_eq (tgt := 142) hx hb dX7_findArticles_114 (by decide) (fun hq => ?_) (fun hq => ?_)
        · have hf := if_t hq hf
          refine lv_iinc (v := (a1 + 1)) (lv' := [(1, .int (a1 + 1)), (2, .int x4), (0, .ref (ad 0))]) hx hb dX7_findArticles_142 hl (k := 2) rfl rfl (by decide) rfl (fun ls hl => ?_)
          refine lv_goto (tgt := 91) hx hb dX7_findArticles_145 (by decide) ?_
          exact ih hf hP hS (lv_sub hl [2, 0] rfl)
        · have hf := if_f hq hf
          refine lv_aload_n hx hb dX7_findArticles_117 rfl (lv_at hl 1 rfl) ?_
          refine fg_X7_83 X hP dX7_findArticles_118 ?_
          refine lv_iload_n hx hb dX7_findArticles_121 rfl (lv_at hl 0 rfl) ?_
          obtain ⟨hi, x5, e_x5, hf⟩ := ld_some hf
          refine ldr (t0 := 0) X hP wM_25 rfl hi e_x5 dX7_findArticles_122 ?_
          refine lv_bipush (v := (-9)) hx hb dX7_findArticles_123 rfl ?_
          refine lv_icmp_ne (tgt := 142) hx hb dX7_findArticles_125 (by decide) (fun hq => ?_) (fun hq => ?_)
          · have hf := if_f hq hf
            refine lv_iinc (v := (a1 + 1)) (lv' := [(1, .int (a1 + 1)), (2, .int x4), (0, .ref (ad 0))]) hx hb dX7_findArticles_142 hl (k := 2) rfl rfl (by decide) rfl (fun ls hl => ?_)
            refine lv_goto (tgt := 91) hx hb dX7_findArticles_145 (by decide) ?_
            exact ih hf hP hS (lv_sub hl [2, 0] rfl)
          · have hf := if_t hq hf
            refine lv_aload_n hx hb dX7_findArticles_128 rfl (lv_at hl 1 rfl) ?_
            refine fg_X7_83 X hP dX7_findArticles_129 ?_
            refine lv_iload_n hx hb dX7_findArticles_132 rfl (lv_at hl 0 rfl) ?_
            refine lv_iload_n hx hb dX7_findArticles_133 rfl (lv_at hl 2 rfl) ?_
            obtain ⟨hi, σ6, e_σ6, hf⟩ := sd_some hf
            refine str (t0 := 0) X hP (wM_D hN) hS wM_25 wM_s25 rfl hi e_σ6 dX7_findArticles_134 (fun H locs hP hS => ?_)
            refine lv_aload_n hx hb dX7_findArticles_135 rfl (lv_at hl 1 rfl) ?_
            refine fg_X7_80 X hP dX7_findArticles_136 ?_
            refine lv_iload_n hx hb dX7_findArticles_139 rfl (lv_at hl 2 rfl) ?_
            refine lv_iload_n hx hb dX7_findArticles_140 rfl (lv_at hl 0 rfl) ?_
            obtain ⟨hi, σ7, e_σ7, hf⟩ := sd_some hf
            refine str (t0 := 0) X hP (wM_D hN) hS wM_24 wM_s24 rfl hi e_σ7 dX7_findArticles_141 (fun H locs hP hS => ?_)
            refine lv_iinc (v := (a1 + 1)) (lv' := [(1, .int (a1 + 1)), (2, .int x4), (0, .ref (ad 0))]) hx hb dX7_findArticles_142 hl (k := 2) rfl rfl (by decide) rfl (fun ls hl => ?_)
            refine lv_goto (tgt := 91) hx hb dX7_findArticles_145 (by decide) ?_
            exact ih hf hP hS (lv_sub hl [2, 0] rfl)
set_option maxHeartbeats 4000000 in
set_option maxRecDepth 100000 in
theorem b_X7_findArticles_B58 (X : cx p s m meth c args cX7_findArticles 3 none RX7 D [(cI, .int), (cZ, .boolean)]) (hN : nj ad 30) {σ : St} {a1 t0 t1 : Int32} {σ' : St} {K : Int32 → St → Option St} (hk : ∀ {σ : St} {b1 : Int32} {H : Heap} {locs : List Loc} {ls : Array Slot}, K b1 σ = some σ' → va_P D vwCl (wM ad cI cZ σ) H → va_S (aw ad 30) s.heap H locs → lv_has ls 3 [(0, .ref (ad 0)), (1, .int b1)] → W p l e rm_X7_findArticles s m args below meth c H locs 0 0 (MQ below (qV D (wM ad cI cZ) (aw ad 30) σ') args s 0 0 (aw ad 30)) (F0 m 6 ls [])) (hf : f_X7_findArticles_B58 K a1 t0 t1 σ = some σ') {H : Heap} {locs : List Loc} {ls : Array Slot} (hP : va_P D vwCl (wM ad cI cZ σ) H) (hS : va_S (aw ad 30) s.heap H locs) (hl : lv_has ls 3 [(0, .ref (ad 0)), (1, .int a1)]) : W p l e rm_X7_findArticles s m args below meth c H locs 0 0 (MQ below (qV D (wM ad cI cZ) (aw ad 30) σ') args s 0 0 (aw ad 30)) (F0 m 58 ls [.int t0, .int t1, .ref (ad 23)]) := by
  obtain ⟨hx, hb, hml, hown, hts, hr, hlk, hK⟩ := id X
  rw [f_X7_findArticles_B58] at hf
  obtain ⟨hi, σ1, e_σ1, hf⟩ := sd_some hf
  refine str (t0 := 0) X hP (wM_D hN) hS wM_23 wM_s23 rfl hi e_σ1 dX7_findArticles_58 (fun H locs hP hS => ?_)
  refine lv_aload_n hx hb dX7_findArticles_59 rfl (lv_at hl 0 rfl) ?_
  refine fg_X7_80 X hP dX7_findArticles_60 ?_
  refine lv_iload_n hx hb dX7_findArticles_63 rfl (lv_at hl 1 rfl) ?_
  refine lv_bipush (v := (-9)) hx hb dX7_findArticles_64 rfl ?_
  obtain ⟨hi, σ2, e_σ2, hf⟩ := sd_some hf
  refine str (t0 := 0) X hP (wM_D hN) hS wM_24 wM_s24 rfl hi e_σ2 dX7_findArticles_66 (fun H locs hP hS => ?_)
  refine lv_aload_n hx hb dX7_findArticles_67 rfl (lv_at hl 0 rfl) ?_
  refine fg_X7_83 X hP dX7_findArticles_68 ?_
  refine lv_iload_n hx hb dX7_findArticles_71 rfl (lv_at hl 1 rfl) ?_
  refine lv_bipush (v := (-9)) hx hb dX7_findArticles_72 rfl ?_
  obtain ⟨hi, σ3, e_σ3, hf⟩ := sd_some hf
  refine str (t0 := 0) X hP (wM_D hN) hS wM_25 wM_s25 rfl hi e_σ3 dX7_findArticles_74 (fun H locs hP hS => ?_)
  refine lv_aload_n hx hb dX7_findArticles_75 rfl (lv_at hl 0 rfl) ?_
  refine fg_X7_95 X hP dX7_findArticles_76 ?_
  refine lv_iload_n hx hb dX7_findArticles_79 rfl (lv_at hl 1 rfl) ?_
  refine lv_bipush (v := (-9)) hx hb dX7_findArticles_80 rfl ?_
  obtain ⟨hi, σ4, e_σ4, hf⟩ := sd_some hf
  refine str (t0 := 0) X hP (wM_D hN) hS wM_29 wM_s29 rfl hi e_σ4 dX7_findArticles_82 (fun H locs hP hS => ?_)
  refine lv_iinc (v := (a1 + 1)) (lv' := [(1, .int (a1 + 1)), (0, .ref (ad 0))]) hx hb dX7_findArticles_83 hl (k := 1) rfl rfl (by decide) rfl (fun ls hl => ?_)
  refine lv_goto (tgt := 6) hx hb dX7_findArticles_86 (by decide) ?_
  exact hk hf hP hS (lv_sub hl [1, 0] rfl)
set_option maxHeartbeats 4000000 in
set_option maxRecDepth 100000 in
theorem b_X7_findArticles_B36 (X : cx p s m meth c args cX7_findArticles 3 none RX7 D [(cI, .int), (cZ, .boolean)]) (hN : nj ad 30) {σ : St} {a1 a2 t0 t1 : Int32} {σ' : St} {K : Int32 → St → Option St} (hk : ∀ {σ : St} {b1 : Int32} {H : Heap} {locs : List Loc} {ls : Array Slot}, K b1 σ = some σ' → va_P D vwCl (wM ad cI cZ σ) H → va_S (aw ad 30) s.heap H locs → lv_has ls 3 [(0, .ref (ad 0)), (1, .int b1)] → W p l e rm_X7_findArticles s m args below meth c H locs 0 0 (MQ below (qV D (wM ad cI cZ) (aw ad 30) σ') args s 0 0 (aw ad 30)) (F0 m 6 ls [])) (hf : f_X7_findArticles_B36 K a1 a2 t0 t1 σ = some σ') {H : Heap} {locs : List Loc} {ls : Array Slot} (hP : va_P D vwCl (wM ad cI cZ σ) H) (hS : va_S (aw ad 30) s.heap H locs) (hl : lv_has ls 3 [(0, .ref (ad 0)), (1, .int a1), (2, .int a2)]) : W p l e rm_X7_findArticles s m args below meth c H locs 0 0 (MQ below (qV D (wM ad cI cZ) (aw ad 30) σ') args s 0 0 (aw ad 30)) (F0 m 36 ls [.int t0, .int t1, .ref (ad 22)]) := by
  obtain ⟨hx, hb, hml, hown, hts, hr, hlk, hK⟩ := id X
  rw [f_X7_findArticles_B36] at hf
  obtain ⟨hz, hf⟩ := gb_some hf
  obtain ⟨hi, σ1, e_σ1, hf⟩ := sd_some hf
  refine stz (t0 := 1) X hP (wM_D hN) hS wM_22 wM_s22 rfl hz hi e_σ1 dX7_findArticles_36 (fun H locs hP hS => ?_)
  refine lv_aload_n hx hb dX7_findArticles_37 rfl (lv_at hl 0 rfl) ?_
  refine fg_X7_77 X hP dX7_findArticles_38 ?_
  refine lv_iload_n hx hb dX7_findArticles_41 rfl (lv_at hl 1 rfl) ?_
  refine lv_iload_n hx hb dX7_findArticles_42 rfl (lv_at hl 2 rfl) ?_
  refine lv_bipush (v := (-9)) hx hb dX7_findArticles_43 rfl ?_
  refine lv_icmp_ne (tgt := 53) hx hb dX7_findArticles_45 (by decide) (fun hq => ?_) (fun hq => ?_)
  · have hf := if_f hq hf
    refine lv_aload_n hx hb dX7_findArticles_53 rfl (lv_at hl 0 rfl) ?_
    refine lv_iload_n hx hb dX7_findArticles_54 rfl (lv_at hl 2 rfl) ?_
    obtain ⟨x2, hc, hf⟩ := bi_some hf
    refine kVi (As := [.int a2]) (rest := [.int a1, .ref (ad 23)]) (wd := (wM ad cI cZ)) (q0 := 0) (ci := 7) X (c_X7_aimBy (l := l) (D := D) (σ := σ1) hN hc) (cw_X7_171 X.2.2.2.2.1 ⟨Nat.le_of_ble_eq_true rfl, Nat.le_of_ble_eq_true rfl⟩) rfl rfl hP hS hl rfl rfl (Nat.le_of_ble_eq_true rfl) dX7_findArticles_55 (fun H locs hP hS => ?_)
    exact b_X7_findArticles_B58 X hN hk hf hP hS (lv_sub hl [0, 1] rfl)
  · have hf := if_t hq hf
    refine lv_bipush (v := (-9)) hx hb dX7_findArticles_48 rfl ?_
    refine lv_goto (tgt := 58) hx hb dX7_findArticles_50 (by decide) ?_
    exact b_X7_findArticles_B58 X hN hk hf hP hS (lv_sub hl [0, 1] rfl)
set_option maxHeartbeats 4000000 in
set_option maxRecDepth 100000 in
theorem b_X7_findArticles_L6 (X : cx p s m meth c args cX7_findArticles 3 none RX7 D [(cI, .int), (cZ, .boolean)]) (hN : nj ad 30) : ∀ (n : Nat) {σ : St} {a1 : Int32} {σ' : St}, f_X7_findArticles_L6 n a1 σ = some σ' → ∀ {H : Heap} {locs : List Loc} {ls : Array Slot}, va_P D vwCl (wM ad cI cZ σ) H → va_S (aw ad 30) s.heap H locs → lv_has ls 3 [(0, .ref (ad 0)), (1, .int a1)] → W p l e rm_X7_findArticles s m args below meth c H locs 0 0 (MQ below (qV D (wM ad cI cZ) (aw ad 30) σ') args s 0 0 (aw ad 30)) (F0 m 6 ls []) := by
  intro n
  induction n with
  | zero =>
    intro σ a1 σ' hf
    rw [f_X7_findArticles_L6] at hf
    cases hf
  | succ n ih =>
    intro σ a1 σ' hf H locs ls hP hS hl
    obtain ⟨hx, hb, hml, hown, hts, hr, hlk, hK⟩ := id X
    rw [f_X7_findArticles_L6] at hf
    refine lv_iload_n hx hb dX7_findArticles_6 rfl (lv_at hl 1 rfl) ?_
    refine lv_aload_n hx hb dX7_findArticles_7 rfl (lv_at hl 0 rfl) ?_
    obtain ⟨x1, e_x1, hf⟩ := lf_some hf
    refine fg_X7_153 X hP e_x1 dX7_findArticles_8 ?_
    refine lv_icmp_ge (tgt := 89) hx hb dX7_findArticles_11 (by decide) (fun hq => ?_) (fun hq => ?_)
    · have hf := if_t hq hf
      refine lv_iconst (v := 0) hx hb dX7_findArticles_89 rfl ?_
      refine lv_istore_n (lv' := [(1, .int 0), (0, .ref (ad 0))]) hx hb dX7_findArticles_90 rfl hl (by decide) rfl (fun ls hl => ?_)
      exact b_X7_findArticles_L91 X hN _ hf hP hS (lv_sub hl [1, 0] rfl)
    · have hf := if_f hq hf
      refine lv_aload_n hx hb dX7_findArticles_14 rfl (lv_at hl 0 rfl) ?_
      refine lv_iload_n hx hb dX7_findArticles_15 rfl (lv_at hl 1 rfl) ?_
      obtain ⟨x2, hc, hf⟩ := bi_some hf
      refine kVi (As := [.int a1]) (rest := []) (wd := (wM ad cI cZ)) (q0 := 0) (ci := 7) X (c_X7_onwardOf (l := l) (D := D) (σ := σ) hN hc) (cw_X7_168 X.2.2.2.2.1 ⟨Nat.le_of_ble_eq_true rfl, Nat.le_of_ble_eq_true rfl⟩) rfl rfl hP hS hl rfl rfl (Nat.le_of_ble_eq_true rfl) dX7_findArticles_16 (fun H locs hP hS => ?_)
      refine lv_istore_n (lv' := [(2, .int x2), (0, .ref (ad 0)), (1, .int a1)]) hx hb dX7_findArticles_19 rfl hl (by decide) rfl (fun ls hl => ?_)
      refine lv_aload_n hx hb dX7_findArticles_20 rfl (lv_at hl 1 rfl) ?_
      refine fg_X7_73 X hP dX7_findArticles_21 ?_
      refine lv_iload_n hx hb dX7_findArticles_24 rfl (lv_at hl 2 rfl) ?_
      refine lv_iload_n hx hb dX7_findArticles_25 rfl (lv_at hl 0 rfl) ?_
      refine lv_bipush (v := (-9)) hx hb dX7_findArticles_26 rfl ?_
      refine lv_icmp_eq (tgt := 35) hx hb dX7_findArticles_28 (by decide) (fun hq => ?_) (fun hq => ?_)
      · have hf := if_t hq hf
        refine lv_iconst (v := 0) hx hb dX7_findArticles_35 rfl ?_
        exact b_X7_findArticles_B36 X hN (fun hf hP hS hl => ih hf hP hS hl) hf hP hS (lv_sub hl [1, 2, 0] rfl)
      · have hf := if_f hq hf
        refine lv_iconst (v := 1) hx hb dX7_findArticles_31 rfl ?_
        refine lv_goto (tgt := 36) hx hb dX7_findArticles_32 (by decide) ?_
        exact b_X7_findArticles_B36 X hN (fun hf hP hS hl => ih hf hP hS hl) hf hP hS (lv_sub hl [1, 2, 0] rfl)
set_option maxHeartbeats 4000000 in
set_option maxRecDepth 100000 in
theorem b_X7_findArticles (X : cx p s m meth c args cX7_findArticles 3 none RX7 D [(cI, .int), (cZ, .boolean)]) (hN : nj ad 30) {σ : St} {σ' : St} (hf : f_X7_findArticles σ = some σ') {H : Heap} {locs : List Loc} {ls : Array Slot} (hP : va_P D vwCl (wM ad cI cZ σ) H) (hS : va_S (aw ad 30) s.heap H locs) (hl : lv_has ls 3 [(0, .ref (ad 0))]) : W p l e rm_X7_findArticles s m args below meth c H locs 0 0 (MQ below (qV D (wM ad cI cZ) (aw ad 30) σ') args s 0 0 (aw ad 30)) (F0 m 0 ls []) := by
  obtain ⟨hx, hb, hml, hown, hts, hr, hlk, hK⟩ := id X
  rw [f_X7_findArticles] at hf
  refine lv_aload_n hx hb dX7_findArticles_0 rfl (lv_at hl 0 rfl) ?_
  obtain ⟨σ1, hc, hf⟩ := bs_some hf
  refine kVv (As := []) (rest := []) (wd := (wM ad cI cZ)) (q0 := 0) (ci := 7) X (c_X7_findStories (l := l) (D := D) (σ := σ) hN hc) (cw_X7_159 X.2.2.2.2.1 ⟨Nat.le_of_ble_eq_true rfl, Nat.le_of_ble_eq_true rfl⟩) rfl rfl hP hS hl rfl rfl (Nat.le_of_ble_eq_true rfl) dX7_findArticles_1 (fun H locs hP hS => ?_)
  refine lv_iconst (v := 0) hx hb dX7_findArticles_4 rfl ?_
  refine lv_istore_n (lv' := [(1, .int 0), (0, .ref (ad 0))]) hx hb dX7_findArticles_5 rfl hl (by decide) rfl (fun ls hl => ?_)
  exact b_X7_findArticles_L6 X hN _ hf hP hS (lv_sub hl [1, 0] rfl)
set_option maxHeartbeats 4000000 in
set_option maxRecDepth 100000 in
theorem c_X7_findArticles {l : Launch} {D : va_G} {ad : Nat → Nat} {cI cZ : ClassId} (hN : nj ad 30) {σ : St} {σ' : St} (hf : f_X7_findArticles σ = some σ') : Met l yX7_findArticles (.code yX7_findArticles cX7_findArticles 3 none :: wsL_law) rm_X7_findArticles (va_Pc [.ref (ad 0)] (pw D (wM ad cI cZ) [(cI, .int), (cZ, .boolean)] σ)) (qV D (wM ad cI cZ) (aw ad 30) σ') 0 0 (aw ad 30) :=
  met_mk (by decide) rfl (Nat.le_of_ble_eq_true rfl) (fun p e s m below meth c X hP ls hl => b_X7_findArticles X hN hf hP va_S.rf hl)
set_option maxHeartbeats 4000000 in
set_option maxRecDepth 100000 in
theorem b_X7_isBroken (X : cx p s m meth c args cX7_isBroken 2 (some .boolean) RX7 D [(cI, .int), (cZ, .boolean)]) (hN : nj ad 30) {σ : St} {a1 : Int32} {r : Int32} (hf : f_X7_isBroken a1 σ = some r) {H : Heap} {locs : List Loc} {ls : Array Slot} (hP : va_P D vwCl (wM ad cI cZ σ) H) (hS : va_S (aw ad 30) s.heap H locs) (hl : lv_has ls 2 [(0, .ref (ad 0)), (1, .int a1)]) : W p l e rm_X7_isBroken s m args below meth c H locs 0 0 (MQ below (qI D (wM ad cI cZ) (aw ad 30) r σ) args s 0 0 (aw ad 30)) (F0 m 0 ls []) := by
  obtain ⟨hx, hb, hml, hown, hts, hr, hlk, hK⟩ := id X
  rw [f_X7_isBroken] at hf
  refine lv_aload_n hx hb dX7_isBroken_0 rfl (lv_at hl 0 rfl) ?_
  refine fg_X7_73 X hP dX7_isBroken_1 ?_
  refine lv_iload_n hx hb dX7_isBroken_4 rfl (lv_at hl 1 rfl) ?_
  obtain ⟨hi, x1, e_x1, hf⟩ := ld_some hf
  refine ldz (t0 := 1) X hP wM_22 rfl hi e_x1 dX7_isBroken_5 ?_
  refine lv_if_eq (tgt := 24) hx hb dX7_isBroken_6 (by decide) (fun hq => ?_) (fun hq => ?_)
  · have hf := if_t hq hf
    refine lv_iconst (v := 0) hx hb dX7_isBroken_24 rfl ?_
    exact rZ X hP hS hf dX7_isBroken_25
  · have hf := if_f hq hf
    refine lv_aload_n hx hb dX7_isBroken_9 rfl (lv_at hl 0 rfl) ?_
    refine fg_X7_80 X hP dX7_isBroken_10 ?_
    refine lv_iload_n hx hb dX7_isBroken_13 rfl (lv_at hl 1 rfl) ?_
    obtain ⟨hi, x2, e_x2, hf⟩ := ld_some hf
    refine ldr (t0 := 0) X hP wM_24 rfl hi e_x2 dX7_isBroken_14 ?_
    refine lv_bipush (v := (-9)) hx hb dX7_isBroken_15 rfl ?_
    refine lv_icmp_ne (tgt := 24) hx hb dX7_isBroken_17 (by decide) (fun hq => ?_) (fun hq => ?_)
    · have hf := if_f hq hf
      refine lv_iconst (v := 0) hx hb dX7_isBroken_24 rfl ?_
      exact rZ X hP hS hf dX7_isBroken_25
    · have hf := if_t hq hf
      refine lv_iconst (v := 1) hx hb dX7_isBroken_20 rfl ?_
      refine lv_goto (tgt := 25) hx hb dX7_isBroken_21 (by decide) ?_
      exact rZ X hP hS hf dX7_isBroken_25
set_option maxHeartbeats 4000000 in
set_option maxRecDepth 100000 in
theorem c_X7_isBroken {l : Launch} {D : va_G} {ad : Nat → Nat} {cI cZ : ClassId} (hN : nj ad 30) {σ : St} {a1 : Int32} {r : Int32} (hf : f_X7_isBroken a1 σ = some r) : Met l yX7_isBroken (.code yX7_isBroken cX7_isBroken 2 (some .boolean) :: wsL_law) rm_X7_isBroken (va_Pc [.ref (ad 0), .int a1] (pw D (wM ad cI cZ) [(cI, .int), (cZ, .boolean)] σ)) (qI D (wM ad cI cZ) (aw ad 30) r σ) 0 0 (aw ad 30) :=
  met_mk (by decide) rfl (Nat.le_of_ble_eq_true rfl) (fun p e s m below meth c X hP ls hl => b_X7_isBroken X hN hf hP va_S.rf hl)
set_option maxHeartbeats 4000000 in
set_option maxRecDepth 100000 in
theorem b_X7_wordsIn_L12 (X : cx p s m meth c args cX7_wordsIn 5 (some .int) RX7 D [(cI, .int), (cZ, .boolean)]) (hN : nj ad 30) : ∀ (n : Nat) {σ : St} {a2 a3 a4 : Int32} {r : Int32}, f_X7_wordsIn_L12 σ n a2 a3 a4 = some r → ∀ {H : Heap} {locs : List Loc} {ls : Array Slot}, va_P D vwCl (wM ad cI cZ σ) H → va_S (aw ad 30) s.heap H locs → lv_has ls 5 [(0, .ref (ad 0)), (2, .int a2), (3, .int a3), (4, .int a4)] → W p l e rm_X7_wordsIn s m args below meth c H locs 0 0 (MQ below (qI D (wM ad cI cZ) (aw ad 30) r σ) args s 0 0 (aw ad 30)) (F0 m 12 ls []) := by
  intro n
  induction n with
  | zero =>
    intro σ a2 a3 a4 r hf
    rw [f_X7_wordsIn_L12] at hf
    cases hf
  | succ n ih =>
    intro σ a2 a3 a4 r hf H locs ls hP hS hl
    obtain ⟨hx, hb, hml, hown, hts, hr, hlk, hK⟩ := id X
    rw [f_X7_wordsIn_L12] at hf
    refine lv_iload hx hb dX7_wordsIn_12 (lv_at hl 3 rfl) ?_
    refine lv_aload_n hx hb dX7_wordsIn_14 rfl (lv_at hl 0 rfl) ?_
    refine fg_X7_61 X hP dX7_wordsIn_15 ?_
    refine lv_iload_n hx hb dX7_wordsIn_18 rfl (lv_at hl 1 rfl) ?_
    obtain ⟨hi, x1, e_x1, hf⟩ := ld_some hf
    refine ldr (t0 := 0) X hP wM_18 rfl hi e_x1 dX7_wordsIn_19 ?_
    refine lv_icmp_ge (tgt := 49) hx hb dX7_wordsIn_20 (by decide) (fun hq => ?_) (fun hq => ?_)
    · have hf := if_t hq hf
      refine lv_iload_n hx hb dX7_wordsIn_49 rfl (lv_at hl 2 rfl) ?_
      exact rI X hP hS hf dX7_wordsIn_50
    · have hf := if_f hq hf
      refine lv_iload_n hx hb dX7_wordsIn_23 rfl (lv_at hl 2 rfl) ?_
      refine lv_aload_n hx hb dX7_wordsIn_24 rfl (lv_at hl 0 rfl) ?_
      refine fg_X7_28 X hP dX7_wordsIn_25 ?_
      refine lv_aload_n hx hb dX7_wordsIn_28 rfl (lv_at hl 0 rfl) ?_
      refine fg_X7_64 X hP dX7_wordsIn_29 ?_
      refine lv_bipush (v := 24) hx hb dX7_wordsIn_32 rfl ?_
      refine lv_iload_n hx hb dX7_wordsIn_34 rfl (lv_at hl 1 rfl) ?_
      refine lv_imul hx hb dX7_wordsIn_35 ?_
      refine lv_iload hx hb dX7_wordsIn_36 (lv_at hl 3 rfl) ?_
      refine lv_iadd hx hb dX7_wordsIn_38 ?_
      obtain ⟨hi, x2, e_x2, hf⟩ := ld_some hf
      refine ldr (t0 := 0) X hP wM_19 rfl hi e_x2 dX7_wordsIn_39 ?_
      obtain ⟨hi, x3, e_x3, hf⟩ := ld_some hf
      refine ldr (t0 := 0) X hP wM_7 rfl hi e_x3 dX7_wordsIn_40 ?_
      refine lv_iadd hx hb dX7_wordsIn_41 ?_
      refine lv_istore_n (lv' := [(3, .int (a3 + x3)), (0, .ref (ad 0)), (2, .int a2), (4, .int a4)]) hx hb dX7_wordsIn_42 rfl hl (by decide) rfl (fun ls hl => ?_)
      refine lv_iinc (v := (a4 + 1)) (lv' := [(4, .int (a4 + 1)), (3, .int (a3 + x3)), (0, .ref (ad 0)), (2, .int a2)]) hx hb dX7_wordsIn_43 hl (k := 3) rfl rfl (by decide) rfl (fun ls hl => ?_)
      refine lv_goto (tgt := 12) hx hb dX7_wordsIn_46 (by decide) ?_
      exact ih hf hP hS (lv_sub hl [2, 3, 1, 0] rfl)
set_option maxHeartbeats 4000000 in
set_option maxRecDepth 100000 in
theorem b_X7_wordsIn (X : cx p s m meth c args cX7_wordsIn 5 (some .int) RX7 D [(cI, .int), (cZ, .boolean)]) (hN : nj ad 30) {σ : St} {a1 : Int32} {r : Int32} (hf : f_X7_wordsIn a1 σ = some r) {H : Heap} {locs : List Loc} {ls : Array Slot} (hP : va_P D vwCl (wM ad cI cZ σ) H) (hS : va_S (aw ad 30) s.heap H locs) (hl : lv_has ls 5 [(0, .ref (ad 0)), (1, .int a1)]) : W p l e rm_X7_wordsIn s m args below meth c H locs 0 0 (MQ below (qI D (wM ad cI cZ) (aw ad 30) r σ) args s 0 0 (aw ad 30)) (F0 m 0 ls []) := by
  obtain ⟨hx, hb, hml, hown, hts, hr, hlk, hK⟩ := id X
  rw [f_X7_wordsIn] at hf
  refine lv_aload_n hx hb dX7_wordsIn_0 rfl (lv_at hl 0 rfl) ?_
  refine fg_X7_67 X hP dX7_wordsIn_1 ?_
  refine lv_iload_n hx hb dX7_wordsIn_4 rfl (lv_at hl 1 rfl) ?_
  obtain ⟨hi, x1, e_x1, hf⟩ := ld_some hf
  refine ldr (t0 := 0) X hP wM_20 rfl hi e_x1 dX7_wordsIn_5 ?_
  refine lv_istore_n (lv' := [(2, .int x1), (0, .ref (ad 0)), (1, .int a1)]) hx hb dX7_wordsIn_6 rfl hl (by decide) rfl (fun ls hl => ?_)
  refine lv_iconst (v := 0) hx hb dX7_wordsIn_7 rfl ?_
  refine lv_istore_n (lv' := [(3, .int 0), (2, .int x1), (0, .ref (ad 0)), (1, .int a1)]) hx hb dX7_wordsIn_8 rfl hl (by decide) rfl (fun ls hl => ?_)
  refine lv_iconst (v := 0) hx hb dX7_wordsIn_9 rfl ?_
  refine lv_istore (lv' := [(4, .int 0), (3, .int 0), (2, .int x1), (0, .ref (ad 0)), (1, .int a1)]) hx hb dX7_wordsIn_10 hl (by decide) rfl (fun ls hl => ?_)
  exact b_X7_wordsIn_L12 X hN _ hf hP hS (lv_sub hl [3, 2, 1, 0] rfl)
set_option maxHeartbeats 4000000 in
set_option maxRecDepth 100000 in
theorem c_X7_wordsIn {l : Launch} {D : va_G} {ad : Nat → Nat} {cI cZ : ClassId} (hN : nj ad 30) {σ : St} {a1 : Int32} {r : Int32} (hf : f_X7_wordsIn a1 σ = some r) : Met l yX7_wordsIn (.code yX7_wordsIn cX7_wordsIn 5 (some .int) :: wsL_law) rm_X7_wordsIn (va_Pc [.ref (ad 0), .int a1] (pw D (wM ad cI cZ) [(cI, .int), (cZ, .boolean)] σ)) (qI D (wM ad cI cZ) (aw ad 30) r σ) 0 0 (aw ad 30) :=
  met_mk (by decide) rfl (Nat.le_of_ble_eq_true rfl) (fun p e s m below meth c X hP ls hl => b_X7_wordsIn X hN hf hP va_S.rf hl)
set_option maxHeartbeats 4000000 in
set_option maxRecDepth 100000 in
theorem b_X7_manyIn_B77 (X : cx p s m meth c args cX7_manyIn 6 (some .int) RX7 D [(cI, .int), (cZ, .boolean)]) (hN : nj ad 30) {σ : St} {a1 a2 a4 t0 : Int32} {r : Int32} {K : Int32 → Int32 → Int32 → Int32 → Option Int32} (hk : ∀ {b1 b2 b3 b4 : Int32} {H : Heap} {locs : List Loc} {ls : Array Slot}, K b1 b2 b3 b4 = some r → va_P D vwCl (wM ad cI cZ σ) H → va_S (aw ad 30) s.heap H locs → lv_has ls 6 [(0, .ref (ad 0)), (1, .int b1), (2, .int b2), (3, .int b3), (4, .int b4)] → W p l e rm_X7_manyIn s m args below meth c H locs 0 0 (MQ below (qI D (wM ad cI cZ) (aw ad 30) r σ) args s 0 0 (aw ad 30)) (F0 m 5 ls [])) (hf : f_X7_manyIn_B77 σ K a1 a2 a4 t0 = some r) {H : Heap} {locs : List Loc} {ls : Array Slot} (hP : va_P D vwCl (wM ad cI cZ σ) H) (hS : va_S (aw ad 30) s.heap H locs) (hl : lv_has ls 6 [(0, .ref (ad 0)), (1, .int a1), (2, .int a2), (4, .int a4)]) : W p l e rm_X7_manyIn s m args below meth c H locs 0 0 (MQ below (qI D (wM ad cI cZ) (aw ad 30) r σ) args s 0 0 (aw ad 30)) (F0 m 77 ls [.int t0]) := by
  obtain ⟨hx, hb, hml, hown, hts, hr, hlk, hK⟩ := id X
  rw [f_X7_manyIn_B77] at hf
  refine lv_iconst (v := 0) hx hb dX7_manyIn_77 rfl ?_
  refine lv_iadd hx hb dX7_manyIn_78 ?_
  refine lv_istore_n (lv' := [(3, .int (t0 + 0)), (0, .ref (ad 0)), (1, .int a1), (2, .int a2), (4, .int a4)]) hx hb dX7_manyIn_79 rfl hl (by decide) rfl (fun ls hl => ?_)
  refine lv_iinc (v := (a4 + 1)) (lv' := [(4, .int (a4 + 1)), (3, .int (t0 + 0)), (0, .ref (ad 0)), (1, .int a1), (2, .int a2)]) hx hb dX7_manyIn_80 hl (k := 4) rfl rfl (by decide) rfl (fun ls hl => ?_)
  refine lv_goto (tgt := 5) hx hb dX7_manyIn_83 (by decide) ?_
  exact hk hf hP hS (lv_sub hl [2, 3, 4, 1, 0] rfl)
set_option maxHeartbeats 4000000 in
set_option maxRecDepth 100000 in
theorem b_X7_manyIn_B54 (X : cx p s m meth c args cX7_manyIn 6 (some .int) RX7 D [(cI, .int), (cZ, .boolean)]) (hN : nj ad 30) {σ : St} {a1 a2 a3 a4 t0 : Int32} {r : Int32} {K : Int32 → Int32 → Int32 → Int32 → Option Int32} (hk : ∀ {b1 b2 b3 b4 : Int32} {H : Heap} {locs : List Loc} {ls : Array Slot}, K b1 b2 b3 b4 = some r → va_P D vwCl (wM ad cI cZ σ) H → va_S (aw ad 30) s.heap H locs → lv_has ls 6 [(0, .ref (ad 0)), (1, .int b1), (2, .int b2), (3, .int b3), (4, .int b4)] → W p l e rm_X7_manyIn s m args below meth c H locs 0 0 (MQ below (qI D (wM ad cI cZ) (aw ad 30) r σ) args s 0 0 (aw ad 30)) (F0 m 5 ls [])) (hf : f_X7_manyIn_B54 σ K a1 a2 a3 a4 t0 = some r) {H : Heap} {locs : List Loc} {ls : Array Slot} (hP : va_P D vwCl (wM ad cI cZ σ) H) (hS : va_S (aw ad 30) s.heap H locs) (hl : lv_has ls 6 [(0, .ref (ad 0)), (1, .int a1), (2, .int a2), (3, .int a3), (4, .int a4)]) : W p l e rm_X7_manyIn s m args below meth c H locs 0 0 (MQ below (qI D (wM ad cI cZ) (aw ad 30) r σ) args s 0 0 (aw ad 30)) (F0 m 54 ls [.int t0]) := by
  obtain ⟨hx, hb, hml, hown, hts, hr, hlk, hK⟩ := id X
  rw [f_X7_manyIn_B54] at hf
  refine lv_istore (lv' := [(5, .int t0), (0, .ref (ad 0)), (1, .int a1), (2, .int a2), (3, .int a3), (4, .int a4)]) hx hb dX7_manyIn_54 hl (by decide) rfl (fun ls hl => ?_)
  refine lv_iload_n hx hb dX7_manyIn_56 rfl (lv_at hl 4 rfl) ?_
  refine lv_iload hx hb dX7_manyIn_57 (lv_at hl 0 rfl) ?_
  refine lv_if_eq (tgt := 77) hx hb dX7_manyIn_59 (by decide) (fun hq => ?_) (fun hq => ?_)
  · have hf := if_t hq hf
    exact b_X7_manyIn_B77 X hN hk hf hP hS (lv_sub hl [1, 2, 3, 5] rfl)
  · have hf := if_f hq hf
    refine lv_aload_n hx hb dX7_manyIn_62 rfl (lv_at hl 1 rfl) ?_
    refine fg_X7_70 X hP dX7_manyIn_63 ?_
    refine lv_iload hx hb dX7_manyIn_66 (lv_at hl 5 rfl) ?_
    obtain ⟨hi, x1, e_x1, hf⟩ := ld_some hf
    refine ldr (t0 := 0) X hP wM_21 rfl hi e_x1 dX7_manyIn_68 ?_
    refine lv_iload_n hx hb dX7_manyIn_69 rfl (lv_at hl 2 rfl) ?_
    refine lv_icmp_ne (tgt := 77) hx hb dX7_manyIn_70 (by decide) (fun hq => ?_) (fun hq => ?_)
    · have hf := if_f hq hf
      exact b_X7_manyIn_B77 X hN hk hf hP hS (lv_sub hl [1, 2, 3, 5] rfl)
    · have hf := if_t hq hf
      refine lv_iconst (v := 1) hx hb dX7_manyIn_73 rfl ?_
      refine lv_goto (tgt := 78) hx hb dX7_manyIn_74 (by decide) ?_
      refine lv_iadd hx hb dX7_manyIn_78 ?_
      refine lv_istore_n (lv' := [(3, .int (a3 + 1)), (5, .int t0), (0, .ref (ad 0)), (1, .int a1), (2, .int a2), (4, .int a4)]) hx hb dX7_manyIn_79 rfl hl (by decide) rfl (fun ls hl => ?_)
      refine lv_iinc (v := (a4 + 1)) (lv' := [(4, .int (a4 + 1)), (3, .int (a3 + 1)), (5, .int t0), (0, .ref (ad 0)), (1, .int a1), (2, .int a2)]) hx hb dX7_manyIn_80 hl (k := 5) rfl rfl (by decide) rfl (fun ls hl => ?_)
      refine lv_goto (tgt := 5) hx hb dX7_manyIn_83 (by decide) ?_
      exact hk hf hP hS (lv_sub hl [3, 4, 5, 1, 0] rfl)
set_option maxHeartbeats 4000000 in
set_option maxRecDepth 100000 in
theorem b_X7_manyIn_L5 (X : cx p s m meth c args cX7_manyIn 6 (some .int) RX7 D [(cI, .int), (cZ, .boolean)]) (hN : nj ad 30) : ∀ (n : Nat) {σ : St} {a1 a2 a3 a4 : Int32} {r : Int32}, f_X7_manyIn_L5 σ n a1 a2 a3 a4 = some r → ∀ {H : Heap} {locs : List Loc} {ls : Array Slot}, va_P D vwCl (wM ad cI cZ σ) H → va_S (aw ad 30) s.heap H locs → lv_has ls 6 [(0, .ref (ad 0)), (1, .int a1), (2, .int a2), (3, .int a3), (4, .int a4)] → W p l e rm_X7_manyIn s m args below meth c H locs 0 0 (MQ below (qI D (wM ad cI cZ) (aw ad 30) r σ) args s 0 0 (aw ad 30)) (F0 m 5 ls []) := by
  intro n
  induction n with
  | zero =>
    intro σ a1 a2 a3 a4 r hf
    rw [f_X7_manyIn_L5] at hf
    cases hf
  | succ n ih =>
    intro σ a1 a2 a3 a4 r hf H locs ls hP hS hl
    obtain ⟨hx, hb, hml, hown, hts, hr, hlk, hK⟩ := id X
    rw [f_X7_manyIn_L5] at hf
    refine lv_iload hx hb dX7_manyIn_5 (lv_at hl 4 rfl) ?_
    refine lv_aload_n hx hb dX7_manyIn_7 rfl (lv_at hl 0 rfl) ?_
    obtain ⟨x1, e_x1, hf⟩ := lf_some hf
    refine fg_X7_98 X hP e_x1 dX7_manyIn_8 ?_
    refine lv_icmp_ge (tgt := 86) hx hb dX7_manyIn_11 (by decide) (fun hq => ?_) (fun hq => ?_)
    · have hf := if_t hq hf
      refine lv_iload_n hx hb dX7_manyIn_86 rfl (lv_at hl 3 rfl) ?_
      exact rI X hP hS hf dX7_manyIn_87
    · have hf := if_f hq hf
      refine lv_iload_n hx hb dX7_manyIn_14 rfl (lv_at hl 2 rfl) ?_
      refine lv_if_eq (tgt := 37) hx hb dX7_manyIn_15 (by decide) (fun hq => ?_) (fun hq => ?_)
      · have hf := if_t hq hf
        refine lv_aload_n hx hb dX7_manyIn_37 rfl (lv_at hl 0 rfl) ?_
        refine fg_X7_58 X hP dX7_manyIn_38 ?_
        refine lv_iload hx hb dX7_manyIn_41 (lv_at hl 4 rfl) ?_
        obtain ⟨hi, x2, e_x2, hf⟩ := ld_some hf
        refine ldr (t0 := 0) X hP wM_17 rfl hi e_x2 dX7_manyIn_43 ?_
        refine lv_bipush (v := (-9)) hx hb dX7_manyIn_44 rfl ?_
        refine lv_icmp_eq (tgt := 53) hx hb dX7_manyIn_46 (by decide) (fun hq => ?_) (fun hq => ?_)
        · have hf := if_t hq hf
          refine lv_iconst (v := 0) hx hb dX7_manyIn_53 rfl ?_
          exact b_X7_manyIn_B54 X hN (fun hf hP hS hl => ih hf hP hS hl) hf hP hS (lv_sub hl [0, 1, 2, 3, 4] rfl)
        · have hf := if_f hq hf
          refine lv_iconst (v := 1) hx hb dX7_manyIn_49 rfl ?_
          refine lv_goto (tgt := 54) hx hb dX7_manyIn_50 (by decide) ?_
          exact b_X7_manyIn_B54 X hN (fun hf hP hS hl => ih hf hP hS hl) hf hP hS (lv_sub hl [0, 1, 2, 3, 4] rfl)
      · have hf := if_f hq hf
        refine lv_aload_n hx hb dX7_manyIn_18 rfl (lv_at hl 0 rfl) ?_
        refine fg_X7_13 X hP dX7_manyIn_19 ?_
        refine lv_iload hx hb dX7_manyIn_22 (lv_at hl 4 rfl) ?_
        obtain ⟨hi, x3, e_x3, hf⟩ := ld_some hf
        refine ldr (t0 := 0) X hP wM_2 rfl hi e_x3 dX7_manyIn_24 ?_
        refine lv_iconst (v := 2) hx hb dX7_manyIn_25 rfl ?_
        refine lv_icmp_ne (tgt := 33) hx hb dX7_manyIn_26 (by decide) (fun hq => ?_) (fun hq => ?_)
        · have hf := if_f hq hf
          refine lv_iconst (v := 0) hx hb dX7_manyIn_33 rfl ?_
          refine lv_goto (tgt := 54) hx hb dX7_manyIn_34 (by decide) ?_
          exact b_X7_manyIn_B54 X hN (fun hf hP hS hl => ih hf hP hS hl) hf hP hS (lv_sub hl [0, 1, 2, 3, 4] rfl)
        · have hf := if_t hq hf
          refine lv_iconst (v := 1) hx hb dX7_manyIn_29 rfl ?_
          refine lv_goto (tgt := 54) hx hb dX7_manyIn_30 (by decide) ?_
          exact b_X7_manyIn_B54 X hN (fun hf hP hS hl => ih hf hP hS hl) hf hP hS (lv_sub hl [0, 1, 2, 3, 4] rfl)
set_option maxHeartbeats 4000000 in
set_option maxRecDepth 100000 in
theorem b_X7_manyIn (X : cx p s m meth c args cX7_manyIn 6 (some .int) RX7 D [(cI, .int), (cZ, .boolean)]) (hN : nj ad 30) {σ : St} {a1 a2 : Int32} {r : Int32} (hf : f_X7_manyIn a1 a2 σ = some r) {H : Heap} {locs : List Loc} {ls : Array Slot} (hP : va_P D vwCl (wM ad cI cZ σ) H) (hS : va_S (aw ad 30) s.heap H locs) (hl : lv_has ls 6 [(0, .ref (ad 0)), (1, .int a1), (2, .int a2)]) : W p l e rm_X7_manyIn s m args below meth c H locs 0 0 (MQ below (qI D (wM ad cI cZ) (aw ad 30) r σ) args s 0 0 (aw ad 30)) (F0 m 0 ls []) := by
  obtain ⟨hx, hb, hml, hown, hts, hr, hlk, hK⟩ := id X
  rw [f_X7_manyIn] at hf
  refine lv_iconst (v := 0) hx hb dX7_manyIn_0 rfl ?_
  refine lv_istore_n (lv' := [(3, .int 0), (0, .ref (ad 0)), (1, .int a1), (2, .int a2)]) hx hb dX7_manyIn_1 rfl hl (by decide) rfl (fun ls hl => ?_)
  refine lv_iconst (v := 0) hx hb dX7_manyIn_2 rfl ?_
  refine lv_istore (lv' := [(4, .int 0), (3, .int 0), (0, .ref (ad 0)), (1, .int a1), (2, .int a2)]) hx hb dX7_manyIn_3 hl (by decide) rfl (fun ls hl => ?_)
  exact b_X7_manyIn_L5 X hN _ hf hP hS (lv_sub hl [2, 3, 4, 1, 0] rfl)
set_option maxHeartbeats 4000000 in
set_option maxRecDepth 100000 in
theorem c_X7_manyIn {l : Launch} {D : va_G} {ad : Nat → Nat} {cI cZ : ClassId} (hN : nj ad 30) {σ : St} {a1 a2 : Int32} {r : Int32} (hf : f_X7_manyIn a1 a2 σ = some r) : Met l yX7_manyIn (.code yX7_manyIn cX7_manyIn 6 (some .int) :: wsL_law) rm_X7_manyIn (va_Pc [.ref (ad 0), .int a1, .int a2] (pw D (wM ad cI cZ) [(cI, .int), (cZ, .boolean)] σ)) (qI D (wM ad cI cZ) (aw ad 30) r σ) 0 0 (aw ad 30) :=
  met_mk (by decide) rfl (Nat.le_of_ble_eq_true rfl) (fun p e s m below meth c X hP ls hl => b_X7_manyIn X hN hf hP va_S.rf hl)
set_option maxHeartbeats 4000000 in
set_option maxRecDepth 100000 in
theorem b_X7_isStory (X : cx p s m meth c args cX7_isStory 2 (some .boolean) RX7 D [(cI, .int), (cZ, .boolean)]) (hN : nj ad 30) {σ : St} {a1 : Int32} {r : Int32} {σ' : St} (hf : f_X7_isStory a1 σ = some (r, σ')) {H : Heap} {locs : List Loc} {ls : Array Slot} (hP : va_P D vwCl (wM ad cI cZ σ) H) (hS : va_S (aw ad 30) s.heap H locs) (hl : lv_has ls 2 [(0, .ref (ad 0)), (1, .int a1)]) : W p l e rm_X7_isStory s m args below meth c H locs 0 0 (MQ below (qI D (wM ad cI cZ) (aw ad 30) r σ') args s 0 0 (aw ad 30)) (F0 m 0 ls []) := by
  obtain ⟨hx, hb, hml, hown, hts, hr, hlk, hK⟩ := id X
  rw [f_X7_isStory] at hf
  refine lv_aload_n hx hb dX7_isStory_0 rfl (lv_at hl 0 rfl) ?_
  obtain ⟨σ1, hc, hf⟩ := bs_some hf
  refine kVv (As := []) (rest := []) (wd := (wM ad cI cZ)) (q0 := 0) (ci := 7) X (c_X7_findArticles (l := l) (D := D) (σ := σ) hN hc) (cw_X7_178 X.2.2.2.2.1 ⟨Nat.le_of_ble_eq_true rfl, Nat.le_of_ble_eq_true rfl⟩) rfl rfl hP hS hl rfl rfl (Nat.le_of_ble_eq_true rfl) dX7_isStory_1 (fun H locs hP hS => ?_)
  refine lv_iload_n hx hb dX7_isStory_4 rfl (lv_at hl 1 rfl) ?_
  refine lv_iconst (v := 0) hx hb dX7_isStory_5 rfl ?_
  refine lv_aload_n hx hb dX7_isStory_6 rfl (lv_at hl 0 rfl) ?_
  obtain ⟨x2, e_x2, hf⟩ := lf_some hf
  refine fg_X7_153 X hP e_x2 dX7_isStory_7 ?_
  refine lv_iconst (v := 1) hx hb dX7_isStory_10 rfl ?_
  refine lv_isub hx hb dX7_isStory_11 ?_
  obtain ⟨x3, hc, hf⟩ := bi_some hf
  refine kSi (As := [.int a1, .int 0, .int (x2 - 1)]) (rest := []) (wd := (wM ad cI cZ)) X (c_X7_within (l := l) (D := D) (σ := σ1) hN hc) (cw_X7_102 X.2.2.2.2.1 ⟨Nat.le_of_ble_eq_true rfl, Nat.le_of_ble_eq_true rfl⟩) hP hS hl rfl rfl (Nat.le_of_ble_eq_true rfl) dX7_isStory_12 (fun H locs hP hS => ?_)
  exact rZe X hP hS hf dX7_isStory_15
set_option maxHeartbeats 4000000 in
set_option maxRecDepth 100000 in
theorem c_X7_isStory {l : Launch} {D : va_G} {ad : Nat → Nat} {cI cZ : ClassId} (hN : nj ad 30) {σ : St} {a1 : Int32} {r : Int32} {σ' : St} (hf : f_X7_isStory a1 σ = some (r, σ')) : Met l yX7_isStory (.code yX7_isStory cX7_isStory 2 (some .boolean) :: wsL_law) rm_X7_isStory (va_Pc [.ref (ad 0), .int a1] (pw D (wM ad cI cZ) [(cI, .int), (cZ, .boolean)] σ)) (qI D (wM ad cI cZ) (aw ad 30) r σ') 0 0 (aw ad 30) :=
  met_mk (by decide) rfl (Nat.le_of_ble_eq_true rfl) (fun p e s m below meth c X hP ls hl => b_X7_isStory X hN hf hP va_S.rf hl)
set_option maxHeartbeats 4000000 in
set_option maxRecDepth 100000 in
theorem b_X7_ofStory (X : cx p s m meth c args cX7_ofStory 4 (some .int) RX7 D [(cI, .int), (cZ, .boolean)]) (hN : nj ad 30) {σ : St} {a1 a2 : Int32} {r : Int32} {σ' : St} (hf : f_X7_ofStory a1 a2 σ = some (r, σ')) {H : Heap} {locs : List Loc} {ls : Array Slot} (hP : va_P D vwCl (wM ad cI cZ σ) H) (hS : va_S (aw ad 30) s.heap H locs) (hl : lv_has ls 4 [(0, .ref (ad 0)), (1, .int a1), (2, .int a2)]) : W p l e rm_X7_ofStory s m args below meth c H locs 0 0 (MQ below (qI D (wM ad cI cZ) (aw ad 30) r σ') args s 0 0 (aw ad 30)) (F0 m 0 ls []) := by
  obtain ⟨hx, hb, hml, hown, hts, hr, hlk, hK⟩ := id X
  rw [f_X7_ofStory] at hf
  refine lv_aload_n hx hb dX7_ofStory_0 rfl (lv_at hl 0 rfl) ?_
  refine lv_iload_n hx hb dX7_ofStory_1 rfl (lv_at hl 1 rfl) ?_
  obtain ⟨x1, σ2, hc, hf⟩ := bp_some hf
  refine kVi (As := [.int a1]) (rest := []) (wd := (wM ad cI cZ)) (q0 := 0) (ci := 7) X (c_X7_isStory (l := l) (D := D) (σ := σ) hN hc) (cw_X7_181 X.2.2.2.2.1 ⟨Nat.le_of_ble_eq_true rfl, Nat.le_of_ble_eq_true rfl⟩) rfl rfl hP hS hl rfl rfl (Nat.le_of_ble_eq_true rfl) dX7_ofStory_2 (fun H locs hP hS => ?_)
  refine lv_if_ne (tgt := 10) hx hb dX7_ofStory_5 (by decide) (fun hq => ?_) (fun hq => ?_)
  · have hf := if_f hq hf
    refine lv_aload_n hx hb dX7_ofStory_10 rfl (lv_at hl 0 rfl) ?_
    refine fg_X7_67 X hP dX7_ofStory_11 ?_
    refine lv_iload_n hx hb dX7_ofStory_14 rfl (lv_at hl 1 rfl) ?_
    obtain ⟨hi, x3, e_x3, hf⟩ := ld_some hf
    refine ldr (t0 := 0) X hP wM_20 rfl hi e_x3 dX7_ofStory_15 ?_
    refine lv_istore_n (lv' := [(3, .int x3), (0, .ref (ad 0)), (1, .int a1), (2, .int a2)]) hx hb dX7_ofStory_16 rfl hl (by decide) rfl (fun ls hl => ?_)
    refine lv_iload_n hx hb dX7_ofStory_17 rfl (lv_at hl 3 rfl) ?_
    by_cases q0 : a2 = 0
    · have hf := if_t q0 hf
      refine lv_tableIn (off := 50) (tgt := 68) hx hb dX7_ofStory_18 (by rw [q0]; decide) (by rw [q0]; decide) (by rw [q0]; rfl) (by decide) ?_
      refine lv_aload_n hx hb dX7_ofStory_68 rfl (lv_at hl 1 rfl) ?_
      refine fg_X7_13 X hP dX7_ofStory_69 ?_
      refine lv_iload_n hx hb dX7_ofStory_72 rfl (lv_at hl 0 rfl) ?_
      obtain ⟨hi, x4, e_x4, hf⟩ := ld_some hf
      refine ldr (t0 := 0) X hP wM_2 rfl hi e_x4 dX7_ofStory_73 ?_
      refine lv_if_ne (tgt := 81) hx hb dX7_ofStory_74 (by decide) (fun hq => ?_) (fun hq => ?_)
      · have hf := if_f hq hf
        refine lv_bipush (v := (-9)) hx hb dX7_ofStory_81 rfl ?_
        exact rIe X hP hS hf dX7_ofStory_83
      · have hf := if_t hq hf
        refine lv_iload_n hx hb dX7_ofStory_77 rfl (lv_at hl 0 rfl) ?_
        refine lv_goto (tgt := 83) hx hb dX7_ofStory_78 (by decide) ?_
        exact rIe X hP hS hf dX7_ofStory_83
    · have hf := if_f q0 hf
      by_cases q1 : a2 = 1
      · have hf := if_t q1 hf
        refine lv_tableIn (off := 66) (tgt := 84) hx hb dX7_ofStory_18 (by rw [q1]; decide) (by rw [q1]; decide) (by rw [q1]; rfl) (by decide) ?_
        refine lv_aload_n hx hb dX7_ofStory_84 rfl (lv_at hl 1 rfl) ?_
        refine fg_X7_61 X hP dX7_ofStory_85 ?_
        refine lv_iload_n hx hb dX7_ofStory_88 rfl (lv_at hl 0 rfl) ?_
        obtain ⟨hi, x5, e_x5, hf⟩ := ld_some hf
        refine ldr (t0 := 0) X hP wM_18 rfl hi e_x5 dX7_ofStory_89 ?_
        exact rIe X hP hS hf dX7_ofStory_90
      · have hf := if_f q1 hf
        by_cases q2 : a2 = 2
        · have hf := if_t q2 hf
          refine lv_tableIn (off := 73) (tgt := 91) hx hb dX7_ofStory_18 (by rw [q2]; decide) (by rw [q2]; decide) (by rw [q2]; rfl) (by decide) ?_
          refine lv_aload_n hx hb dX7_ofStory_91 rfl (lv_at hl 1 rfl) ?_
          refine lv_iload_n hx hb dX7_ofStory_92 rfl (lv_at hl 2 rfl) ?_
          obtain ⟨x6, hc, hf⟩ := bi_some hf
          refine kVi (As := [.int a1]) (rest := []) (wd := (wM ad cI cZ)) (q0 := 0) (ci := 7) X (c_X7_wordsIn (l := l) (D := D) (σ := σ2) hN hc) (cw_X7_184 X.2.2.2.2.1 ⟨Nat.le_of_ble_eq_true rfl, Nat.le_of_ble_eq_true rfl⟩) rfl rfl hP hS hl rfl rfl (Nat.le_of_ble_eq_true rfl) dX7_ofStory_93 (fun H locs hP hS => ?_)
          exact rIe X hP hS hf dX7_ofStory_96
        · have hf := if_f q2 hf
          by_cases q3 : a2 = 3
          · have hf := if_t q3 hf
            refine lv_tableIn (off := 79) (tgt := 97) hx hb dX7_ofStory_18 (by rw [q3]; decide) (by rw [q3]; decide) (by rw [q3]; rfl) (by decide) ?_
            refine lv_aload_n hx hb dX7_ofStory_97 rfl (lv_at hl 1 rfl) ?_
            refine lv_iload_n hx hb dX7_ofStory_98 rfl (lv_at hl 2 rfl) ?_
            refine lv_iconst (v := 1) hx hb dX7_ofStory_99 rfl ?_
            obtain ⟨x7, hc, hf⟩ := bi_some hf
            refine kVi (As := [.int a1, .int 1]) (rest := []) (wd := (wM ad cI cZ)) (q0 := 0) (ci := 7) X (c_X7_manyIn (l := l) (D := D) (σ := σ2) hN hc) (cw_X7_187 X.2.2.2.2.1 ⟨Nat.le_of_ble_eq_true rfl, Nat.le_of_ble_eq_true rfl⟩) rfl rfl hP hS hl rfl rfl (Nat.le_of_ble_eq_true rfl) dX7_ofStory_100 (fun H locs hP hS => ?_)
            exact rIe X hP hS hf dX7_ofStory_103
          · have hf := if_f q3 hf
            by_cases q4 : a2 = 4
            · have hf := if_t q4 hf
              refine lv_tableIn (off := 86) (tgt := 104) hx hb dX7_ofStory_18 (by rw [q4]; decide) (by rw [q4]; decide) (by rw [q4]; rfl) (by decide) ?_
              refine lv_aload_n hx hb dX7_ofStory_104 rfl (lv_at hl 1 rfl) ?_
              refine lv_iload_n hx hb dX7_ofStory_105 rfl (lv_at hl 2 rfl) ?_
              refine lv_iconst (v := 0) hx hb dX7_ofStory_106 rfl ?_
              obtain ⟨x8, hc, hf⟩ := bi_some hf
              refine kVi (As := [.int a1, .int 0]) (rest := []) (wd := (wM ad cI cZ)) (q0 := 0) (ci := 7) X (c_X7_manyIn (l := l) (D := D) (σ := σ2) hN hc) (cw_X7_187 X.2.2.2.2.1 ⟨Nat.le_of_ble_eq_true rfl, Nat.le_of_ble_eq_true rfl⟩) rfl rfl hP hS hl rfl rfl (Nat.le_of_ble_eq_true rfl) dX7_ofStory_107 (fun H locs hP hS => ?_)
              exact rIe X hP hS hf dX7_ofStory_110
            · have hf := if_f q4 hf
              by_cases q5 : a2 = 5
              · have hf := if_t q5 hf
                refine lv_tableIn (off := 93) (tgt := 111) hx hb dX7_ofStory_18 (by rw [q5]; decide) (by rw [q5]; decide) (by rw [q5]; rfl) (by decide) ?_
                refine lv_aload_n hx hb dX7_ofStory_111 rfl (lv_at hl 1 rfl) ?_
                refine fg_X7_80 X hP dX7_ofStory_112 ?_
                refine lv_iload_n hx hb dX7_ofStory_115 rfl (lv_at hl 2 rfl) ?_
                obtain ⟨hi, x9, e_x9, hf⟩ := ld_some hf
                refine ldr (t0 := 0) X hP wM_24 rfl hi e_x9 dX7_ofStory_116 ?_
                exact rIe X hP hS hf dX7_ofStory_117
              · have hf := if_f q5 hf
                by_cases q6 : a2 = 6
                · have hf := if_t q6 hf
                  refine lv_tableIn (off := 100) (tgt := 118) hx hb dX7_ofStory_18 (by rw [q6]; decide) (by rw [q6]; decide) (by rw [q6]; rfl) (by decide) ?_
                  refine lv_aload_n hx hb dX7_ofStory_118 rfl (lv_at hl 1 rfl) ?_
                  refine fg_X7_83 X hP dX7_ofStory_119 ?_
                  refine lv_iload_n hx hb dX7_ofStory_122 rfl (lv_at hl 2 rfl) ?_
                  obtain ⟨hi, x10, e_x10, hf⟩ := ld_some hf
                  refine ldr (t0 := 0) X hP wM_25 rfl hi e_x10 dX7_ofStory_123 ?_
                  exact rIe X hP hS hf dX7_ofStory_124
                · have hf := if_f q6 hf
                  by_cases q7 : a2 = 7
                  · have hf := if_t q7 hf
                    refine lv_tableIn (off := 107) (tgt := 125) hx hb dX7_ofStory_18 (by rw [q7]; decide) (by rw [q7]; decide) (by rw [q7]; rfl) (by decide) ?_
                    refine lv_aload_n hx hb dX7_ofStory_125 rfl (lv_at hl 1 rfl) ?_
                    refine fg_X7_95 X hP dX7_ofStory_126 ?_
                    refine lv_iload_n hx hb dX7_ofStory_129 rfl (lv_at hl 2 rfl) ?_
                    obtain ⟨hi, x11, e_x11, hf⟩ := ld_some hf
                    refine ldr (t0 := 0) X hP wM_29 rfl hi e_x11 dX7_ofStory_130 ?_
                    exact rIe X hP hS hf dX7_ofStory_131
                  · have hf := if_f q7 hf
                    by_cases q8 : a2 = 8
                    · have hf := if_t q8 hf
                      refine lv_tableIn (off := 114) (tgt := 132) hx hb dX7_ofStory_18 (by rw [q8]; decide) (by rw [q8]; decide) (by rw [q8]; rfl) (by decide) ?_
                      refine lv_aload_n hx hb dX7_ofStory_132 rfl (lv_at hl 1 rfl) ?_
                      refine lv_iload_n hx hb dX7_ofStory_133 rfl (lv_at hl 2 rfl) ?_
                      obtain ⟨x12, hc, hf⟩ := bi_some hf
                      refine kVi (As := [.int a1]) (rest := []) (wd := (wM ad cI cZ)) (q0 := 0) (ci := 7) X (c_X7_isBroken (l := l) (D := D) (σ := σ2) hN hc) (cw_X7_191 X.2.2.2.2.1 ⟨Nat.le_of_ble_eq_true rfl, Nat.le_of_ble_eq_true rfl⟩) rfl rfl hP hS hl rfl rfl (Nat.le_of_ble_eq_true rfl) dX7_ofStory_134 (fun H locs hP hS => ?_)
                      refine lv_if_eq (tgt := 144) hx hb dX7_ofStory_137 (by decide) (fun hq => ?_) (fun hq => ?_)
                      · have hf := if_t hq hf
                        refine lv_iconst (v := 0) hx hb dX7_ofStory_144 rfl ?_
                        exact rIe X hP hS hf dX7_ofStory_145
                      · have hf := if_f hq hf
                        refine lv_iconst (v := 1) hx hb dX7_ofStory_140 rfl ?_
                        refine lv_goto (tgt := 145) hx hb dX7_ofStory_141 (by decide) ?_
                        exact rIe X hP hS hf dX7_ofStory_145
                    · have hf := if_f q8 hf
                      refine lv_tableOut (tgt := 146) hx hb dX7_ofStory_18 (sw_out 8 (by decide) (fun j hj => ?_)) (by decide) ?_
                      · match j, hj with
                        | 0, _ => exact q0
                        | 1, _ => exact q1
                        | 2, _ => exact q2
                        | 3, _ => exact q3
                        | 4, _ => exact q4
                        | 5, _ => exact q5
                        | 6, _ => exact q6
                        | 7, _ => exact q7
                        | 8, _ => exact q8
                        | j + 9, hj => exact absurd hj (by omega)
                      · refine lv_bipush (v := (-2)) hx hb dX7_ofStory_146 rfl ?_
                        exact rIe X hP hS hf dX7_ofStory_148
  · have hf := if_t hq hf
    refine lv_iconst (v := (-1)) hx hb dX7_ofStory_8 rfl ?_
    exact rIe X hP hS hf dX7_ofStory_9
set_option maxHeartbeats 4000000 in
set_option maxRecDepth 100000 in
theorem c_X7_ofStory {l : Launch} {D : va_G} {ad : Nat → Nat} {cI cZ : ClassId} (hN : nj ad 30) {σ : St} {a1 a2 : Int32} {r : Int32} {σ' : St} (hf : f_X7_ofStory a1 a2 σ = some (r, σ')) : Met l yX7_ofStory (.code yX7_ofStory cX7_ofStory 4 (some .int) :: wsL_law) rm_X7_ofStory (va_Pc [.ref (ad 0), .int a1, .int a2] (pw D (wM ad cI cZ) [(cI, .int), (cZ, .boolean)] σ)) (qI D (wM ad cI cZ) (aw ad 30) r σ') 0 0 (aw ad 30) :=
  met_mk (by decide) rfl (Nat.le_of_ble_eq_true rfl) (fun p e s m below meth c X hP ls hl => b_X7_ofStory X hN hf hP va_S.rf hl)
end WALK
