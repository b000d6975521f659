section WALK
variable {p : Program} {l : Launch} {e : Env} {s : State} {m : MethodId} {args : Array Value} {below : List Frame} {meth : Method} {c : Code} {D : va_G} {ad : Nat → Nat} {cI cZ : ClassId}
set_option maxHeartbeats 4000000 in
set_option maxRecDepth 100000 in
theorem b_X7_takes_B116 (X : cx p s m meth c args cX7_takes 5 (some .boolean) RX7 D [(cI, .int), (cZ, .boolean)]) (hN : nj ad 30) {σ : St} {a2 a3 t0 : Int32} {r : Int32} (hf : f_X7_takes_B116 σ a2 a3 t0 = some r) {H : Heap} {locs : List Loc} {ls : Array Slot} (hP : va_P D vwCl (wM ad cI cZ σ) H) (hS : va_S (aw ad 30) s.heap H locs) (hl : lv_has ls 5 [(0, .ref (ad 0)), (2, .int a2), (3, .int a3)]) : W p l e rm_X7_takes s m args below meth c H locs 0 0 (MQ below (qI D (wM ad cI cZ) (aw ad 30) r σ) args s 0 0 (aw ad 30)) (F0 m 116 ls [.int t0]) := by
  obtain ⟨hx, hb, hml, hown, hts, hr, hlk, hK⟩ := id X
  rw [f_X7_takes_B116] at hf
  refine lv_istore (lv' := [(4, .int t0), (0, .ref (ad 0)), (2, .int a2), (3, .int a3)]) hx hb dX7_takes_116 hl (by decide) rfl (fun ls hl => ?_)
  refine lv_iload_n hx hb dX7_takes_118 rfl (lv_at hl 3 rfl) ?_
  refine lv_iload hx hb dX7_takes_119 (lv_at hl 0 rfl) ?_
  refine lv_icmp_gt (tgt := 150) hx hb dX7_takes_121 (by decide) (fun hq => ?_) (fun hq => ?_)
  · have hf := if_t hq hf
    refine lv_iconst (v := 0) hx hb dX7_takes_150 rfl ?_
    exact rZ X hP hS hf dX7_takes_151
  · have hf := if_f hq hf
    refine lv_aload_n hx hb dX7_takes_124 rfl (lv_at hl 1 rfl) ?_
    refine lv_aload_n hx hb dX7_takes_125 rfl (lv_at hl 1 rfl) ?_
    refine fg_X7_7 X hP dX7_takes_126 ?_
    refine lv_iload_n hx hb dX7_takes_129 rfl (lv_at hl 2 rfl) ?_
    obtain ⟨hi, x1, e_x1, hf⟩ := ld_some hf
    refine ldr (t0 := 0) X hP wM_1 rfl hi e_x1 dX7_takes_130 ?_
    refine lv_aload_n hx hb dX7_takes_131 rfl (lv_at hl 1 rfl) ?_
    refine fg_X7_16 X hP dX7_takes_132 ?_
    refine lv_iload_n hx hb dX7_takes_135 rfl (lv_at hl 2 rfl) ?_
    obtain ⟨hi, x2, e_x2, hf⟩ := ld_some hf
    refine ldr (t0 := 0) X hP wM_3 rfl hi e_x2 dX7_takes_136 ?_
    refine lv_iload_n hx hb dX7_takes_137 rfl (lv_at hl 3 rfl) ?_
    refine lv_iload hx hb dX7_takes_138 (lv_at hl 0 rfl) ?_
    obtain ⟨x3, hc, hf⟩ := bi_some hf
    refine kVi (As := [.int x1, .int x2, .int a3, .int t0]) (rest := []) (wd := (wM ad cI cZ)) (q0 := 0) (ci := 7) X (c_X7_isUpright (l := l) (D := D) (σ := σ) hN hc) (cw_X7_117 X.2.2.2.2.1 ⟨Nat.le_of_ble_eq_true rfl, Nat.le_of_ble_eq_true rfl⟩) rfl rfl hP hS hl rfl rfl (Nat.le_of_ble_eq_true rfl) dX7_takes_140 (fun H locs hP hS => ?_)
    refine lv_if_ne (tgt := 150) hx hb dX7_takes_143 (by decide) (fun hq => ?_) (fun hq => ?_)
    · have hf := if_f hq hf
      refine lv_iconst (v := 0) hx hb dX7_takes_150 rfl ?_
      exact rZ X hP hS hf dX7_takes_151
    · have hf := if_t hq hf
      refine lv_iconst (v := 1) hx hb dX7_takes_146 rfl ?_
      refine lv_goto (tgt := 151) hx hb dX7_takes_147 (by decide) ?_
      exact rZ X hP hS hf dX7_takes_151
set_option maxHeartbeats 4000000 in
set_option maxRecDepth 100000 in
theorem b_X7_takes_B85 (X : cx p s m meth c args cX7_takes 5 (some .boolean) RX7 D [(cI, .int), (cZ, .boolean)]) (hN : nj ad 30) {σ : St} {a1 a2 t0 : Int32} {r : Int32} (hf : f_X7_takes_B85 σ a1 a2 t0 = some r) {H : Heap} {locs : List Loc} {ls : Array Slot} (hP : va_P D vwCl (wM ad cI cZ σ) H) (hS : va_S (aw ad 30) s.heap H locs) (hl : lv_has ls 5 [(0, .ref (ad 0)), (1, .int a1), (2, .int a2)]) : W p l e rm_X7_takes s m args below meth c H locs 0 0 (MQ below (qI D (wM ad cI cZ) (aw ad 30) r σ) args s 0 0 (aw ad 30)) (F0 m 85 ls [.int t0]) := by
  obtain ⟨hx, hb, hml, hown, hts, hr, hlk, hK⟩ := id X
  rw [f_X7_takes_B85] at hf
  refine lv_istore_n (lv' := [(3, .int t0), (0, .ref (ad 0)), (1, .int a1), (2, .int a2)]) hx hb dX7_takes_85 rfl hl (by decide) rfl (fun ls hl => ?_)
  refine lv_aload_n hx hb dX7_takes_86 rfl (lv_at hl 1 rfl) ?_
  refine fg_X7_25 X hP dX7_takes_87 ?_
  refine lv_iload_n hx hb dX7_takes_90 rfl (lv_at hl 3 rfl) ?_
  obtain ⟨hi, x1, e_x1, hf⟩ := ld_some hf
  refine ldr (t0 := 0) X hP wM_6 rfl hi e_x1 dX7_takes_91 ?_
  refine lv_aload_n hx hb dX7_takes_92 rfl (lv_at hl 1 rfl) ?_
  refine fg_X7_25 X hP dX7_takes_93 ?_
  refine lv_iload_n hx hb dX7_takes_96 rfl (lv_at hl 2 rfl) ?_
  obtain ⟨hi, x2, e_x2, hf⟩ := ld_some hf
  refine ldr (t0 := 0) X hP wM_6 rfl hi e_x2 dX7_takes_97 ?_
  refine lv_icmp_ge (tgt := 110) hx hb dX7_takes_98 (by decide) (fun hq => ?_) (fun hq => ?_)
  · have hf := if_t hq hf
    refine lv_aload_n hx hb dX7_takes_110 rfl (lv_at hl 1 rfl) ?_
    refine fg_X7_25 X hP dX7_takes_111 ?_
    refine lv_iload_n hx hb dX7_takes_114 rfl (lv_at hl 2 rfl) ?_
    obtain ⟨hi, x3, e_x3, hf⟩ := ld_some hf
    refine ldr (t0 := 0) X hP wM_6 rfl hi e_x3 dX7_takes_115 ?_
    exact b_X7_takes_B116 X hN hf hP hS (lv_sub hl [1, 3, 0] rfl)
  · have hf := if_f hq hf
    refine lv_aload_n hx hb dX7_takes_101 rfl (lv_at hl 1 rfl) ?_
    refine fg_X7_25 X hP dX7_takes_102 ?_
    refine lv_iload_n hx hb dX7_takes_105 rfl (lv_at hl 3 rfl) ?_
    obtain ⟨hi, x4, e_x4, hf⟩ := ld_some hf
    refine ldr (t0 := 0) X hP wM_6 rfl hi e_x4 dX7_takes_106 ?_
    refine lv_goto (tgt := 116) hx hb dX7_takes_107 (by decide) ?_
    exact b_X7_takes_B116 X hN hf hP hS (lv_sub hl [1, 3, 0] rfl)
set_option maxHeartbeats 4000000 in
set_option maxRecDepth 100000 in
theorem b_X7_takes (X : cx p s m meth c args cX7_takes 5 (some .boolean) RX7 D [(cI, .int), (cZ, .boolean)]) (hN : nj ad 30) {σ : St} {a1 a2 : Int32} {r : Int32} (hf : f_X7_takes a1 a2 σ = some r) {H : Heap} {locs : List Loc} {ls : Array Slot} (hP : va_P D vwCl (wM ad cI cZ σ) H) (hS : va_S (aw ad 30) s.heap H locs) (hl : lv_has ls 5 [(0, .ref (ad 0)), (1, .int a1), (2, .int a2)]) : W p l e rm_X7_takes s m args below meth c H locs 0 0 (MQ below (qI D (wM ad cI cZ) (aw ad 30) r σ) args s 0 0 (aw ad 30)) (F0 m 0 ls []) := by
  obtain ⟨hx, hb, hml, hown, hts, hr, hlk, hK⟩ := id X
  rw [f_X7_takes] at hf
  refine lv_aload_n hx hb dX7_takes_0 rfl (lv_at hl 0 rfl) ?_
  refine fg_X7_13 X hP dX7_takes_1 ?_
  refine lv_iload_n hx hb dX7_takes_4 rfl (lv_at hl 1 rfl) ?_
  obtain ⟨hi, x1, e_x1, hf⟩ := ld_some hf
  refine ldr (t0 := 0) X hP wM_2 rfl hi e_x1 dX7_takes_5 ?_
  refine lv_iconst (v := 1) hx hb dX7_takes_6 rfl ?_
  refine lv_icmp_ne (tgt := 53) hx hb dX7_takes_7 (by decide) (fun hq => ?_) (fun hq => ?_)
  · have hf := if_f hq hf
    refine lv_iconst (v := 0) hx hb dX7_takes_53 rfl ?_
    exact rZ X hP hS hf dX7_takes_54
  · have hf := if_t hq hf
    refine lv_aload_n hx hb dX7_takes_10 rfl (lv_at hl 0 rfl) ?_
    refine fg_X7_55 X hP dX7_takes_11 ?_
    refine lv_iload_n hx hb dX7_takes_14 rfl (lv_at hl 1 rfl) ?_
    obtain ⟨hi, x2, e_x2, hf⟩ := ld_some hf
    refine ldr (t0 := 0) X hP wM_16 rfl hi e_x2 dX7_takes_15 ?_
    refine lv_bipush (v := (-9)) hx hb dX7_takes_16 rfl ?_
    refine lv_icmp_eq (tgt := 53) hx hb dX7_takes_18 (by decide) (fun hq => ?_) (fun hq => ?_)
    · have hf := if_t hq hf
      refine lv_iconst (v := 0) hx hb dX7_takes_53 rfl ?_
      exact rZ X hP hS hf dX7_takes_54
    · have hf := if_f hq hf
      refine lv_aload_n hx hb dX7_takes_21 rfl (lv_at hl 0 rfl) ?_
      refine fg_X7_7 X hP dX7_takes_22 ?_
      refine lv_iload_n hx hb dX7_takes_25 rfl (lv_at hl 1 rfl) ?_
      obtain ⟨hi, x3, e_x3, hf⟩ := ld_some hf
      refine ldr (t0 := 0) X hP wM_1 rfl hi e_x3 dX7_takes_26 ?_
      refine lv_aload_n hx hb dX7_takes_27 rfl (lv_at hl 0 rfl) ?_
      refine fg_X7_7 X hP dX7_takes_28 ?_
      refine lv_iload_n hx hb dX7_takes_31 rfl (lv_at hl 2 rfl) ?_
      obtain ⟨hi, x4, e_x4, hf⟩ := ld_some hf
      refine ldr (t0 := 0) X hP wM_1 rfl hi e_x4 dX7_takes_32 ?_
      refine lv_icmp_ne (tgt := 53) hx hb dX7_takes_33 (by decide) (fun hq => ?_) (fun hq => ?_)
      · have hf := if_f hq hf
        refine lv_iconst (v := 0) hx hb dX7_takes_53 rfl ?_
        exact rZ X hP hS hf dX7_takes_54
      · have hf := if_t hq hf
        refine lv_aload_n hx hb dX7_takes_36 rfl (lv_at hl 0 rfl) ?_
        refine fg_X7_19 X hP dX7_takes_37 ?_
        refine lv_iload_n hx hb dX7_takes_40 rfl (lv_at hl 1 rfl) ?_
        obtain ⟨hi, x5, e_x5, hf⟩ := ld_some hf
        refine ldr (t0 := 0) X hP wM_4 rfl hi e_x5 dX7_takes_41 ?_
        refine lv_aload_n hx hb dX7_takes_42 rfl (lv_at hl 0 rfl) ?_
        refine fg_X7_16 X hP dX7_takes_43 ?_
        refine lv_iload_n hx hb dX7_takes_46 rfl (lv_at hl 2 rfl) ?_
        obtain ⟨hi, x6, e_x6, hf⟩ := ld_some hf
        refine ldr (t0 := 0) X hP wM_3 rfl hi e_x6 dX7_takes_47 ?_
        refine lv_iconst (v := 1) hx hb dX7_takes_48 rfl ?_
        refine lv_isub hx hb dX7_takes_49 ?_
        refine lv_icmp_eq (tgt := 55) hx hb dX7_takes_50 (by decide) (fun hq => ?_) (fun hq => ?_)
        · have hf := if_t hq hf
          refine lv_aload_n hx hb dX7_takes_55 rfl (lv_at hl 0 rfl) ?_
          refine fg_X7_22 X hP dX7_takes_56 ?_
          refine lv_iload_n hx hb dX7_takes_59 rfl (lv_at hl 2 rfl) ?_
          obtain ⟨hi, x7, e_x7, hf⟩ := ld_some hf
          refine ldr (t0 := 0) X hP wM_5 rfl hi e_x7 dX7_takes_60 ?_
          refine lv_aload_n hx hb dX7_takes_61 rfl (lv_at hl 0 rfl) ?_
          refine fg_X7_22 X hP dX7_takes_62 ?_
          refine lv_iload_n hx hb dX7_takes_65 rfl (lv_at hl 1 rfl) ?_
          obtain ⟨hi, x8, e_x8, hf⟩ := ld_some hf
          refine ldr (t0 := 0) X hP wM_5 rfl hi e_x8 dX7_takes_66 ?_
          refine lv_icmp_le (tgt := 79) hx hb dX7_takes_67 (by decide) (fun hq => ?_) (fun hq => ?_)
          · have hf := if_t hq hf
            refine lv_aload_n hx hb dX7_takes_79 rfl (lv_at hl 0 rfl) ?_
            refine fg_X7_22 X hP dX7_takes_80 ?_
            refine lv_iload_n hx hb dX7_takes_83 rfl (lv_at hl 1 rfl) ?_
            obtain ⟨hi, x9, e_x9, hf⟩ := ld_some hf
            refine ldr (t0 := 0) X hP wM_5 rfl hi e_x9 dX7_takes_84 ?_
            exact b_X7_takes_B85 X hN hf hP hS (lv_sub hl [0, 1, 2] rfl)
          · have hf := if_f hq hf
            refine lv_aload_n hx hb dX7_takes_70 rfl (lv_at hl 0 rfl) ?_
            refine fg_X7_22 X hP dX7_takes_71 ?_
            refine lv_iload_n hx hb dX7_takes_74 rfl (lv_at hl 2 rfl) ?_
            obtain ⟨hi, x10, e_x10, hf⟩ := ld_some hf
            refine ldr (t0 := 0) X hP wM_5 rfl hi e_x10 dX7_takes_75 ?_
            refine lv_goto (tgt := 85) hx hb dX7_takes_76 (by decide) ?_
            exact b_X7_takes_B85 X hN hf hP hS (lv_sub hl [0, 1, 2] rfl)
        · have hf := if_f hq hf
          refine lv_iconst (v := 0) hx hb dX7_takes_53 rfl ?_
          exact rZ X hP hS hf dX7_takes_54
set_option maxHeartbeats 4000000 in
set_option maxRecDepth 100000 in
theorem c_X7_takes {l : Launch} {D : va_G} {ad : Nat → Nat} {cI cZ : ClassId} (hN : nj ad 30) {σ : St} {a1 a2 : Int32} {r : Int32} (hf : f_X7_takes a1 a2 σ = some r) : Met l yX7_takes (.code yX7_takes cX7_takes 5 (some .boolean) :: wsL_law) rm_X7_takes (va_Pc [.ref (ad 0), .int a1, .int a2] (pw D (wM ad cI cZ) [(cI, .int), (cZ, .boolean)] σ)) (qI D (wM ad cI cZ) (aw ad 30) r σ) 0 0 (aw ad 30) :=
  met_mk (by decide) rfl (Nat.le_of_ble_eq_true rfl) (fun p e s m below meth c X hP ls hl => b_X7_takes X hN hf hP va_S.rf hl)
set_option maxHeartbeats 4000000 in
set_option maxRecDepth 100000 in
theorem b_X7_takerNow_B43 (X : cx p s m meth c args cX7_takerNow 4 (some .int) RX7 D [(cI, .int), (cZ, .boolean)]) (hN : nj ad 30) {σ : St} {a1 a3 : Int32} {r : Int32} {K : Int32 → Int32 → Int32 → Option Int32} (hk : ∀ {b1 b2 b3 : Int32} {H : Heap} {locs : List Loc} {ls : Array Slot}, K b1 b2 b3 = some r → va_P D vwCl (wM ad cI cZ σ) H → va_S (aw ad 30) s.heap H locs → lv_has ls 4 [(0, .ref (ad 0)), (1, .int b1), (2, .int b2), (3, .int b3)] → W p l e rm_X7_takerNow s m args below meth c H locs 0 0 (MQ below (qI D (wM ad cI cZ) (aw ad 30) r σ) args s 0 0 (aw ad 30)) (F0 m 5 ls [])) (hf : f_X7_takerNow_B43 σ K a1 a3 = some r) {H : Heap} {locs : List Loc} {ls : Array Slot} (hP : va_P D vwCl (wM ad cI cZ σ) H) (hS : va_S (aw ad 30) s.heap H locs) (hl : lv_has ls 4 [(0, .ref (ad 0)), (1, .int a1), (3, .int a3)]) : W p l e rm_X7_takerNow s m args below meth c H locs 0 0 (MQ below (qI D (wM ad cI cZ) (aw ad 30) r σ) args s 0 0 (aw ad 30)) (F0 m 43 ls []) := by
  obtain ⟨hx, hb, hml, hown, hts, hr, hlk, hK⟩ := id X
  rw [f_X7_takerNow_B43] at hf
  refine lv_iload_n hx hb dX7_takerNow_43 rfl (lv_at hl 2 rfl) ?_
  refine lv_goto (tgt := 48) hx hb dX7_takerNow_44 (by decide) ?_
  refine lv_istore_n (lv' := [(2, .int a3), (0, .ref (ad 0)), (1, .int a1), (3, .int a3)]) hx hb dX7_takerNow_48 rfl hl (by decide) rfl (fun ls hl => ?_)
  refine lv_iinc (v := (a3 + 1)) (lv' := [(3, .int (a3 + 1)), (2, .int a3), (0, .ref (ad 0)), (1, .int a1)]) hx hb dX7_takerNow_49 hl (k := 3) rfl rfl (by decide) rfl (fun ls hl => ?_)
  refine lv_goto (tgt := 5) hx hb dX7_takerNow_52 (by decide) ?_
  exact hk hf hP hS (lv_sub hl [2, 3, 1, 0] rfl)
set_option maxHeartbeats 4000000 in
set_option maxRecDepth 100000 in
theorem b_X7_takerNow_L5 (X : cx p s m meth c args cX7_takerNow 4 (some .int) RX7 D [(cI, .int), (cZ, .boolean)]) (hN : nj ad 30) : ∀ (n : Nat) {σ : St} {a1 a2 a3 : Int32} {r : Int32}, f_X7_takerNow_L5 σ n a1 a2 a3 = some r → ∀ {H : Heap} {locs : List Loc} {ls : Array Slot}, va_P D vwCl (wM ad cI cZ σ) H → va_S (aw ad 30) s.heap H locs → lv_has ls 4 [(0, .ref (ad 0)), (1, .int a1), (2, .int a2), (3, .int a3)] → W p l e rm_X7_takerNow s m args below meth c H locs 0 0 (MQ below (qI D (wM ad cI cZ) (aw ad 30) r σ) args s 0 0 (aw ad 30)) (F0 m 5 ls []) := by
  intro n
  induction n with
  | zero =>
    intro σ a1 a2 a3 r hf
    rw [f_X7_takerNow_L5] at hf
    cases hf
  | succ n ih =>
    intro σ a1 a2 a3 r hf H locs ls hP hS hl
    obtain ⟨hx, hb, hml, hown, hts, hr, hlk, hK⟩ := id X
    rw [f_X7_takerNow_L5] at hf
    refine lv_iload_n hx hb dX7_takerNow_5 rfl (lv_at hl 3 rfl) ?_
    refine lv_aload_n hx hb dX7_takerNow_6 rfl (lv_at hl 0 rfl) ?_
    obtain ⟨x1, e_x1, hf⟩ := lf_some hf
    refine fg_X7_98 X hP e_x1 dX7_takerNow_7 ?_
    refine lv_icmp_ge (tgt := 55) hx hb dX7_takerNow_10 (by decide) (fun hq => ?_) (fun hq => ?_)
    · have hf := if_t hq hf
      refine lv_iload_n hx hb dX7_takerNow_55 rfl (lv_at hl 2 rfl) ?_
      exact rI X hP hS hf dX7_takerNow_56
    · have hf := if_f hq hf
      refine lv_aload_n hx hb dX7_takerNow_13 rfl (lv_at hl 0 rfl) ?_
      refine lv_iload_n hx hb dX7_takerNow_14 rfl (lv_at hl 3 rfl) ?_
      refine lv_iload_n hx hb dX7_takerNow_15 rfl (lv_at hl 1 rfl) ?_
      obtain ⟨x2, hc, hf⟩ := bi_some hf
      refine kVi (As := [.int a3, .int a1]) (rest := []) (wd := (wM ad cI cZ)) (q0 := 0) (ci := 7) X (c_X7_takes (l := l) (D := D) (σ := σ) hN hc) (cw_X7_136 X.2.2.2.2.1 ⟨Nat.le_of_ble_eq_true rfl, Nat.le_of_ble_eq_true rfl⟩) rfl rfl hP hS hl rfl rfl (Nat.le_of_ble_eq_true rfl) dX7_takerNow_16 (fun H locs hP hS => ?_)
      refine lv_if_eq (tgt := 47) hx hb dX7_takerNow_19 (by decide) (fun hq => ?_) (fun hq => ?_)
      · have hf := if_t hq hf
        refine lv_iload_n hx hb dX7_takerNow_47 rfl (lv_at hl 2 rfl) ?_
        refine lv_istore_n (lv' := [(2, .int a2), (0, .ref (ad 0)), (1, .int a1), (3, .int a3)]) hx hb dX7_takerNow_48 rfl hl (by decide) rfl (fun ls hl => ?_)
        refine lv_iinc (v := (a3 + 1)) (lv' := [(3, .int (a3 + 1)), (2, .int a2), (0, .ref (ad 0)), (1, .int a1)]) hx hb dX7_takerNow_49 hl (k := 3) rfl rfl (by decide) rfl (fun ls hl => ?_)
        refine lv_goto (tgt := 5) hx hb dX7_takerNow_52 (by decide) ?_
        exact ih hf hP hS (lv_sub hl [2, 3, 1, 0] rfl)
      · have hf := if_f hq hf
        refine lv_iload_n hx hb dX7_takerNow_22 rfl (lv_at hl 2 rfl) ?_
        refine lv_bipush (v := (-9)) hx hb dX7_takerNow_23 rfl ?_
        refine lv_icmp_eq (tgt := 43) hx hb dX7_takerNow_25 (by decide) (fun hq => ?_) (fun hq => ?_)
        · have hf := if_t hq hf
          exact b_X7_takerNow_B43 X hN (fun hf hP hS hl => ih hf hP hS hl) hf hP hS (lv_sub hl [0, 1, 3] rfl)
        · have hf := if_f hq hf
          refine lv_aload_n hx hb dX7_takerNow_28 rfl (lv_at hl 0 rfl) ?_
          refine fg_X7_22 X hP dX7_takerNow_29 ?_
          refine lv_iload_n hx hb dX7_takerNow_32 rfl (lv_at hl 3 rfl) ?_
          obtain ⟨hi, x3, e_x3, hf⟩ := ld_some hf
          refine ldr (t0 := 0) X hP wM_5 rfl hi e_x3 dX7_takerNow_33 ?_
          refine lv_aload_n hx hb dX7_takerNow_34 rfl (lv_at hl 0 rfl) ?_
          refine fg_X7_22 X hP dX7_takerNow_35 ?_
          refine lv_iload_n hx hb dX7_takerNow_38 rfl (lv_at hl 2 rfl) ?_
          obtain ⟨hi, x4, e_x4, hf⟩ := ld_some hf
          refine ldr (t0 := 0) X hP wM_5 rfl hi e_x4 dX7_takerNow_39 ?_
          refine lv_icmp_ge (tgt := 47) hx hb dX7_takerNow_40 (by decide) (fun hq => ?_) (fun hq => ?_)
          · have hf := if_t hq hf
            refine lv_iload_n hx hb dX7_takerNow_47 rfl (lv_at hl 2 rfl) ?_
            refine lv_istore_n (lv' := [(2, .int a2), (0, .ref (ad 0)), (1, .int a1), (3, .int a3)]) hx hb dX7_takerNow_48 rfl hl (by decide) rfl (fun ls hl => ?_)
            refine lv_iinc (v := (a3 + 1)) (lv' := [(3, .int (a3 + 1)), (2, .int a2), (0, .ref (ad 0)), (1, .int a1)]) hx hb dX7_takerNow_49 hl (k := 3) rfl rfl (by decide) rfl (fun ls hl => ?_)
            refine lv_goto (tgt := 5) hx hb dX7_takerNow_52 (by decide) ?_
            exact ih hf hP hS (lv_sub hl [2, 3, 1, 0] rfl)
          · have hf := if_f hq hf
            exact b_X7_takerNow_B43 X hN (fun hf hP hS hl => ih hf hP hS hl) hf hP hS (lv_sub hl [0, 1, 3] rfl)
set_option maxHeartbeats 4000000 in
set_option maxRecDepth 100000 in
theorem b_X7_takerNow (X : cx p s m meth c args cX7_takerNow 4 (some .int) RX7 D [(cI, .int), (cZ, .boolean)]) (hN : nj ad 30) {σ : St} {a1 : Int32} {r : Int32} (hf : f_X7_takerNow a1 σ = some r) {H : Heap} {locs : List Loc} {ls : Array Slot} (hP : va_P D vwCl (wM ad cI cZ σ) H) (hS : va_S (aw ad 30) s.heap H locs) (hl : lv_has ls 4 [(0, .ref (ad 0)), (1, .int a1)]) : W p l e rm_X7_takerNow s m args below meth c H locs 0 0 (MQ below (qI D (wM ad cI cZ) (aw ad 30) r σ) args s 0 0 (aw ad 30)) (F0 m 0 ls []) := by
  obtain ⟨hx, hb, hml, hown, hts, hr, hlk, hK⟩ := id X
  rw [f_X7_takerNow] at hf
  refine lv_bipush (v := (-9)) hx hb dX7_takerNow_0 rfl ?_
  refine lv_istore_n (lv' := [(2, .int (-9)), (0, .ref (ad 0)), (1, .int a1)]) hx hb dX7_takerNow_2 rfl hl (by decide) rfl (fun ls hl => ?_)
  refine lv_iconst (v := 0) hx hb dX7_takerNow_3 rfl ?_
  refine lv_istore_n (lv' := [(3, .int 0), (2, .int (-9)), (0, .ref (ad 0)), (1, .int a1)]) hx hb dX7_takerNow_4 rfl hl (by decide) rfl (fun ls hl => ?_)
  exact b_X7_takerNow_L5 X hN _ hf hP hS (lv_sub hl [2, 3, 1, 0] rfl)
set_option maxHeartbeats 4000000 in
set_option maxRecDepth 100000 in
theorem c_X7_takerNow {l : Launch} {D : va_G} {ad : Nat → Nat} {cI cZ : ClassId} (hN : nj ad 30) {σ : St} {a1 : Int32} {r : Int32} (hf : f_X7_takerNow a1 σ = some r) : Met l yX7_takerNow (.code yX7_takerNow cX7_takerNow 4 (some .int) :: wsL_law) rm_X7_takerNow (va_Pc [.ref (ad 0), .int a1] (pw D (wM ad cI cZ) [(cI, .int), (cZ, .boolean)] σ)) (qI D (wM ad cI cZ) (aw ad 30) r σ) 0 0 (aw ad 30) :=
  met_mk (by decide) rfl (Nat.le_of_ble_eq_true rfl) (fun p e s m below meth c X hP ls hl => b_X7_takerNow X hN hf hP va_S.rf hl)
set_option maxHeartbeats 4000000 in
set_option maxRecDepth 100000 in
theorem b_X7_joins_L2 (X : cx p s m meth c args cX7_joins 3 (some .boolean) RX7 D [(cI, .int), (cZ, .boolean)]) (hN : nj ad 30) : ∀ (n : Nat) {σ : St} {a1 : Int32} {r : Int32} {σ' : St}, f_X7_joins_L2 n a1 σ = some (r, σ') → ∀ {H : Heap} {locs : List Loc} {ls : Array Slot}, va_P D vwCl (wM ad cI cZ σ) H → va_S (aw ad 30) s.heap H locs → lv_has ls 3 [(0, .ref (ad 0)), (1, .int a1)] → W p l e rm_X7_joins s m args below meth c H locs 0 0 (MQ below (qI D (wM ad cI cZ) (aw ad 30) r σ') args s 0 0 (aw ad 30)) (F0 m 2 ls []) := by
  intro n
  induction n with
  | zero =>
    intro σ a1 r σ' hf
    rw [f_X7_joins_L2] at hf
    cases hf
  | succ n ih =>
    intro σ a1 r σ' hf H locs ls hP hS hl
    obtain ⟨hx, hb, hml, hown, hts, hr, hlk, hK⟩ := id X
    rw [f_X7_joins_L2] at hf
    refine lv_iload_n hx hb dX7_joins_2 rfl (lv_at hl 1 rfl) ?_
    refine lv_aload_n hx hb dX7_joins_3 rfl (lv_at hl 0 rfl) ?_
    obtain ⟨x1, e_x1, hf⟩ := lf_some hf
    refine fg_X7_98 X hP e_x1 dX7_joins_4 ?_
    refine lv_icmp_ge (tgt := 81) hx hb dX7_joins_7 (by decide) (fun hq => ?_) (fun hq => ?_)
    · have hf := if_t hq hf
      refine lv_iconst (v := 0) hx hb dX7_joins_81 rfl ?_
      exact rZe X hP hS hf dX7_joins_82
    · have hf := if_f hq hf
      refine lv_aload_n hx hb dX7_joins_10 rfl (lv_at hl 0 rfl) ?_
      refine fg_X7_13 X hP dX7_joins_11 ?_
      refine lv_iload_n hx hb dX7_joins_14 rfl (lv_at hl 1 rfl) ?_
      obtain ⟨hi, x2, e_x2, hf⟩ := ld_some hf
      refine ldr (t0 := 0) X hP wM_2 rfl hi e_x2 dX7_joins_15 ?_
      refine lv_iconst (v := 1) hx hb dX7_joins_16 rfl ?_
      refine lv_icmp_ne (tgt := 75) hx hb dX7_joins_17 (by decide) (fun hq => ?_) (fun hq => ?_)
      · have hf := if_f hq hf
        refine lv_iinc (v := (a1 + 1)) (lv' := [(1, .int (a1 + 1)), (0, .ref (ad 0))]) hx hb dX7_joins_75 hl (k := 1) rfl rfl (by decide) rfl (fun ls hl => ?_)
        refine lv_goto (tgt := 2) hx hb dX7_joins_78 (by decide) ?_
        exact ih hf hP hS (lv_sub hl [1, 0] rfl)
      · have hf := if_t hq hf
        refine lv_aload_n hx hb dX7_joins_20 rfl (lv_at hl 0 rfl) ?_
        refine fg_X7_55 X hP dX7_joins_21 ?_
        refine lv_iload_n hx hb dX7_joins_24 rfl (lv_at hl 1 rfl) ?_
        obtain ⟨hi, x3, e_x3, hf⟩ := ld_some hf
        refine ldr (t0 := 0) X hP wM_16 rfl hi e_x3 dX7_joins_25 ?_
        refine lv_bipush (v := (-9)) hx hb dX7_joins_26 rfl ?_
        refine lv_icmp_ne (tgt := 75) hx hb dX7_joins_28 (by decide) (fun hq => ?_) (fun hq => ?_)
        · have hf := if_f hq hf
          refine lv_iinc (v := (a1 + 1)) (lv' := [(1, .int (a1 + 1)), (0, .ref (ad 0))]) hx hb dX7_joins_75 hl (k := 1) rfl rfl (by decide) rfl (fun ls hl => ?_)
          refine lv_goto (tgt := 2) hx hb dX7_joins_78 (by decide) ?_
          exact ih hf hP hS (lv_sub hl [1, 0] rfl)
        · have hf := if_t hq hf
          refine lv_aload_n hx hb dX7_joins_31 rfl (lv_at hl 0 rfl) ?_
          refine lv_iload_n hx hb dX7_joins_32 rfl (lv_at hl 1 rfl) ?_
          obtain ⟨x4, hc, hf⟩ := bi_some hf
          refine kVi (As := [.int a1]) (rest := []) (wd := (wM ad cI cZ)) (q0 := 0) (ci := 7) X (c_X7_takerNow (l := l) (D := D) (σ := σ) hN hc) (cw_X7_139 X.2.2.2.2.1 ⟨Nat.le_of_ble_eq_true rfl, Nat.le_of_ble_eq_true rfl⟩) rfl rfl hP hS hl rfl rfl (Nat.le_of_ble_eq_true rfl) dX7_joins_33 (fun H locs hP hS => ?_)
          refine lv_istore_n (lv' := [(2, .int x4), (0, .ref (ad 0)), (1, .int a1)]) hx hb dX7_joins_36 rfl hl (by decide) rfl (fun ls hl => ?_)
          refine lv_iload_n hx hb dX7_joins_37 rfl (lv_at hl 0 rfl) ?_
          refine lv_bipush (v := (-9)) hx hb dX7_joins_38 rfl ?_
          refine lv_icmp_eq (tgt := 75) hx hb dX7_joins_40 (by decide) (fun hq => ?_) (fun hq => ?_)
          · have hf := if_t hq hf
            refine lv_iinc (v := (a1 + 1)) (lv' := [(1, .int (a1 + 1)), (2, .int x4), (0, .ref (ad 0))]) hx hb dX7_joins_75 hl (k := 2) rfl rfl (by decide) rfl (fun ls hl => ?_)
            refine lv_goto (tgt := 2) hx hb dX7_joins_78 (by decide) ?_
            exact ih hf hP hS (lv_sub hl [2, 0] rfl)
          · have hf := if_f hq hf
            refine lv_aload_n hx hb dX7_joins_43 rfl (lv_at hl 1 rfl) ?_
            refine fg_X7_58 X hP dX7_joins_44 ?_
            refine lv_iload_n hx hb dX7_joins_47 rfl (lv_at hl 2 rfl) ?_
            refine lv_iload_n hx hb dX7_joins_48 rfl (lv_at hl 0 rfl) ?_
            obtain ⟨hi, σ5, e_σ5, hf⟩ := sd_some hf
            refine str (t0 := 0) X hP (wM_D hN) hS wM_17 wM_s17 rfl hi e_σ5 dX7_joins_49 (fun H locs hP hS => ?_)
            refine lv_aload_n hx hb dX7_joins_50 rfl (lv_at hl 1 rfl) ?_
            refine fg_X7_55 X hP dX7_joins_51 ?_
            refine lv_iload_n hx hb dX7_joins_54 rfl (lv_at hl 2 rfl) ?_
            refine lv_aload_n hx hb dX7_joins_55 rfl (lv_at hl 1 rfl) ?_
            refine fg_X7_55 X hP dX7_joins_56 ?_
            refine lv_iload_n hx hb dX7_joins_59 rfl (lv_at hl 0 rfl) ?_
            obtain ⟨hi, x6, e_x6, hf⟩ := ld_some hf
            refine ldr (t0 := 0) X hP wM_16 rfl hi e_x6 dX7_joins_60 ?_
            obtain ⟨hi, σ7, e_σ7, hf⟩ := sd_some hf
            refine str (t0 := 0) X hP (wM_D hN) hS wM_16 wM_s16 rfl hi e_σ7 dX7_joins_61 (fun H locs hP hS => ?_)
            refine lv_aload_n hx hb dX7_joins_62 rfl (lv_at hl 1 rfl) ?_
            refine lv_aload_n hx hb dX7_joins_63 rfl (lv_at hl 1 rfl) ?_
            refine fg_X7_55 X hP dX7_joins_64 ?_
            refine lv_iload_n hx hb dX7_joins_67 rfl (lv_at hl 0 rfl) ?_
            obtain ⟨hi, x8, e_x8, hf⟩ := ld_some hf
            refine ldr (t0 := 0) X hP wM_16 rfl hi e_x8 dX7_joins_68 ?_
            refine lv_iload_n hx hb dX7_joins_69 rfl (lv_at hl 2 rfl) ?_
            obtain ⟨σ9, hc, hf⟩ := bs_some hf
            refine kVv (As := [.int x8, .int a1]) (rest := []) (wd := (wM ad cI cZ)) (q0 := 0) (ci := 7) X (c_X7_comesBehind (l := l) (D := D) (σ := σ7) hN hc) (cw_X7_129 X.2.2.2.2.1 ⟨Nat.le_of_ble_eq_true rfl, Nat.le_of_ble_eq_true rfl⟩) rfl rfl hP hS hl rfl rfl (Nat.le_of_ble_eq_true rfl) dX7_joins_70 (fun H locs hP hS => ?_)
            refine lv_iconst (v := 1) hx hb dX7_joins_73 rfl ?_
            exact rZe X hP hS hf dX7_joins_74
set_option maxHeartbeats 4000000 in
set_option maxRecDepth 100000 in
theorem b_X7_joins (X : cx p s m meth c args cX7_joins 3 (some .boolean) RX7 D [(cI, .int), (cZ, .boolean)]) (hN : nj ad 30) {σ : St} {r : Int32} {σ' : St} (hf : f_X7_joins σ = some (r, σ')) {H : Heap} {locs : List Loc} {ls : Array Slot} (hP : va_P D vwCl (wM ad cI cZ σ) H) (hS : va_S (aw ad 30) s.heap H locs) (hl : lv_has ls 3 [(0, .ref (ad 0))]) : W p l e rm_X7_joins s m args below meth c H locs 0 0 (MQ below (qI D (wM ad cI cZ) (aw ad 30) r σ') args s 0 0 (aw ad 30)) (F0 m 0 ls []) := by
  obtain ⟨hx, hb, hml, hown, hts, hr, hlk, hK⟩ := id X
  rw [f_X7_joins] at hf
  refine lv_iconst (v := 0) hx hb dX7_joins_0 rfl ?_
  refine lv_istore_n (lv' := [(1, .int 0), (0, .ref (ad 0))]) hx hb dX7_joins_1 rfl hl (by decide) rfl (fun ls hl => ?_)
  exact b_X7_joins_L2 X hN _ hf hP hS (lv_sub hl [1, 0] rfl)
set_option maxHeartbeats 4000000 in
set_option maxRecDepth 100000 in
theorem c_X7_joins {l : Launch} {D : va_G} {ad : Nat → Nat} {cI cZ : ClassId} (hN : nj ad 30) {σ : St} {r : Int32} {σ' : St} (hf : f_X7_joins σ = some (r, σ')) : Met l yX7_joins (.code yX7_joins cX7_joins 3 (some .boolean) :: wsL_law) rm_X7_joins (va_Pc [.ref (ad 0)] (pw D (wM ad cI cZ) [(cI, .int), (cZ, .boolean)] σ)) (qI D (wM ad cI cZ) (aw ad 30) r σ') 0 0 (aw ad 30) :=
  met_mk (by decide) rfl (Nat.le_of_ble_eq_true rfl) (fun p e s m below meth c X hP ls hl => b_X7_joins X hN hf hP va_S.rf hl)
set_option maxHeartbeats 4000000 in
set_option maxRecDepth 100000 in
theorem b_X7_findStories_B314 (X : cx p s m meth c args cX7_findStories 4 none RX7 D [(cI, .int), (cZ, .boolean)]) (hN : nj ad 30) {σ : St} {a2 t0 t1 : Int32} {σ' : St} {K : Int32 → St → Option St} (hk : ∀ {σ : St} {b2 : Int32} {H : Heap} {locs : List Loc} {ls : Array Slot}, K b2 σ = some σ' → va_P D vwCl (wM ad cI cZ σ) H → va_S (aw ad 30) s.heap H locs → lv_has ls 4 [(0, .ref (ad 0)), (2, .int b2)] → W p l e rm_X7_findStories s m args below meth c H locs 0 0 (MQ below (qV D (wM ad cI cZ) (aw ad 30) σ') args s 0 0 (aw ad 30)) (F0 m 224 ls [])) (hf : f_X7_findStories_B314 K a2 t0 t1 σ = some σ') {H : Heap} {locs : List Loc} {ls : Array Slot} (hP : va_P D vwCl (wM ad cI cZ σ) H) (hS : va_S (aw ad 30) s.heap H locs) (hl : lv_has ls 4 [(0, .ref (ad 0)), (2, .int a2)]) : W p l e rm_X7_findStories s m args below meth c H locs 0 0 (MQ below (qV D (wM ad cI cZ) (aw ad 30) σ') args s 0 0 (aw ad 30)) (F0 m 314 ls [.int t0, .int t1, .ref (ad 21)]) := by
  obtain ⟨hx, hb, hml, hown, hts, hr, hlk, hK⟩ := id X
  rw [f_X7_findStories_B314] at hf
  obtain ⟨hi, σ1, e_σ1, hf⟩ := sd_some hf
  refine str (t0 := 0) X hP (wM_D hN) hS wM_21 wM_s21 rfl hi e_σ1 dX7_findStories_314 (fun H locs hP hS => ?_)
  refine lv_iinc (v := (a2 + 1)) (lv' := [(2, .int (a2 + 1)), (0, .ref (ad 0))]) hx hb dX7_findStories_315 hl (k := 1) rfl rfl (by decide) rfl (fun ls hl => ?_)
  refine lv_goto (tgt := 224) hx hb dX7_findStories_318 (by decide) ?_
  exact hk hf hP hS (lv_sub hl [1, 0] rfl)
set_option maxHeartbeats 4000000 in
set_option maxRecDepth 100000 in
theorem b_X7_findStories_B272 (X : cx p s m meth c args cX7_findStories 4 none RX7 D [(cI, .int), (cZ, .boolean)]) (hN : nj ad 30) {σ : St} {a2 t0 : Int32} {σ' : St} {K : Int32 → St → Option St} (hk : ∀ {σ : St} {b2 : Int32} {H : Heap} {locs : List Loc} {ls : Array Slot}, K b2 σ = some σ' → va_P D vwCl (wM ad cI cZ σ) H → va_S (aw ad 30) s.heap H locs → lv_has ls 4 [(0, .ref (ad 0)), (2, .int b2)] → W p l e rm_X7_findStories s m args below meth c H locs 0 0 (MQ below (qV D (wM ad cI cZ) (aw ad 30) σ') args s 0 0 (aw ad 30)) (F0 m 224 ls [])) (hf : f_X7_findStories_B272 K a2 t0 σ = some σ') {H : Heap} {locs : List Loc} {ls : Array Slot} (hP : va_P D vwCl (wM ad cI cZ σ) H) (hS : va_S (aw ad 30) s.heap H locs) (hl : lv_has ls 4 [(0, .ref (ad 0)), (2, .int a2)]) : W p l e rm_X7_findStories s m args below meth c H locs 0 0 (MQ below (qV D (wM ad cI cZ) (aw ad 30) σ') args s 0 0 (aw ad 30)) (F0 m 272 ls [.int t0]) := by
  obtain ⟨hx, hb, hml, hown, hts, hr, hlk, hK⟩ := id X
  rw [f_X7_findStories_B272] at hf
  refine lv_istore_n (lv' := [(3, .int t0), (0, .ref (ad 0)), (2, .int a2)]) hx hb dX7_findStories_272 rfl hl (by decide) rfl (fun ls hl => ?_)
  refine lv_aload_n hx hb dX7_findStories_273 rfl (lv_at hl 1 rfl) ?_
  refine fg_X7_70 X hP dX7_findStories_274 ?_
  refine lv_iload_n hx hb dX7_findStories_277 rfl (lv_at hl 2 rfl) ?_
  refine lv_iload_n hx hb dX7_findStories_278 rfl (lv_at hl 0 rfl) ?_
  refine lv_bipush (v := (-9)) hx hb dX7_findStories_279 rfl ?_
  refine lv_icmp_eq (tgt := 293) hx hb dX7_findStories_281 (by decide) (fun hq => ?_) (fun hq => ?_)
  · have hf := if_t hq hf
    refine lv_aload_n hx hb dX7_findStories_293 rfl (lv_at hl 1 rfl) ?_
    refine fg_X7_13 X hP dX7_findStories_294 ?_
    refine lv_iload_n hx hb dX7_findStories_297 rfl (lv_at hl 2 rfl) ?_
    obtain ⟨hi, x1, e_x1, hf⟩ := ld_some hf
    refine ldr (t0 := 0) X hP wM_2 rfl hi e_x1 dX7_findStories_298 ?_
    refine lv_iconst (v := 2) hx hb dX7_findStories_299 rfl ?_
    refine lv_icmp_ne (tgt := 308) hx hb dX7_findStories_300 (by decide) (fun hq => ?_) (fun hq => ?_)
    · have hf := if_f hq hf
      refine lv_aload_n hx hb dX7_findStories_308 rfl (lv_at hl 1 rfl) ?_
      refine fg_X7_70 X hP dX7_findStories_309 ?_
      refine lv_iload_n hx hb dX7_findStories_312 rfl (lv_at hl 2 rfl) ?_
      obtain ⟨hi, x2, e_x2, hf⟩ := ld_some hf
      refine ldr (t0 := 0) X hP wM_21 rfl hi e_x2 dX7_findStories_313 ?_
      exact b_X7_findStories_B314 X hN hk hf hP hS (lv_sub hl [1, 2] rfl)
    · have hf := if_t hq hf
      refine lv_bipush (v := (-9)) hx hb dX7_findStories_303 rfl ?_
      refine lv_goto (tgt := 314) hx hb dX7_findStories_305 (by decide) ?_
      exact b_X7_findStories_B314 X hN hk hf hP hS (lv_sub hl [1, 2] rfl)
  · have hf := if_f hq hf
    refine lv_aload_n hx hb dX7_findStories_284 rfl (lv_at hl 1 rfl) ?_
    refine fg_X7_70 X hP dX7_findStories_285 ?_
    refine lv_iload_n hx hb dX7_findStories_288 rfl (lv_at hl 0 rfl) ?_
    obtain ⟨hi, x3, e_x3, hf⟩ := ld_some hf
    refine ldr (t0 := 0) X hP wM_21 rfl hi e_x3 dX7_findStories_289 ?_
    refine lv_goto (tgt := 314) hx hb dX7_findStories_290 (by decide) ?_
    exact b_X7_findStories_B314 X hN hk hf hP hS (lv_sub hl [1, 2] rfl)
set_option maxHeartbeats 4000000 in
set_option maxRecDepth 100000 in
theorem b_X7_findStories_L224 (X : cx p s m meth c args cX7_findStories 4 none RX7 D [(cI, .int), (cZ, .boolean)]) (hN : nj ad 30) : ∀ (n : Nat) {σ : St} {a2 : Int32} {σ' : St}, f_X7_findStories_L224 n a2 σ = some σ' → ∀ {H : Heap} {locs : List Loc} {ls : Array Slot}, va_P D vwCl (wM ad cI cZ σ) H → va_S (aw ad 30) s.heap H locs → lv_has ls 4 [(0, .ref (ad 0)), (2, .int a2)] → W p l e rm_X7_findStories s m args below meth c H locs 0 0 (MQ below (qV D (wM ad cI cZ) (aw ad 30) σ') args s 0 0 (aw ad 30)) (F0 m 224 ls []) := by
  intro n
  induction n with
  | zero =>
    intro σ a2 σ' hf
    rw [f_X7_findStories_L224] at hf
    cases hf
  | succ n ih =>
    intro σ a2 σ' hf H locs ls hP hS hl
    obtain ⟨hx, hb, hml, hown, hts, hr, hlk, hK⟩ := id X
    rw [f_X7_findStories_L224] at hf
    refine lv_iload_n hx hb dX7_findStories_224 rfl (lv_at hl 1 rfl) ?_
    refine lv_aload_n hx hb dX7_findStories_225 rfl (lv_at hl 0 rfl) ?_
    obtain ⟨x1, e_x1, hf⟩ := lf_some hf
    refine fg_X7_98 X hP e_x1 dX7_findStories_226 ?_
    refine lv_icmp_ge (tgt := 321) hx hb dX7_findStories_229 (by decide) (fun hq => ?_) (fun hq => ?_)
    · have hf := if_t hq hf
      exact rVe X hP hS hf dX7_findStories_321
    · have hf := if_f hq hf
      refine lv_aload_n hx hb dX7_findStories_232 rfl (lv_at hl 0 rfl) ?_
      refine fg_X7_13 X hP dX7_findStories_233 ?_
      refine lv_iload_n hx hb dX7_findStories_236 rfl (lv_at hl 1 rfl) ?_
      obtain ⟨hi, x2, e_x2, hf⟩ := ld_some hf
      refine ldr (t0 := 0) X hP wM_2 rfl hi e_x2 dX7_findStories_237 ?_
      refine lv_iconst (v := 1) hx hb dX7_findStories_238 rfl ?_
      refine lv_icmp_ne (tgt := 251) hx hb dX7_findStories_239 (by decide) (fun hq => ?_) (fun hq => ?_)
      · have hf := if_f hq hf
        refine lv_aload_n hx hb dX7_findStories_251 rfl (lv_at hl 0 rfl) ?_
        refine fg_X7_13 X hP dX7_findStories_252 ?_
        refine lv_iload_n hx hb dX7_findStories_255 rfl (lv_at hl 1 rfl) ?_
        obtain ⟨hi, x3, e_x3, hf⟩ := ld_some hf
        refine ldr (t0 := 0) X hP wM_2 rfl hi e_x3 dX7_findStories_256 ?_
        refine lv_iconst (v := 2) hx hb dX7_findStories_257 rfl ?_
        refine lv_icmp_ne (tgt := 270) hx hb dX7_findStories_258 (by decide) (fun hq => ?_) (fun hq => ?_)
        · have hf := if_f hq hf
          refine lv_bipush (v := (-9)) hx hb dX7_findStories_270 rfl ?_
          exact b_X7_findStories_B272 X hN (fun hf hP hS hl => ih hf hP hS hl) hf hP hS (lv_sub hl [0, 1] rfl)
        · have hf := if_t hq hf
          refine lv_aload_n hx hb dX7_findStories_261 rfl (lv_at hl 0 rfl) ?_
          refine fg_X7_52 X hP dX7_findStories_262 ?_
          refine lv_iload_n hx hb dX7_findStories_265 rfl (lv_at hl 1 rfl) ?_
          obtain ⟨hi, x4, e_x4, hf⟩ := ld_some hf
          refine ldr (t0 := 0) X hP wM_15 rfl hi e_x4 dX7_findStories_266 ?_
          refine lv_goto (tgt := 272) hx hb dX7_findStories_267 (by decide) ?_
          exact b_X7_findStories_B272 X hN (fun hf hP hS hl => ih hf hP hS hl) hf hP hS (lv_sub hl [0, 1] rfl)
      · have hf := if_t hq hf
        refine lv_aload_n hx hb dX7_findStories_242 rfl (lv_at hl 0 rfl) ?_
        refine fg_X7_55 X hP dX7_findStories_243 ?_
        refine lv_iload_n hx hb dX7_findStories_246 rfl (lv_at hl 1 rfl) ?_
        obtain ⟨hi, x5, e_x5, hf⟩ := ld_some hf
        refine ldr (t0 := 0) X hP wM_16 rfl hi e_x5 dX7_findStories_247 ?_
        refine lv_goto (tgt := 272) hx hb dX7_findStories_248 (by decide) ?_
        exact b_X7_findStories_B272 X hN (fun hf hP hS hl => ih hf hP hS hl) hf hP hS (lv_sub hl [0, 1] rfl)
set_option maxHeartbeats 4000000 in
set_option maxRecDepth 100000 in
theorem b_X7_findStories_B186 (X : cx p s m meth c args cX7_findStories 4 none RX7 D [(cI, .int), (cZ, .boolean)]) (hN : nj ad 30) {σ : St} {a2 : Int32} {σ' : St} {K : Int32 → St → Option St} (hk : ∀ {σ : St} {b2 : Int32} {H : Heap} {locs : List Loc} {ls : Array Slot}, K b2 σ = some σ' → va_P D vwCl (wM ad cI cZ σ) H → va_S (aw ad 30) s.heap H locs → lv_has ls 4 [(0, .ref (ad 0)), (2, .int b2)] → W p l e rm_X7_findStories s m args below meth c H locs 0 0 (MQ below (qV D (wM ad cI cZ) (aw ad 30) σ') args s 0 0 (aw ad 30)) (F0 m 128 ls [])) (hf : f_X7_findStories_B186 K a2 σ = some σ') {H : Heap} {locs : List Loc} {ls : Array Slot} (hP : va_P D vwCl (wM ad cI cZ σ) H) (hS : va_S (aw ad 30) s.heap H locs) (hl : lv_has ls 4 [(0, .ref (ad 0)), (2, .int a2)]) : W p l e rm_X7_findStories s m args below meth c H locs 0 0 (MQ below (qV D (wM ad cI cZ) (aw ad 30) σ') args s 0 0 (aw ad 30)) (F0 m 186 ls []) := by
  obtain ⟨hx, hb, hml, hown, hts, hr, hlk, hK⟩ := id X
  rw [f_X7_findStories_B186] at hf
  refine lv_aload_n hx hb dX7_findStories_186 rfl (lv_at hl 0 rfl) ?_
  refine fg_X7_67 X hP dX7_findStories_187 ?_
  refine lv_aload_n hx hb dX7_findStories_190 rfl (lv_at hl 0 rfl) ?_
  obtain ⟨x1, e_x1, hf⟩ := lf_some hf
  refine fg_X7_153 X hP e_x1 dX7_findStories_191 ?_
  refine lv_iload_n hx hb dX7_findStories_194 rfl (lv_at hl 1 rfl) ?_
  obtain ⟨hi, σ2, e_σ2, hf⟩ := sd_some hf
  refine str (t0 := 0) X hP (wM_D hN) hS wM_20 wM_s20 rfl hi e_σ2 dX7_findStories_195 (fun H locs hP hS => ?_)
  refine lv_aload_n hx hb dX7_findStories_196 rfl (lv_at hl 0 rfl) ?_
  refine fg_X7_70 X hP dX7_findStories_197 ?_
  refine lv_iload_n hx hb dX7_findStories_200 rfl (lv_at hl 1 rfl) ?_
  refine lv_aload_n hx hb dX7_findStories_201 rfl (lv_at hl 0 rfl) ?_
  obtain ⟨x3, e_x3, hf⟩ := lf_some hf
  refine fg_X7_153 X hP e_x3 dX7_findStories_202 ?_
  obtain ⟨hi, σ4, e_σ4, hf⟩ := sd_some hf
  refine str (t0 := 0) X hP (wM_D hN) hS wM_21 wM_s21 rfl hi e_σ4 dX7_findStories_205 (fun H locs hP hS => ?_)
  refine lv_aload_n hx hb dX7_findStories_206 rfl (lv_at hl 0 rfl) ?_
  refine lv_dup hx hb dX7_findStories_207 rfl ?_
  obtain ⟨x5, e_x5, hf⟩ := lf_some hf
  refine fg_X7_153 X hP e_x5 dX7_findStories_208 ?_
  refine lv_iconst (v := 1) hx hb dX7_findStories_211 rfl ?_
  refine lv_iadd hx hb dX7_findStories_212 ?_
  obtain ⟨σ6, e_σ6, hf⟩ := sf_some hf
  refine fp_X7_153 X hN hP hS e_σ6 dX7_findStories_213 (fun H locs hP hS => ?_)
  refine lv_iinc (v := (a2 + 1)) (lv' := [(2, .int (a2 + 1)), (0, .ref (ad 0))]) hx hb dX7_findStories_216 hl (k := 1) rfl rfl (by decide) rfl (fun ls hl => ?_)
  refine lv_goto (tgt := 128) hx hb dX7_findStories_219 (by decide) ?_
  exact hk hf hP hS (lv_sub hl [1, 0] rfl)
set_option maxHeartbeats 4000000 in
set_option maxRecDepth 100000 in
theorem b_X7_findStories_B173 (X : cx p s m meth c args cX7_findStories 4 none RX7 D [(cI, .int), (cZ, .boolean)]) (hN : nj ad 30) {σ : St} {a2 a3 : Int32} {σ' : St} {K : Int32 → St → Option St} (hk : ∀ {σ : St} {b2 : Int32} {H : Heap} {locs : List Loc} {ls : Array Slot}, K b2 σ = some σ' → va_P D vwCl (wM ad cI cZ σ) H → va_S (aw ad 30) s.heap H locs → lv_has ls 4 [(0, .ref (ad 0)), (2, .int b2)] → W p l e rm_X7_findStories s m args below meth c H locs 0 0 (MQ below (qV D (wM ad cI cZ) (aw ad 30) σ') args s 0 0 (aw ad 30)) (F0 m 128 ls [])) (hf : f_X7_findStories_B173 K a2 a3 σ = some σ') {H : Heap} {locs : List Loc} {ls : Array Slot} (hP : va_P D vwCl (wM ad cI cZ σ) H) (hS : va_S (aw ad 30) s.heap H locs) (hl : lv_has ls 4 [(0, .ref (ad 0)), (2, .int a2), (3, .int a3)]) : W p l e rm_X7_findStories s m args below meth c H locs 0 0 (MQ below (qV D (wM ad cI cZ) (aw ad 30) σ') args s 0 0 (aw ad 30)) (F0 m 173 ls []) := by
  obtain ⟨hx, hb, hml, hown, hts, hr, hlk, hK⟩ := id X
  rw [f_X7_findStories_B173] at hf
  refine lv_iload_n hx hb dX7_findStories_173 rfl (lv_at hl 2 rfl) ?_
  refine lv_if_ne (tgt := 186) hx hb dX7_findStories_174 (by decide) (fun hq => ?_) (fun hq => ?_)
  · have hf := if_f hq hf
    exact b_X7_findStories_B186 X hN hk hf hP hS (lv_sub hl [0, 1] rfl)
  · have hf := if_t hq hf
    refine lv_aload_n hx hb dX7_findStories_177 rfl (lv_at hl 0 rfl) ?_
    refine fg_X7_13 X hP dX7_findStories_178 ?_
    refine lv_iload_n hx hb dX7_findStories_181 rfl (lv_at hl 1 rfl) ?_
    obtain ⟨hi, x1, e_x1, hf⟩ := ld_some hf
    refine ldr (t0 := 0) X hP wM_2 rfl hi e_x1 dX7_findStories_182 ?_
    refine lv_if_ne (tgt := 216) hx hb dX7_findStories_183 (by decide) (fun hq => ?_) (fun hq => ?_)
    · have hf := if_f hq hf
      refine lv_iinc (v := (a2 + 1)) (lv' := [(2, .int (a2 + 1)), (0, .ref (ad 0)), (3, .int a3)]) hx hb dX7_findStories_216 hl (k := 1) rfl rfl (by decide) rfl (fun ls hl => ?_)
      refine lv_goto (tgt := 128) hx hb dX7_findStories_219 (by decide) ?_
      exact hk hf hP hS (lv_sub hl [1, 0] rfl)
    · have hf := if_t hq hf
      exact b_X7_findStories_B186 X hN hk hf hP hS (lv_sub hl [0, 1] rfl)
set_option maxHeartbeats 4000000 in
set_option maxRecDepth 100000 in
theorem b_X7_findStories_B162 (X : cx p s m meth c args cX7_findStories 4 none RX7 D [(cI, .int), (cZ, .boolean)]) (hN : nj ad 30) {σ : St} {a2 t0 : Int32} {σ' : St} {K : Int32 → St → Option St} (hk : ∀ {σ : St} {b2 : Int32} {H : Heap} {locs : List Loc} {ls : Array Slot}, K b2 σ = some σ' → va_P D vwCl (wM ad cI cZ σ) H → va_S (aw ad 30) s.heap H locs → lv_has ls 4 [(0, .ref (ad 0)), (2, .int b2)] → W p l e rm_X7_findStories s m args below meth c H locs 0 0 (MQ below (qV D (wM ad cI cZ) (aw ad 30) σ') args s 0 0 (aw ad 30)) (F0 m 128 ls [])) (hf : f_X7_findStories_B162 K a2 t0 σ = some σ') {H : Heap} {locs : List Loc} {ls : Array Slot} (hP : va_P D vwCl (wM ad cI cZ σ) H) (hS : va_S (aw ad 30) s.heap H locs) (hl : lv_has ls 4 [(0, .ref (ad 0)), (2, .int a2)]) : W p l e rm_X7_findStories s m args below meth c H locs 0 0 (MQ below (qV D (wM ad cI cZ) (aw ad 30) σ') args s 0 0 (aw ad 30)) (F0 m 162 ls [.int t0]) := by
  obtain ⟨hx, hb, hml, hown, hts, hr, hlk, hK⟩ := id X
  rw [f_X7_findStories_B162] at hf
  refine lv_istore_n (lv' := [(3, .int t0), (0, .ref (ad 0)), (2, .int a2)]) hx hb dX7_findStories_162 rfl hl (by decide) rfl (fun ls hl => ?_)
  refine lv_iload_n hx hb dX7_findStories_163 rfl (lv_at hl 0 rfl) ?_
  refine lv_if_eq (tgt := 173) hx hb dX7_findStories_164 (by decide) (fun hq => ?_) (fun hq => ?_)
  · have hf := if_t hq hf
    exact b_X7_findStories_B173 X hN hk hf hP hS (lv_sub hl [1, 2, 0] rfl)
  · have hf := if_f hq hf
    refine lv_aload_n hx hb dX7_findStories_167 rfl (lv_at hl 1 rfl) ?_
    refine lv_iload_n hx hb dX7_findStories_168 rfl (lv_at hl 2 rfl) ?_
    refine lv_iload_n hx hb dX7_findStories_169 rfl (lv_at hl 2 rfl) ?_
    obtain ⟨σ1, hc, hf⟩ := bs_some hf
    refine kVv (As := [.int a2, .int a2]) (rest := []) (wd := (wM ad cI cZ)) (q0 := 0) (ci := 7) X (c_X7_comesBehind (l := l) (D := D) (σ := σ) hN hc) (cw_X7_129 X.2.2.2.2.1 ⟨Nat.le_of_ble_eq_true rfl, Nat.le_of_ble_eq_true rfl⟩) rfl rfl hP hS hl rfl rfl (Nat.le_of_ble_eq_true rfl) dX7_findStories_170 (fun H locs hP hS => ?_)
    exact b_X7_findStories_B173 X hN hk hf hP hS (lv_sub hl [1, 2, 0] rfl)
set_option maxHeartbeats 4000000 in
set_option maxRecDepth 100000 in
theorem b_X7_findStories_B161 (X : cx p s m meth c args cX7_findStories 4 none RX7 D [(cI, .int), (cZ, .boolean)]) (hN : nj ad 30) {σ : St} {a2 : Int32} {σ' : St} {K : Int32 → St → Option St} (hk : ∀ {σ : St} {b2 : Int32} {H : Heap} {locs : List Loc} {ls : Array Slot}, K b2 σ = some σ' → va_P D vwCl (wM ad cI cZ σ) H → va_S (aw ad 30) s.heap H locs → lv_has ls 4 [(0, .ref (ad 0)), (2, .int b2)] → W p l e rm_X7_findStories s m args below meth c H locs 0 0 (MQ below (qV D (wM ad cI cZ) (aw ad 30) σ') args s 0 0 (aw ad 30)) (F0 m 128 ls [])) (hf : f_X7_findStories_B161 K a2 σ = some σ') {H : Heap} {locs : List Loc} {ls : Array Slot} (hP : va_P D vwCl (wM ad cI cZ σ) H) (hS : va_S (aw ad 30) s.heap H locs) (hl : lv_has ls 4 [(0, .ref (ad 0)), (2, .int a2)]) : W p l e rm_X7_findStories s m args below meth c H locs 0 0 (MQ below (qV D (wM ad cI cZ) (aw ad 30) σ') args s 0 0 (aw ad 30)) (F0 m 161 ls []) := by
  obtain ⟨hx, hb, hml, hown, hts, hr, hlk, hK⟩ := id X
  rw [f_X7_findStories_B161] at hf
  refine lv_iconst (v := 0) hx hb dX7_findStories_161 rfl ?_
  exact b_X7_findStories_B162 X hN hk hf hP hS (lv_sub hl [0, 1] rfl)
set_option maxHeartbeats 4000000 in
set_option maxRecDepth 100000 in
theorem b_X7_findStories_L128 (X : cx p s m meth c args cX7_findStories 4 none RX7 D [(cI, .int), (cZ, .boolean)]) (hN : nj ad 30) : ∀ (n : Nat) {σ : St} {a2 : Int32} {σ' : St}, f_X7_findStories_L128 n a2 σ = some σ' → ∀ {H : Heap} {locs : List Loc} {ls : Array Slot}, va_P D vwCl (wM ad cI cZ σ) H → va_S (aw ad 30) s.heap H locs → lv_has ls 4 [(0, .ref (ad 0)), (2, .int a2)] → W p l e rm_X7_findStories s m args below meth c H locs 0 0 (MQ below (qV D (wM ad cI cZ) (aw ad 30) σ') args s 0 0 (aw ad 30)) (F0 m 128 ls []) := by
  intro n
  induction n with
  | zero =>
    intro σ a2 σ' hf
    rw [f_X7_findStories_L128] at hf
    cases hf
  | succ n ih =>
    intro σ a2 σ' hf H locs ls hP hS hl
    obtain ⟨hx, hb, hml, hown, hts, hr, hlk, hK⟩ := id X
    rw [f_X7_findStories_L128] at hf
    refine lv_iload_n hx hb dX7_findStories_128 rfl (lv_at hl 1 rfl) ?_
    refine lv_aload_n hx hb dX7_findStories_129 rfl (lv_at hl 0 rfl) ?_
    obtain ⟨x1, e_x1, hf⟩ := lf_some hf
    refine fg_X7_98 X hP e_x1 dX7_findStories_130 ?_
    refine lv_icmp_ge (tgt := 222) hx hb dX7_findStories_133 (by decide) (fun hq => ?_) (fun hq => ?_)
    · have hf := if_t hq hf
      refine lv_iconst (v := 0) hx hb dX7_findStories_222 rfl ?_
      refine lv_istore_n (lv' := [(2, .int 0), (0, .ref (ad 0))]) hx hb dX7_findStories_223 rfl hl (by decide) rfl (fun ls hl => ?_)
      exact b_X7_findStories_L224 X hN _ hf hP hS (lv_sub hl [1, 0] rfl)
    · have hf := if_f hq hf
      refine lv_aload_n hx hb dX7_findStories_136 rfl (lv_at hl 0 rfl) ?_
      refine fg_X7_13 X hP dX7_findStories_137 ?_
      refine lv_iload_n hx hb dX7_findStories_140 rfl (lv_at hl 1 rfl) ?_
      obtain ⟨hi, x2, e_x2, hf⟩ := ld_some hf
      refine ldr (t0 := 0) X hP wM_2 rfl hi e_x2 dX7_findStories_141 ?_
      refine lv_iconst (v := 1) hx hb dX7_findStories_142 rfl ?_
      refine lv_icmp_ne (tgt := 161) hx hb dX7_findStories_143 (by decide) (fun hq => ?_) (fun hq => ?_)
      · have hf := if_f hq hf
        exact b_X7_findStories_B161 X hN (fun hf hP hS hl => ih hf hP hS hl) hf hP hS (lv_sub hl [0, 1] rfl)
      · have hf := if_t hq hf
        refine lv_aload_n hx hb dX7_findStories_146 rfl (lv_at hl 0 rfl) ?_
        refine fg_X7_55 X hP dX7_findStories_147 ?_
        refine lv_iload_n hx hb dX7_findStories_150 rfl (lv_at hl 1 rfl) ?_
        obtain ⟨hi, x3, e_x3, hf⟩ := ld_some hf
        refine ldr (t0 := 0) X hP wM_16 rfl hi e_x3 dX7_findStories_151 ?_
        refine lv_bipush (v := (-9)) hx hb dX7_findStories_152 rfl ?_
        refine lv_icmp_ne (tgt := 161) hx hb dX7_findStories_154 (by decide) (fun hq => ?_) (fun hq => ?_)
        · have hf := if_f hq hf
          exact b_X7_findStories_B161 X hN (fun hf hP hS hl => ih hf hP hS hl) hf hP hS (lv_sub hl [0, 1] rfl)
        · have hf := if_t hq hf
          refine lv_iconst (v := 1) hx hb dX7_findStories_157 rfl ?_
          refine lv_goto (tgt := 162) hx hb dX7_findStories_158 (by decide) ?_
          exact b_X7_findStories_B162 X hN (fun hf hP hS hl => ih hf hP hS hl) hf hP hS (lv_sub hl [0, 1] rfl)
set_option maxHeartbeats 4000000 in
set_option maxRecDepth 100000 in
theorem b_X7_findStories_L109 (X : cx p s m meth c args cX7_findStories 4 none RX7 D [(cI, .int), (cZ, .boolean)]) (hN : nj ad 30) : ∀ (n : Nat) {σ : St} {a1 : Int32} {σ' : St}, f_X7_findStories_L109 n a1 σ = some σ' → ∀ {H : Heap} {locs : List Loc} {ls : Array Slot}, va_P D vwCl (wM ad cI cZ σ) H → va_S (aw ad 30) s.heap H locs → lv_has ls 4 [(0, .ref (ad 0)), (1, .int a1)] → W p l e rm_X7_findStories s m args below meth c H locs 0 0 (MQ below (qV D (wM ad cI cZ) (aw ad 30) σ') args s 0 0 (aw ad 30)) (F0 m 109 ls []) := by
  intro n
  induction n with
  | zero =>
    intro σ a1 σ' hf
    rw [f_X7_findStories_L109] at hf
    cases hf
  | succ n ih =>
    intro σ a1 σ' hf H locs ls hP hS hl
    obtain ⟨hx, hb, hml, hown, hts, hr, hlk, hK⟩ := id X
    rw [f_X7_findStories_L109] at hf
    refine lv_iload_n hx hb dX7_findStories_109 rfl (lv_at hl 1 rfl) ?_
    refine lv_if_eq (tgt := 121) hx hb dX7_findStories_110 (by decide) (fun hq => ?_) (fun hq => ?_)
    · have hf := if_t hq hf
      refine lv_aload_n hx hb dX7_findStories_121 rfl (lv_at hl 0 rfl) ?_
      refine lv_iconst (v := 0) hx hb dX7_findStories_122 rfl ?_
      obtain ⟨σ1, e_σ1, hf⟩ := sf_some hf
      refine fp_X7_153 X hN hP hS e_σ1 dX7_findStories_123 (fun H locs hP hS => ?_)
      refine lv_iconst (v := 0) hx hb dX7_findStories_126 rfl ?_
      refine lv_istore_n (lv' := [(2, .int 0), (0, .ref (ad 0)), (1, .int a1)]) hx hb dX7_findStories_127 rfl hl (by decide) rfl (fun ls hl => ?_)
      exact b_X7_findStories_L128 X hN _ hf hP hS (lv_sub hl [1, 0] rfl)
    · have hf := if_f hq hf
      refine lv_aload_n hx hb dX7_findStories_113 rfl (lv_at hl 0 rfl) ?_
      obtain ⟨x2, σ3, hc, hf⟩ := bp_some hf
      refine kVi (As := []) (rest := []) (wd := (wM ad cI cZ)) (q0 := 0) (ci := 7) X (c_X7_joins (l := l) (D := D) (σ := σ) hN hc) (cw_X7_149 X.2.2.2.2.1 ⟨Nat.le_of_ble_eq_true rfl, Nat.le_of_ble_eq_true rfl⟩) rfl rfl hP hS hl rfl rfl (Nat.le_of_ble_eq_true rfl) dX7_findStories_114 (fun H locs hP hS => ?_)
      refine lv_istore_n (lv' := [(1, .int x2), (0, .ref (ad 0))]) hx hb dX7_findStories_117 rfl hl (by decide) rfl (fun ls hl => ?_)
      refine lv_goto (tgt := 109) hx hb dX7_findStories_118 (by decide) ?_
      exact ih hf hP hS (lv_sub hl [1, 0] rfl)
set_option maxHeartbeats 4000000 in
set_option maxRecDepth 100000 in
theorem b_X7_findStories_L71 (X : cx p s m meth c args cX7_findStories 4 none RX7 D [(cI, .int), (cZ, .boolean)]) (hN : nj ad 30) : ∀ (n : Nat) {σ : St} {a1 : Int32} {σ' : St}, f_X7_findStories_L71 n a1 σ = some σ' → ∀ {H : Heap} {locs : List Loc} {ls : Array Slot}, va_P D vwCl (wM ad cI cZ σ) H → va_S (aw ad 30) s.heap H locs → lv_has ls 4 [(0, .ref (ad 0)), (1, .int a1)] → W p l e rm_X7_findStories s m args below meth c H locs 0 0 (MQ below (qV D (wM ad cI cZ) (aw ad 30) σ') args s 0 0 (aw ad 30)) (F0 m 71 ls []) := by
  intro n
  induction n with
  | zero =>
    intro σ a1 σ' hf
    rw [f_X7_findStories_L71] at hf
    cases hf
  | succ n ih =>
    intro σ a1 σ' hf H locs ls hP hS hl
    obtain ⟨hx, hb, hml, hown, hts, hr, hlk, hK⟩ := id X
    rw [f_X7_findStories_L71] at hf
    refine lv_iload_n hx hb dX7_findStories_71 rfl (lv_at hl 1 rfl) ?_
    refine lv_aload_n hx hb dX7_findStories_72 rfl (lv_at hl 0 rfl) ?_
    obtain ⟨x1, e_x1, hf⟩ := lf_some hf
    refine fg_X7_98 X hP e_x1 dX7_findStories_73 ?_
    refine lv_icmp_ge (tgt := 107) hx hb dX7_findStories_76 (by decide) (fun hq => ?_) (fun hq => ?_)
    · have hf := if_t hq hf
      refine lv_iconst (v := 1) hx hb dX7_findStories_107 rfl ?_
      refine lv_istore_n (lv' := [(1, .int 1), (0, .ref (ad 0))]) hx hb dX7_findStories_108 rfl hl (by decide) rfl (fun ls hl => ?_)
      exact b_X7_findStories_L109 X hN _ hf hP hS (lv_sub hl [1, 0] rfl)
    · have hf := if_f hq hf
      refine lv_aload_n hx hb dX7_findStories_79 rfl (lv_at hl 0 rfl) ?_
      refine fg_X7_55 X hP dX7_findStories_80 ?_
      refine lv_iload_n hx hb dX7_findStories_83 rfl (lv_at hl 1 rfl) ?_
      obtain ⟨hi, x2, e_x2, hf⟩ := ld_some hf
      refine ldr (t0 := 0) X hP wM_16 rfl hi e_x2 dX7_findStories_84 ?_
      refine lv_bipush (v := (-9)) hx hb dX7_findStories_85 rfl ?_
      refine lv_icmp_eq (tgt := 101) hx hb dX7_findStories_87 (by decide) (fun hq => ?_) (fun hq => ?_)
      · have hf := if_t hq hf
        refine lv_iinc (v := (a1 + 1)) (lv' := [(1, .int (a1 + 1)), (0, .ref (ad 0))]) hx hb dX7_findStories_101 hl (k := 1) rfl rfl (by decide) rfl (fun ls hl => ?_)
        refine lv_goto (tgt := 71) hx hb dX7_findStories_104 (by decide) ?_
        exact ih hf hP hS (lv_sub hl [1, 0] rfl)
      · have hf := if_f hq hf
        refine lv_aload_n hx hb dX7_findStories_90 rfl (lv_at hl 0 rfl) ?_
        refine lv_aload_n hx hb dX7_findStories_91 rfl (lv_at hl 0 rfl) ?_
        refine fg_X7_55 X hP dX7_findStories_92 ?_
        refine lv_iload_n hx hb dX7_findStories_95 rfl (lv_at hl 1 rfl) ?_
        obtain ⟨hi, x3, e_x3, hf⟩ := ld_some hf
        refine ldr (t0 := 0) X hP wM_16 rfl hi e_x3 dX7_findStories_96 ?_
        refine lv_iload_n hx hb dX7_findStories_97 rfl (lv_at hl 1 rfl) ?_
        obtain ⟨σ4, hc, hf⟩ := bs_some hf
        refine kVv (As := [.int x3, .int a1]) (rest := []) (wd := (wM ad cI cZ)) (q0 := 0) (ci := 7) X (c_X7_comesUnder (l := l) (D := D) (σ := σ) hN hc) (cw_X7_146 X.2.2.2.2.1 ⟨Nat.le_of_ble_eq_true rfl, Nat.le_of_ble_eq_true rfl⟩) rfl rfl hP hS hl rfl rfl (Nat.le_of_ble_eq_true rfl) dX7_findStories_98 (fun H locs hP hS => ?_)
        refine lv_iinc (v := (a1 + 1)) (lv' := [(1, .int (a1 + 1)), (0, .ref (ad 0))]) hx hb dX7_findStories_101 hl (k := 1) rfl rfl (by decide) rfl (fun ls hl => ?_)
        refine lv_goto (tgt := 71) hx hb dX7_findStories_104 (by decide) ?_
        exact ih hf hP hS (lv_sub hl [1, 0] rfl)
set_option maxHeartbeats 4000000 in
set_option maxRecDepth 100000 in
theorem b_X7_findStories_B62 (X : cx p s m meth c args cX7_findStories 4 none RX7 D [(cI, .int), (cZ, .boolean)]) (hN : nj ad 30) {σ : St} {a1 t0 t1 : Int32} {σ' : St} {K : Int32 → St → Option St} (hk : ∀ {σ : St} {b1 : Int32} {H : Heap} {locs : List Loc} {ls : Array Slot}, K b1 σ = some σ' → va_P D vwCl (wM ad cI cZ σ) H → va_S (aw ad 30) s.heap H locs → lv_has ls 4 [(0, .ref (ad 0)), (1, .int b1)] → W p l e rm_X7_findStories s m args below meth c H locs 0 0 (MQ below (qV D (wM ad cI cZ) (aw ad 30) σ') args s 0 0 (aw ad 30)) (F0 m 2 ls [])) (hf : f_X7_findStories_B62 K a1 t0 t1 σ = some σ') {H : Heap} {locs : List Loc} {ls : Array Slot} (hP : va_P D vwCl (wM ad cI cZ σ) H) (hS : va_S (aw ad 30) s.heap H locs) (hl : lv_has ls 4 [(0, .ref (ad 0)), (1, .int a1)]) : W p l e rm_X7_findStories s m args below meth c H locs 0 0 (MQ below (qV D (wM ad cI cZ) (aw ad 30) σ') args s 0 0 (aw ad 30)) (F0 m 62 ls [.int t0, .int t1, .ref (ad 16)]) := by
  obtain ⟨hx, hb, hml, hown, hts, hr, hlk, hK⟩ := id X
  rw [f_X7_findStories_B62] at hf
  obtain ⟨hi, σ1, e_σ1, hf⟩ := sd_some hf
  refine str (t0 := 0) X hP (wM_D hN) hS wM_16 wM_s16 rfl hi e_σ1 dX7_findStories_62 (fun H locs hP hS => ?_)
  refine lv_iinc (v := (a1 + 1)) (lv' := [(1, .int (a1 + 1)), (0, .ref (ad 0))]) hx hb dX7_findStories_63 hl (k := 1) rfl rfl (by decide) rfl (fun ls hl => ?_)
  refine lv_goto (tgt := 2) hx hb dX7_findStories_66 (by decide) ?_
  exact hk hf hP hS (lv_sub hl [1, 0] rfl)
set_option maxHeartbeats 4000000 in
set_option maxRecDepth 100000 in
theorem b_X7_findStories_L2 (X : cx p s m meth c args cX7_findStories 4 none RX7 D [(cI, .int), (cZ, .boolean)]) (hN : nj ad 30) : ∀ (n : Nat) {σ : St} {a1 : Int32} {σ' : St}, f_X7_findStories_L2 n a1 σ = some σ' → ∀ {H : Heap} {locs : List Loc} {ls : Array Slot}, va_P D vwCl (wM ad cI cZ σ) H → va_S (aw ad 30) s.heap H locs → lv_has ls 4 [(0, .ref (ad 0)), (1, .int a1)] → W p l e rm_X7_findStories s m args below meth c H locs 0 0 (MQ below (qV D (wM ad cI cZ) (aw ad 30) σ') args s 0 0 (aw ad 30)) (F0 m 2 ls []) := by
  intro n
  induction n with
  | zero =>
    intro σ a1 σ' hf
    rw [f_X7_findStories_L2] at hf
    cases hf
  | succ n ih =>
    intro σ a1 σ' hf H locs ls hP hS hl
    obtain ⟨hx, hb, hml, hown, hts, hr, hlk, hK⟩ := id X
    rw [f_X7_findStories_L2] at hf
    refine lv_iload_n hx hb dX7_findStories_2 rfl (lv_at hl 1 rfl) ?_
    refine lv_aload_n hx hb dX7_findStories_3 rfl (lv_at hl 0 rfl) ?_
    obtain ⟨x1, e_x1, hf⟩ := lf_some hf
    refine fg_X7_98 X hP e_x1 dX7_findStories_4 ?_
    refine lv_icmp_ge (tgt := 69) hx hb dX7_findStories_7 (by decide) (fun hq => ?_) (fun hq => ?_)
    · have hf := if_t hq hf
      refine lv_iconst (v := 0) hx hb dX7_findStories_69 rfl ?_
      refine lv_istore_n (lv' := [(1, .int 0), (0, .ref (ad 0))]) hx hb dX7_findStories_70 rfl hl (by decide) rfl (fun ls hl => ?_)
      exact b_X7_findStories_L71 X hN _ hf hP hS (lv_sub hl [1, 0] rfl)
    · have hf := if_f hq hf
      refine lv_aload_n hx hb dX7_findStories_10 rfl (lv_at hl 0 rfl) ?_
      refine fg_X7_61 X hP dX7_findStories_11 ?_
      refine lv_iload_n hx hb dX7_findStories_14 rfl (lv_at hl 1 rfl) ?_
      refine lv_iconst (v := 0) hx hb dX7_findStories_15 rfl ?_
      obtain ⟨hi, σ2, e_σ2, hf⟩ := sd_some hf
      refine str (t0 := 0) X hP (wM_D hN) hS wM_18 wM_s18 rfl hi e_σ2 dX7_findStories_16 (fun H locs hP hS => ?_)
      refine lv_aload_n hx hb dX7_findStories_17 rfl (lv_at hl 0 rfl) ?_
      refine fg_X7_58 X hP dX7_findStories_18 ?_
      refine lv_iload_n hx hb dX7_findStories_21 rfl (lv_at hl 1 rfl) ?_
      refine lv_bipush (v := (-9)) hx hb dX7_findStories_22 rfl ?_
      obtain ⟨hi, σ3, e_σ3, hf⟩ := sd_some hf
      refine str (t0 := 0) X hP (wM_D hN) hS wM_17 wM_s17 rfl hi e_σ3 dX7_findStories_24 (fun H locs hP hS => ?_)
      refine lv_aload_n hx hb dX7_findStories_25 rfl (lv_at hl 0 rfl) ?_
      refine fg_X7_52 X hP dX7_findStories_26 ?_
      refine lv_iload_n hx hb dX7_findStories_29 rfl (lv_at hl 1 rfl) ?_
      refine lv_aload_n hx hb dX7_findStories_30 rfl (lv_at hl 0 rfl) ?_
      refine lv_iload_n hx hb dX7_findStories_31 rfl (lv_at hl 1 rfl) ?_
      obtain ⟨x4, hc, hf⟩ := bi_some hf
      refine kVi (As := [.int a1]) (rest := [.int a1, .ref (ad 15)]) (wd := (wM ad cI cZ)) (q0 := 0) (ci := 7) X (c_X7_headOver (l := l) (D := D) (σ := σ3) hN hc) (cw_X7_143 X.2.2.2.2.1 ⟨Nat.le_of_ble_eq_true rfl, Nat.le_of_ble_eq_true rfl⟩) rfl rfl hP hS hl rfl rfl (Nat.le_of_ble_eq_true rfl) dX7_findStories_32 (fun H locs hP hS => ?_)
      obtain ⟨hi, σ5, e_σ5, hf⟩ := sd_some hf
      refine str (t0 := 0) X hP (wM_D hN) hS wM_15 wM_s15 rfl hi e_σ5 dX7_findStories_35 (fun H locs hP hS => ?_)
      refine lv_aload_n hx hb dX7_findStories_36 rfl (lv_at hl 0 rfl) ?_
      refine fg_X7_55 X hP dX7_findStories_37 ?_
      refine lv_iload_n hx hb dX7_findStories_40 rfl (lv_at hl 1 rfl) ?_
      refine lv_aload_n hx hb dX7_findStories_41 rfl (lv_at hl 0 rfl) ?_
      refine fg_X7_13 X hP dX7_findStories_42 ?_
      refine lv_iload_n hx hb dX7_findStories_45 rfl (lv_at hl 1 rfl) ?_
      obtain ⟨hi, x6, e_x6, hf⟩ := ld_some hf
      refine ldr (t0 := 0) X hP wM_2 rfl hi e_x6 dX7_findStories_46 ?_
      refine lv_iconst (v := 1) hx hb dX7_findStories_47 rfl ?_
      refine lv_icmp_ne (tgt := 60) hx hb dX7_findStories_48 (by decide) (fun hq => ?_) (fun hq => ?_)
      · have hf := if_f hq hf
        refine lv_bipush (v := (-9)) hx hb dX7_findStories_60 rfl ?_
        exact b_X7_findStories_B62 X hN (fun hf hP hS hl => ih hf hP hS hl) hf hP hS (lv_sub hl [0, 1] rfl)
      · have hf := if_t hq hf
        refine lv_aload_n hx hb dX7_findStories_51 rfl (lv_at hl 0 rfl) ?_
        refine fg_X7_52 X hP dX7_findStories_52 ?_
        refine lv_iload_n hx hb dX7_findStories_55 rfl (lv_at hl 1 rfl) ?_
        obtain ⟨hi, x7, e_x7, hf⟩ := ld_some hf
        refine ldr (t0 := 0) X hP wM_15 rfl hi e_x7 dX7_findStories_56 ?_
        refine lv_goto (tgt := 62) hx hb dX7_findStories_57 (by decide) ?_
        exact b_X7_findStories_B62 X hN (fun hf hP hS hl => ih hf hP hS hl) hf hP hS (lv_sub hl [0, 1] rfl)
set_option maxHeartbeats 4000000 in
set_option maxRecDepth 100000 in
theorem b_X7_findStories (X : cx p s m meth c args cX7_findStories 4 none RX7 D [(cI, .int), (cZ, .boolean)]) (hN : nj ad 30) {σ : St} {σ' : St} (hf : f_X7_findStories σ = some σ') {H : Heap} {locs : List Loc} {ls : Array Slot} (hP : va_P D vwCl (wM ad cI cZ σ) H) (hS : va_S (aw ad 30) s.heap H locs) (hl : lv_has ls 4 [(0, .ref (ad 0))]) : W p l e rm_X7_findStories s m args below meth c H locs 0 0 (MQ below (qV D (wM ad cI cZ) (aw ad 30) σ') args s 0 0 (aw ad 30)) (F0 m 0 ls []) := by
  obtain ⟨hx, hb, hml, hown, hts, hr, hlk, hK⟩ := id X
  rw [f_X7_findStories] at hf
  refine lv_iconst (v := 0) hx hb dX7_findStories_0 rfl ?_
  refine lv_istore_n (lv' := [(1, .int 0), (0, .ref (ad 0))]) hx hb dX7_findStories_1 rfl hl (by decide) rfl (fun ls hl => ?_)
  exact b_X7_findStories_L2 X hN _ hf hP hS (lv_sub hl [1, 0] rfl)
set_option maxHeartbeats 4000000 in
set_option maxRecDepth 100000 in
theorem c_X7_findStories {l : Launch} {D : va_G} {ad : Nat → Nat} {cI cZ : ClassId} (hN : nj ad 30) {σ : St} {σ' : St} (hf : f_X7_findStories σ = some σ') : Met l yX7_findStories (.code yX7_findStories cX7_findStories 4 none :: wsL_law) rm_X7_findStories (va_Pc [.ref (ad 0)] (pw D (wM ad cI cZ) [(cI, .int), (cZ, .boolean)] σ)) (qV D (wM ad cI cZ) (aw ad 30) σ') 0 0 (aw ad 30) :=
  met_mk (by decide) rfl (Nat.le_of_ble_eq_true rfl) (fun p e s m below meth c X hP ls hl => b_X7_findStories X hN hf hP va_S.rf hl)
set_option maxHeartbeats 4000000 in
set_option maxRecDepth 100000 in
theorem b_X7_reach (X : cx p s m meth c args cX7_reach 3 (some .int) RX7 D [(cI, .int), (cZ, .boolean)]) (hN : nj ad 30) {σ : St} {a1 a2 : Int32} {r : Int32} (hf : f_X7_reach a1 a2 σ = some r) {H : Heap} {locs : List Loc} {ls : Array Slot} (hP : va_P D vwCl (wM ad cI cZ σ) H) (hS : va_S (aw ad 30) s.heap H locs) (hl : lv_has ls 3 [(0, .ref (ad 0)), (1, .int a1), (2, .int a2)]) : W p l e rm_X7_reach s m args below meth c H locs 0 0 (MQ below (qI D (wM ad cI cZ) (aw ad 30) r σ) args s 0 0 (aw ad 30)) (F0 m 0 ls []) := by
  obtain ⟨hx, hb, hml, hown, hts, hr, hlk, hK⟩ := id X
  rw [f_X7_reach] at hf
  refine lv_aload_n hx hb dX7_reach_0 rfl (lv_at hl 0 rfl) ?_
  refine lv_iload_n hx hb dX7_reach_1 rfl (lv_at hl 1 rfl) ?_
  obtain ⟨x1, hc, hf⟩ := bi_some hf
  refine kVi (As := [.int a1]) (rest := []) (wd := (wM ad cI cZ)) (q0 := 0) (ci := 7) X (c_X7_isHead (l := l) (D := D) (σ := σ) hN hc) (cw_X7_156 X.2.2.2.2.1 ⟨Nat.le_of_ble_eq_true rfl, Nat.le_of_ble_eq_true rfl⟩) rfl rfl hP hS hl rfl rfl (Nat.le_of_ble_eq_true rfl) dX7_reach_2 (fun H locs hP hS => ?_)
  refine lv_if_ne (tgt := 10) hx hb dX7_reach_5 (by decide) (fun hq => ?_) (fun hq => ?_)
  · have hf := if_f hq hf
    refine lv_iload_n hx hb dX7_reach_10 rfl (lv_at hl 2 rfl) ?_
    refine lv_iconst (v := 0) hx hb dX7_reach_11 rfl ?_
    refine lv_bipush (v := 7) hx hb dX7_reach_12 rfl ?_
    obtain ⟨x2, hc, hf⟩ := bi_some hf
    refine kSi (As := [.int a2, .int 0, .int 7]) (rest := []) (wd := (wM ad cI cZ)) X (c_X7_within (l := l) (D := D) (σ := σ) hN hc) (cw_X7_102 X.2.2.2.2.1 ⟨Nat.le_of_ble_eq_true rfl, Nat.le_of_ble_eq_true rfl⟩) hP hS hl rfl rfl (Nat.le_of_ble_eq_true rfl) dX7_reach_14 (fun H locs hP hS => ?_)
    refine lv_if_eq (tgt := 29) hx hb dX7_reach_17 (by decide) (fun hq => ?_) (fun hq => ?_)
    · have hf := if_t hq hf
      refine lv_bipush (v := (-2)) hx hb dX7_reach_29 rfl ?_
      exact rI X hP hS hf dX7_reach_31
    · have hf := if_f hq hf
      refine lv_aload_n hx hb dX7_reach_20 rfl (lv_at hl 0 rfl) ?_
      refine lv_iload_n hx hb dX7_reach_21 rfl (lv_at hl 1 rfl) ?_
      refine lv_iload_n hx hb dX7_reach_22 rfl (lv_at hl 2 rfl) ?_
      obtain ⟨x3, hc, hf⟩ := bi_some hf
      refine kVi (As := [.int a1, .int a2]) (rest := []) (wd := (wM ad cI cZ)) (q0 := 0) (ci := 7) X (c_X7_lastRow (l := l) (D := D) (σ := σ) hN hc) (cw_X7_125 X.2.2.2.2.1 ⟨Nat.le_of_ble_eq_true rfl, Nat.le_of_ble_eq_true rfl⟩) rfl rfl hP hS hl rfl rfl (Nat.le_of_ble_eq_true rfl) dX7_reach_23 (fun H locs hP hS => ?_)
      refine lv_goto (tgt := 31) hx hb dX7_reach_26 (by decide) ?_
      exact rI X hP hS hf dX7_reach_31
  · have hf := if_t hq hf
    refine lv_iconst (v := (-1)) hx hb dX7_reach_8 rfl ?_
    exact rI X hP hS hf dX7_reach_9
set_option maxHeartbeats 4000000 in
set_option maxRecDepth 100000 in
theorem c_X7_reach {l : Launch} {D : va_G} {ad : Nat → Nat} {cI cZ : ClassId} (hN : nj ad 30) {σ : St} {a1 a2 : Int32} {r : Int32} (hf : f_X7_reach a1 a2 σ = some r) : Met l yX7_reach (.code yX7_reach cX7_reach 3 (some .int) :: wsL_law) rm_X7_reach (va_Pc [.ref (ad 0), .int a1, .int a2] (pw D (wM ad cI cZ) [(cI, .int), (cZ, .boolean)] σ)) (qI D (wM ad cI cZ) (aw ad 30) r σ) 0 0 (aw ad 30) :=
  met_mk (by decide) rfl (Nat.le_of_ble_eq_true rfl) (fun p e s m below meth c X hP ls hl => b_X7_reach X hN hf hP va_S.rf hl)
set_option maxHeartbeats 4000000 in
set_option maxRecDepth 100000 in
theorem b_X7_under (X : cx p s m meth c args cX7_under 2 (some .int) RX7 D [(cI, .int), (cZ, .boolean)]) (hN : nj ad 30) {σ : St} {a1 : Int32} {r : Int32} (hf : f_X7_under a1 σ = some r) {H : Heap} {locs : List Loc} {ls : Array Slot} (hP : va_P D vwCl (wM ad cI cZ σ) H) (hS : va_S (aw ad 30) s.heap H locs) (hl : lv_has ls 2 [(0, .ref (ad 0)), (1, .int a1)]) : W p l e rm_X7_under s m args below meth c H locs 0 0 (MQ below (qI D (wM ad cI cZ) (aw ad 30) r σ) args s 0 0 (aw ad 30)) (F0 m 0 ls []) := by
  obtain ⟨hx, hb, hml, hown, hts, hr, hlk, hK⟩ := id X
  rw [f_X7_under] at hf
  refine lv_aload_n hx hb dX7_under_0 rfl (lv_at hl 0 rfl) ?_
  refine lv_iload_n hx hb dX7_under_1 rfl (lv_at hl 1 rfl) ?_
  obtain ⟨x1, hc, hf⟩ := bi_some hf
  refine kVi (As := [.int a1]) (rest := []) (wd := (wM ad cI cZ)) (q0 := 0) (ci := 7) X (c_X7_isBlock (l := l) (D := D) (σ := σ) hN hc) (cw_X7_110 X.2.2.2.2.1 ⟨Nat.le_of_ble_eq_true rfl, Nat.le_of_ble_eq_true rfl⟩) rfl rfl hP hS hl rfl rfl (Nat.le_of_ble_eq_true rfl) dX7_under_2 (fun H locs hP hS => ?_)
  refine lv_if_ne (tgt := 10) hx hb dX7_under_5 (by decide) (fun hq => ?_) (fun hq => ?_)
  · have hf := if_f hq hf
    refine lv_aload_n hx hb dX7_under_10 rfl (lv_at hl 0 rfl) ?_
    refine fg_X7_13 X hP dX7_under_11 ?_
    refine lv_iload_n hx hb dX7_under_14 rfl (lv_at hl 1 rfl) ?_
    obtain ⟨hi, x2, e_x2, hf⟩ := ld_some hf
    refine ldr (t0 := 0) X hP wM_2 rfl hi e_x2 dX7_under_15 ?_
    refine lv_if_ne (tgt := 24) hx hb dX7_under_16 (by decide) (fun hq => ?_) (fun hq => ?_)
    · have hf := if_f hq hf
      refine lv_aload_n hx hb dX7_under_24 rfl (lv_at hl 0 rfl) ?_
      refine lv_iload_n hx hb dX7_under_25 rfl (lv_at hl 1 rfl) ?_
      obtain ⟨x3, hc, hf⟩ := bi_some hf
      refine kVi (As := [.int a1]) (rest := []) (wd := (wM ad cI cZ)) (q0 := 0) (ci := 7) X (c_X7_headOver (l := l) (D := D) (σ := σ) hN hc) (cw_X7_143 X.2.2.2.2.1 ⟨Nat.le_of_ble_eq_true rfl, Nat.le_of_ble_eq_true rfl⟩) rfl rfl hP hS hl rfl rfl (Nat.le_of_ble_eq_true rfl) dX7_under_26 (fun H locs hP hS => ?_)
      exact rI X hP hS hf dX7_under_29
    · have hf := if_t hq hf
      refine lv_bipush (v := (-3)) hx hb dX7_under_19 rfl ?_
      refine lv_goto (tgt := 29) hx hb dX7_under_21 (by decide) ?_
      exact rI X hP hS hf dX7_under_29
  · have hf := if_t hq hf
    refine lv_iconst (v := (-1)) hx hb dX7_under_8 rfl ?_
    exact rI X hP hS hf dX7_under_9
set_option maxHeartbeats 4000000 in
set_option maxRecDepth 100000 in
theorem c_X7_under {l : Launch} {D : va_G} {ad : Nat → Nat} {cI cZ : ClassId} (hN : nj ad 30) {σ : St} {a1 : Int32} {r : Int32} (hf : f_X7_under a1 σ = some r) : Met l yX7_under (.code yX7_under cX7_under 2 (some .int) :: wsL_law) rm_X7_under (va_Pc [.ref (ad 0), .int a1] (pw D (wM ad cI cZ) [(cI, .int), (cZ, .boolean)] σ)) (qI D (wM ad cI cZ) (aw ad 30) r σ) 0 0 (aw ad 30) :=
  met_mk (by decide) rfl (Nat.le_of_ble_eq_true rfl) (fun p e s m below meth c X hP ls hl => b_X7_under X hN hf hP va_S.rf hl)
set_option maxHeartbeats 4000000 in
set_option maxRecDepth 100000 in
theorem b_X7_story (X : cx p s m meth c args cX7_story 2 (some .int) RX7 D [(cI, .int), (cZ, .boolean)]) (hN : nj ad 30) {σ : St} {a1 : Int32} {r : Int32} {σ' : St} (hf : f_X7_story a1 σ = some (r, σ')) {H : Heap} {locs : List Loc} {ls : Array Slot} (hP : va_P D vwCl (wM ad cI cZ σ) H) (hS : va_S (aw ad 30) s.heap H locs) (hl : lv_has ls 2 [(0, .ref (ad 0)), (1, .int a1)]) : W p l e rm_X7_story s m args below meth c H locs 0 0 (MQ below (qI D (wM ad cI cZ) (aw ad 30) r σ') args s 0 0 (aw ad 30)) (F0 m 0 ls []) := by
  obtain ⟨hx, hb, hml, hown, hts, hr, hlk, hK⟩ := id X
  rw [f_X7_story] at hf
  refine lv_aload_n hx hb dX7_story_0 rfl (lv_at hl 0 rfl) ?_
  refine lv_iload_n hx hb dX7_story_1 rfl (lv_at hl 1 rfl) ?_
  obtain ⟨x1, hc, hf⟩ := bi_some hf
  refine kVi (As := [.int a1]) (rest := []) (wd := (wM ad cI cZ)) (q0 := 0) (ci := 7) X (c_X7_isBlock (l := l) (D := D) (σ := σ) hN hc) (cw_X7_110 X.2.2.2.2.1 ⟨Nat.le_of_ble_eq_true rfl, Nat.le_of_ble_eq_true rfl⟩) rfl rfl hP hS hl rfl rfl (Nat.le_of_ble_eq_true rfl) dX7_story_2 (fun H locs hP hS => ?_)
  refine lv_if_ne (tgt := 10) hx hb dX7_story_5 (by decide) (fun hq => ?_) (fun hq => ?_)
  · have hf := if_f hq hf
    refine lv_aload_n hx hb dX7_story_10 rfl (lv_at hl 0 rfl) ?_
    obtain ⟨σ2, hc, hf⟩ := bs_some hf
    refine kVv (As := []) (rest := []) (wd := (wM ad cI cZ)) (q0 := 0) (ci := 7) X (c_X7_findStories (l := l) (D := D) (σ := σ) hN hc) (cw_X7_159 X.2.2.2.2.1 ⟨Nat.le_of_ble_eq_true rfl, Nat.le_of_ble_eq_true rfl⟩) rfl rfl hP hS hl rfl rfl (Nat.le_of_ble_eq_true rfl) dX7_story_11 (fun H locs hP hS => ?_)
    refine lv_aload_n hx hb dX7_story_14 rfl (lv_at hl 0 rfl) ?_
    refine fg_X7_70 X hP dX7_story_15 ?_
    refine lv_iload_n hx hb dX7_story_18 rfl (lv_at hl 1 rfl) ?_
    obtain ⟨hi, x3, e_x3, hf⟩ := ld_some hf
    refine ldr (t0 := 0) X hP wM_21 rfl hi e_x3 dX7_story_19 ?_
    exact rIe X hP hS hf dX7_story_20
  · have hf := if_t hq hf
    refine lv_iconst (v := (-1)) hx hb dX7_story_8 rfl ?_
    exact rIe X hP hS hf dX7_story_9
set_option maxHeartbeats 4000000 in
set_option maxRecDepth 100000 in
theorem c_X7_story {l : Launch} {D : va_G} {ad : Nat → Nat} {cI cZ : ClassId} (hN : nj ad 30) {σ : St} {a1 : Int32} {r : Int32} {σ' : St} (hf : f_X7_story a1 σ = some (r, σ')) : Met l yX7_story (.code yX7_story cX7_story 2 (some .int) :: wsL_law) rm_X7_story (va_Pc [.ref (ad 0), .int a1] (pw D (wM ad cI cZ) [(cI, .int), (cZ, .boolean)] σ)) (qI D (wM ad cI cZ) (aw ad 30) r σ') 0 0 (aw ad 30) :=
  met_mk (by decide) rfl (Nat.le_of_ble_eq_true rfl) (fun p e s m below meth c X hP ls hl => b_X7_story X hN hf hP va_S.rf hl)
set_option maxHeartbeats 4000000 in
set_option maxRecDepth 100000 in
theorem b_X7_takenBy (X : cx p s m meth c args cX7_takenBy 2 (some .int) RX7 D [(cI, .int), (cZ, .boolean)]) (hN : nj ad 30) {σ : St} {a1 : Int32} {r : Int32} {σ' : St} (hf : f_X7_takenBy a1 σ = some (r, σ')) {H : Heap} {locs : List Loc} {ls : Array Slot} (hP : va_P D vwCl (wM ad cI cZ σ) H) (hS : va_S (aw ad 30) s.heap H locs) (hl : lv_has ls 2 [(0, .ref (ad 0)), (1, .int a1)]) : W p l e rm_X7_takenBy s m args below meth c H locs 0 0 (MQ below (qI D (wM ad cI cZ) (aw ad 30) r σ') args s 0 0 (aw ad 30)) (F0 m 0 ls []) := by
  obtain ⟨hx, hb, hml, hown, hts, hr, hlk, hK⟩ := id X
  rw [f_X7_takenBy] at hf
  refine lv_aload_n hx hb dX7_takenBy_0 rfl (lv_at hl 0 rfl) ?_
  refine lv_iload_n hx hb dX7_takenBy_1 rfl (lv_at hl 1 rfl) ?_
  obtain ⟨x1, hc, hf⟩ := bi_some hf
  refine kVi (As := [.int a1]) (rest := []) (wd := (wM ad cI cZ)) (q0 := 0) (ci := 7) X (c_X7_isBlock (l := l) (D := D) (σ := σ) hN hc) (cw_X7_110 X.2.2.2.2.1 ⟨Nat.le_of_ble_eq_true rfl, Nat.le_of_ble_eq_true rfl⟩) rfl rfl hP hS hl rfl rfl (Nat.le_of_ble_eq_true rfl) dX7_takenBy_2 (fun H locs hP hS => ?_)
  refine lv_if_ne (tgt := 10) hx hb dX7_takenBy_5 (by decide) (fun hq => ?_) (fun hq => ?_)
  · have hf := if_f hq hf
    refine lv_aload_n hx hb dX7_takenBy_10 rfl (lv_at hl 0 rfl) ?_
    refine fg_X7_13 X hP dX7_takenBy_11 ?_
    refine lv_iload_n hx hb dX7_takenBy_14 rfl (lv_at hl 1 rfl) ?_
    obtain ⟨hi, x2, e_x2, hf⟩ := ld_some hf
    refine ldr (t0 := 0) X hP wM_2 rfl hi e_x2 dX7_takenBy_15 ?_
    refine lv_iconst (v := 1) hx hb dX7_takenBy_16 rfl ?_
    refine lv_icmp_eq (tgt := 23) hx hb dX7_takenBy_17 (by decide) (fun hq => ?_) (fun hq => ?_)
    · have hf := if_t hq hf
      refine lv_aload_n hx hb dX7_takenBy_23 rfl (lv_at hl 0 rfl) ?_
      obtain ⟨σ3, hc, hf⟩ := bs_some hf
      refine kVv (As := []) (rest := []) (wd := (wM ad cI cZ)) (q0 := 0) (ci := 7) X (c_X7_findStories (l := l) (D := D) (σ := σ) hN hc) (cw_X7_159 X.2.2.2.2.1 ⟨Nat.le_of_ble_eq_true rfl, Nat.le_of_ble_eq_true rfl⟩) rfl rfl hP hS hl rfl rfl (Nat.le_of_ble_eq_true rfl) dX7_takenBy_24 (fun H locs hP hS => ?_)
      refine lv_aload_n hx hb dX7_takenBy_27 rfl (lv_at hl 0 rfl) ?_
      refine fg_X7_58 X hP dX7_takenBy_28 ?_
      refine lv_iload_n hx hb dX7_takenBy_31 rfl (lv_at hl 1 rfl) ?_
      obtain ⟨hi, x4, e_x4, hf⟩ := ld_some hf
      refine ldr (t0 := 0) X hP wM_17 rfl hi e_x4 dX7_takenBy_32 ?_
      exact rIe X hP hS hf dX7_takenBy_33
    · have hf := if_f hq hf
      refine lv_bipush (v := (-3)) hx hb dX7_takenBy_20 rfl ?_
      exact rIe X hP hS hf dX7_takenBy_22
  · have hf := if_t hq hf
    refine lv_iconst (v := (-1)) hx hb dX7_takenBy_8 rfl ?_
    exact rIe X hP hS hf dX7_takenBy_9
set_option maxHeartbeats 4000000 in
set_option maxRecDepth 100000 in
theorem c_X7_takenBy {l : Launch} {D : va_G} {ad : Nat → Nat} {cI cZ : ClassId} (hN : nj ad 30) {σ : St} {a1 : Int32} {r : Int32} {σ' : St} (hf : f_X7_takenBy a1 σ = some (r, σ')) : Met l yX7_takenBy (.code yX7_takenBy cX7_takenBy 2 (some .int) :: wsL_law) rm_X7_takenBy (va_Pc [.ref (ad 0), .int a1] (pw D (wM ad cI cZ) [(cI, .int), (cZ, .boolean)] σ)) (qI D (wM ad cI cZ) (aw ad 30) r σ') 0 0 (aw ad 30) :=
  met_mk (by decide) rfl (Nat.le_of_ble_eq_true rfl) (fun p e s m below meth c X hP ls hl => b_X7_takenBy X hN hf hP va_S.rf hl)
set_option maxHeartbeats 4000000 in
set_option maxRecDepth 100000 in
theorem b_X7_mark_B88 (X : cx p s m meth c args cX7_mark 6 (some .int) RX7 D [(cI, .int), (cZ, .boolean)]) (hN : nj ad 30) {σ : St} {a1 a2 a3 a4 t0 : Int32} {r : Int32} {σ' : St} (hf : f_X7_mark_B88 a1 a2 a3 a4 t0 σ = some (r, σ')) {H : Heap} {locs : List Loc} {ls : Array Slot} (hP : va_P D vwCl (wM ad cI cZ σ) H) (hS : va_S (aw ad 30) s.heap H locs) (hl : lv_has ls 6 [(0, .ref (ad 0)), (1, .int a1), (2, .int a2), (3, .int a3), (4, .int a4)]) : W p l e rm_X7_mark s m args below meth c H locs 0 0 (MQ below (qI D (wM ad cI cZ) (aw ad 30) r σ') args s 0 0 (aw ad 30)) (F0 m 88 ls [.int t0]) := by
  obtain ⟨hx, hb, hml, hown, hts, hr, hlk, hK⟩ := id X
  rw [f_X7_mark_B88] at hf
  refine lv_istore (lv' := [(5, .int t0), (0, .ref (ad 0)), (1, .int a1), (2, .int a2), (3, .int a3), (4, .int a4)]) hx hb dX7_mark_88 hl (by decide) rfl (fun ls hl => ?_)
  refine lv_aload_n hx hb dX7_mark_90 rfl (lv_at hl 1 rfl) ?_
  refine fg_X7_31 X hP dX7_mark_91 ?_
  refine lv_iconst (v := 2) hx hb dX7_mark_94 rfl ?_
  refine lv_iload_n hx hb dX7_mark_95 rfl (lv_at hl 2 rfl) ?_
  refine lv_imul hx hb dX7_mark_96 ?_
  refine lv_iload_n hx hb dX7_mark_97 rfl (lv_at hl 3 rfl) ?_
  refine lv_iadd hx hb dX7_mark_98 ?_
  refine lv_iload_n hx hb dX7_mark_99 rfl (lv_at hl 4 rfl) ?_
  obtain ⟨hi, σ1, e_σ1, hf⟩ := sd_some hf
  refine str (t0 := 0) X hP (wM_D hN) hS wM_8 wM_s8 rfl hi e_σ1 dX7_mark_100 (fun H locs hP hS => ?_)
  refine lv_aload_n hx hb dX7_mark_101 rfl (lv_at hl 1 rfl) ?_
  refine fg_X7_34 X hP dX7_mark_102 ?_
  refine lv_iconst (v := 2) hx hb dX7_mark_105 rfl ?_
  refine lv_iload_n hx hb dX7_mark_106 rfl (lv_at hl 2 rfl) ?_
  refine lv_imul hx hb dX7_mark_107 ?_
  refine lv_iload_n hx hb dX7_mark_108 rfl (lv_at hl 3 rfl) ?_
  refine lv_iadd hx hb dX7_mark_109 ?_
  refine lv_iload hx hb dX7_mark_110 (lv_at hl 5 rfl) ?_
  obtain ⟨hi, σ2, e_σ2, hf⟩ := sd_some hf
  refine str (t0 := 0) X hP (wM_D hN) hS wM_9 wM_s9 rfl hi e_σ2 dX7_mark_112 (fun H locs hP hS => ?_)
  refine lv_iload hx hb dX7_mark_113 (lv_at hl 0 rfl) ?_
  exact rIe X hP hS hf dX7_mark_115
set_option maxHeartbeats 4000000 in
set_option maxRecDepth 100000 in
theorem b_X7_mark_B68 (X : cx p s m meth c args cX7_mark 6 (some .int) RX7 D [(cI, .int), (cZ, .boolean)]) (hN : nj ad 30) {σ : St} {a1 a2 a3 a4 : Int32} {r : Int32} {σ' : St} (hf : f_X7_mark_B68 a1 a2 a3 a4 σ = some (r, σ')) {H : Heap} {locs : List Loc} {ls : Array Slot} (hP : va_P D vwCl (wM ad cI cZ σ) H) (hS : va_S (aw ad 30) s.heap H locs) (hl : lv_has ls 6 [(0, .ref (ad 0)), (1, .int a1), (2, .int a2), (3, .int a3), (4, .int a4)]) : W p l e rm_X7_mark s m args below meth c H locs 0 0 (MQ below (qI D (wM ad cI cZ) (aw ad 30) r σ') args s 0 0 (aw ad 30)) (F0 m 68 ls []) := by
  obtain ⟨hx, hb, hml, hown, hts, hr, hlk, hK⟩ := id X
  rw [f_X7_mark_B68] at hf
  refine lv_aload_n hx hb dX7_mark_68 rfl (lv_at hl 0 rfl) ?_
  refine fg_X7_31 X hP dX7_mark_69 ?_
  refine lv_iconst (v := 2) hx hb dX7_mark_72 rfl ?_
  refine lv_iload_n hx hb dX7_mark_73 rfl (lv_at hl 1 rfl) ?_
  refine lv_imul hx hb dX7_mark_74 ?_
  refine lv_iload_n hx hb dX7_mark_75 rfl (lv_at hl 2 rfl) ?_
  refine lv_iadd hx hb dX7_mark_76 ?_
  obtain ⟨hi, x1, e_x1, hf⟩ := ld_some hf
  refine ldr (t0 := 0) X hP wM_8 rfl hi e_x1 dX7_mark_77 ?_
  refine lv_bipush (v := (-9)) hx hb dX7_mark_78 rfl ?_
  refine lv_icmp_ne (tgt := 87) hx hb dX7_mark_80 (by decide) (fun hq => ?_) (fun hq => ?_)
  · have hf := if_f hq hf
    refine lv_iconst (v := 1) hx hb dX7_mark_87 rfl ?_
    exact b_X7_mark_B88 X hN hf hP hS (lv_sub hl [0, 1, 2, 3, 4] rfl)
  · have hf := if_t hq hf
    refine lv_iconst (v := 0) hx hb dX7_mark_83 rfl ?_
    refine lv_goto (tgt := 88) hx hb dX7_mark_84 (by decide) ?_
    exact b_X7_mark_B88 X hN hf hP hS (lv_sub hl [0, 1, 2, 3, 4] rfl)
set_option maxHeartbeats 4000000 in
set_option maxRecDepth 100000 in
theorem b_X7_mark (X : cx p s m meth c args cX7_mark 6 (some .int) RX7 D [(cI, .int), (cZ, .boolean)]) (hN : nj ad 30) {σ : St} {a1 a2 a3 a4 : Int32} {r : Int32} {σ' : St} (hf : f_X7_mark a1 a2 a3 a4 σ = some (r, σ')) {H : Heap} {locs : List Loc} {ls : Array Slot} (hP : va_P D vwCl (wM ad cI cZ σ) H) (hS : va_S (aw ad 30) s.heap H locs) (hl : lv_has ls 6 [(0, .ref (ad 0)), (1, .int a1), (2, .int a2), (3, .int a3), (4, .int a4)]) : W p l e rm_X7_mark s m args below meth c H locs 0 0 (MQ below (qI D (wM ad cI cZ) (aw ad 30) r σ') args s 0 0 (aw ad 30)) (F0 m 0 ls []) := by
  obtain ⟨hx, hb, hml, hown, hts, hr, hlk, hK⟩ := id X
  rw [f_X7_mark] at hf
  refine lv_aload_n hx hb dX7_mark_0 rfl (lv_at hl 0 rfl) ?_
  refine lv_iload_n hx hb dX7_mark_1 rfl (lv_at hl 1 rfl) ?_
  obtain ⟨x1, hc, hf⟩ := bi_some hf
  refine kVi (As := [.int a1]) (rest := []) (wd := (wM ad cI cZ)) (q0 := 0) (ci := 7) X (c_X7_isBlock (l := l) (D := D) (σ := σ) hN hc) (cw_X7_110 X.2.2.2.2.1 ⟨Nat.le_of_ble_eq_true rfl, Nat.le_of_ble_eq_true rfl⟩) rfl rfl hP hS hl rfl rfl (Nat.le_of_ble_eq_true rfl) dX7_mark_2 (fun H locs hP hS => ?_)
  refine lv_if_ne (tgt := 10) hx hb dX7_mark_5 (by decide) (fun hq => ?_) (fun hq => ?_)
  · have hf := if_f hq hf
    refine lv_iload_n hx hb dX7_mark_10 rfl (lv_at hl 2 rfl) ?_
    refine lv_iconst (v := 0) hx hb dX7_mark_11 rfl ?_
    refine lv_iconst (v := 1) hx hb dX7_mark_12 rfl ?_
    obtain ⟨x2, hc, hf⟩ := bi_some hf
    refine kSi (As := [.int a2, .int 0, .int 1]) (rest := []) (wd := (wM ad cI cZ)) X (c_X7_within (l := l) (D := D) (σ := σ) hN hc) (cw_X7_102 X.2.2.2.2.1 ⟨Nat.le_of_ble_eq_true rfl, Nat.le_of_ble_eq_true rfl⟩) hP hS hl rfl rfl (Nat.le_of_ble_eq_true rfl) dX7_mark_13 (fun H locs hP hS => ?_)
    refine lv_if_eq (tgt := 39) hx hb dX7_mark_16 (by decide) (fun hq => ?_) (fun hq => ?_)
    · have hf := if_t hq hf
      refine lv_bipush (v := (-2)) hx hb dX7_mark_39 rfl ?_
      exact rIe X hP hS hf dX7_mark_41
    · have hf := if_f hq hf
      refine lv_iload_n hx hb dX7_mark_19 rfl (lv_at hl 3 rfl) ?_
      refine lv_iconst (v := 0) hx hb dX7_mark_20 rfl ?_
      refine lv_iconst (v := 3) hx hb dX7_mark_21 rfl ?_
      obtain ⟨x3, hc, hf⟩ := bi_some hf
      refine kSi (As := [.int a3, .int 0, .int 3]) (rest := []) (wd := (wM ad cI cZ)) X (c_X7_within (l := l) (D := D) (σ := σ) hN hc) (cw_X7_102 X.2.2.2.2.1 ⟨Nat.le_of_ble_eq_true rfl, Nat.le_of_ble_eq_true rfl⟩) hP hS hl rfl rfl (Nat.le_of_ble_eq_true rfl) dX7_mark_22 (fun H locs hP hS => ?_)
      refine lv_if_eq (tgt := 39) hx hb dX7_mark_25 (by decide) (fun hq => ?_) (fun hq => ?_)
      · have hf := if_t hq hf
        refine lv_bipush (v := (-2)) hx hb dX7_mark_39 rfl ?_
        exact rIe X hP hS hf dX7_mark_41
      · have hf := if_f hq hf
        refine lv_iload hx hb dX7_mark_28 (lv_at hl 4 rfl) ?_
        refine lv_iconst (v := 0) hx hb dX7_mark_30 rfl ?_
        refine lv_bipush (v := 99) hx hb dX7_mark_31 rfl ?_
        obtain ⟨x4, hc, hf⟩ := bi_some hf
        refine kSi (As := [.int a4, .int 0, .int 99]) (rest := []) (wd := (wM ad cI cZ)) X (c_X7_within (l := l) (D := D) (σ := σ) hN hc) (cw_X7_102 X.2.2.2.2.1 ⟨Nat.le_of_ble_eq_true rfl, Nat.le_of_ble_eq_true rfl⟩) hP hS hl rfl rfl (Nat.le_of_ble_eq_true rfl) dX7_mark_33 (fun H locs hP hS => ?_)
        refine lv_if_ne (tgt := 42) hx hb dX7_mark_36 (by decide) (fun hq => ?_) (fun hq => ?_)
        · have hf := if_f hq hf
          refine lv_aload_n hx hb dX7_mark_42 rfl (lv_at hl 0 rfl) ?_
          refine fg_X7_13 X hP dX7_mark_43 ?_
          refine lv_iload_n hx hb dX7_mark_46 rfl (lv_at hl 1 rfl) ?_
          obtain ⟨hi, x5, e_x5, hf⟩ := ld_some hf
          refine ldr (t0 := 0) X hP wM_2 rfl hi e_x5 dX7_mark_47 ?_
          refine lv_iconst (v := 2) hx hb dX7_mark_48 rfl ?_
          refine lv_icmp_eq (tgt := 65) hx hb dX7_mark_49 (by decide) (fun hq => ?_) (fun hq => ?_)
          · have hf := if_t hq hf
            refine lv_bipush (v := (-3)) hx hb dX7_mark_65 rfl ?_
            exact rIe X hP hS hf dX7_mark_67
          · have hf := if_f hq hf
            refine lv_iload_n hx hb dX7_mark_52 rfl (lv_at hl 2 rfl) ?_
            refine lv_if_ne (tgt := 68) hx hb dX7_mark_53 (by decide) (fun hq => ?_) (fun hq => ?_)
            · have hf := if_f hq hf
              exact b_X7_mark_B68 X hN hf hP hS (lv_sub hl [0, 1, 2, 3, 4] rfl)
            · have hf := if_t hq hf
              refine lv_aload_n hx hb dX7_mark_56 rfl (lv_at hl 0 rfl) ?_
              refine fg_X7_13 X hP dX7_mark_57 ?_
              refine lv_iload_n hx hb dX7_mark_60 rfl (lv_at hl 1 rfl) ?_
              obtain ⟨hi, x6, e_x6, hf⟩ := ld_some hf
              refine ldr (t0 := 0) X hP wM_2 rfl hi e_x6 dX7_mark_61 ?_
              refine lv_if_ne (tgt := 68) hx hb dX7_mark_62 (by decide) (fun hq => ?_) (fun hq => ?_)
              · have hf := if_f hq hf
                exact b_X7_mark_B68 X hN hf hP hS (lv_sub hl [0, 1, 2, 3, 4] rfl)
              · have hf := if_t hq hf
                refine lv_bipush (v := (-3)) hx hb dX7_mark_65 rfl ?_
                exact rIe X hP hS hf dX7_mark_67
        · have hf := if_t hq hf
          refine lv_bipush (v := (-2)) hx hb dX7_mark_39 rfl ?_
          exact rIe X hP hS hf dX7_mark_41
  · have hf := if_t hq hf
    refine lv_iconst (v := (-1)) hx hb dX7_mark_8 rfl ?_
    exact rIe X hP hS hf dX7_mark_9
set_option maxHeartbeats 4000000 in
set_option maxRecDepth 100000 in
theorem c_X7_mark {l : Launch} {D : va_G} {ad : Nat → Nat} {cI cZ : ClassId} (hN : nj ad 30) {σ : St} {a1 a2 a3 a4 : Int32} {r : Int32} {σ' : St} (hf : f_X7_mark a1 a2 a3 a4 σ = some (r, σ')) : Met l yX7_mark (.code yX7_mark cX7_mark 6 (some .int) :: wsL_law) rm_X7_mark (va_Pc [.ref (ad 0), .int a1, .int a2, .int a3, .int a4] (pw D (wM ad cI cZ) [(cI, .int), (cZ, .boolean)] σ)) (qI D (wM ad cI cZ) (aw ad 30) r σ') 0 0 (aw ad 30) :=
  met_mk (by decide) rfl (Nat.le_of_ble_eq_true rfl) (fun p e s m below meth c X hP ls hl => b_X7_mark X hN hf hP va_S.rf hl)
end WALK
