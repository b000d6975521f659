section WALK
variable {p : Program} {l : Launch} {e : Env} {s : State} {m : MethodId} {args : Array Value} {below : List Frame} {meth : Method} {c : Code} {D : va_G} {ad : Nat → Nat} {cI cZ : ClassId}
set_option maxHeartbeats 4000000 in
set_option maxRecDepth 100000 in
theorem b_X2_hasUpright_B49 (X : cx p s m meth c args cX2_hasUpright 7 (some .boolean) RX2 D [(cI, .int)]) (hN : nj ad 34) {σ : St} {a1 a2 a3 a4 a5 t0 : Int32} {r : Int32} {K : Int32 → Int32 → Int32 → Int32 → Int32 → Option Int32} (hk : ∀ {b1 b2 b3 b4 b5 : Int32} {H : Heap} {locs : List Loc} {ls : Array Slot}, K b1 b2 b3 b4 b5 = some r → va_P D vwCl (wC ad cI σ) H → va_S (aw ad 34) s.heap H locs → lv_has ls 7 [(0, .ref (ad 3)), (1, .int b1), (2, .int b2), (3, .int b3), (4, .int b4), (5, .int b5)] → W p l e rm_X2_hasUpright s m args below meth c H locs 0 0 (MQ below (qI D (wC ad cI) (aw ad 34) r σ) args s 0 0 (aw ad 34)) (F0 m 3 ls [])) (hf : f_X2_hasUpright_B49 σ K a1 a2 a3 a4 a5 t0 = some r) {H : Heap} {locs : List Loc} {ls : Array Slot} (hP : va_P D vwCl (wC ad cI σ) H) (hS : va_S (aw ad 34) s.heap H locs) (hl : lv_has ls 7 [(0, .ref (ad 3)), (1, .int a1), (2, .int a2), (3, .int a3), (4, .int a4), (5, .int a5)]) : W p l e rm_X2_hasUpright s m args below meth c H locs 0 0 (MQ below (qI D (wC ad cI) (aw ad 34) r σ) args s 0 0 (aw ad 34)) (F0 m 49 ls [.int t0]) := by
  obtain ⟨hx, hb, hml, hown, hts, hr, hlk, hK⟩ := id X
  rw [f_X2_hasUpright_B49] at hf
  refine lv_istore (lv' := [(6, .int t0), (0, .ref (ad 3)), (1, .int a1), (2, .int a2), (3, .int a3), (4, .int a4), (5, .int a5)]) hx hb dX2_hasUpright_49 hl (by decide) rfl (fun ls hl => ?_)
  refine lv_iload hx hb dX2_hasUpright_51 (lv_at hl 0 rfl) ?_
  refine lv_if_eq (tgt := 81) hx hb dX2_hasUpright_53 (by decide) (fun hq => ?_) (fun hq => ?_)
  · have hf := if_t hq hf
    refine lv_iinc (v := (a5 + 1)) (lv' := [(5, .int (a5 + 1)), (6, .int t0), (0, .ref (ad 3)), (1, .int a1), (2, .int a2), (3, .int a3), (4, .int a4)]) hx hb dX2_hasUpright_81 hl (k := 6) rfl rfl (by decide) rfl (fun ls hl => ?_)
    refine lv_goto (tgt := 3) hx hb dX2_hasUpright_84 (by decide) ?_
    exact hk hf hP hS (lv_sub hl [2, 3, 4, 5, 6, 0] rfl)
  · have hf := if_f hq hf
    refine lv_aload_n hx hb dX2_hasUpright_56 rfl (lv_at hl 1 rfl) ?_
    refine fg_X2_21 X hP dX2_hasUpright_57 ?_
    refine lv_iload hx hb dX2_hasUpright_60 (lv_at hl 6 rfl) ?_
    obtain ⟨hi, x1, e_x1, hf⟩ := ld_some hf
    refine ldr (t0 := 0) X hP wC_19 rfl hi e_x1 dX2_hasUpright_62 ?_
    refine lv_iload hx hb dX2_hasUpright_63 (lv_at hl 5 rfl) ?_
    refine lv_icmp_gt (tgt := 81) hx hb dX2_hasUpright_65 (by decide) (fun hq => ?_) (fun hq => ?_)
    · have hf := if_t hq hf
      refine lv_iinc (v := (a5 + 1)) (lv' := [(5, .int (a5 + 1)), (6, .int t0), (0, .ref (ad 3)), (1, .int a1), (2, .int a2), (3, .int a3), (4, .int a4)]) hx hb dX2_hasUpright_81 hl (k := 6) rfl rfl (by decide) rfl (fun ls hl => ?_)
      refine lv_goto (tgt := 3) hx hb dX2_hasUpright_84 (by decide) ?_
      exact hk hf hP hS (lv_sub hl [2, 3, 4, 5, 6, 0] rfl)
    · have hf := if_f hq hf
      refine lv_aload_n hx hb dX2_hasUpright_68 rfl (lv_at hl 1 rfl) ?_
      refine fg_X2_24 X hP dX2_hasUpright_69 ?_
      refine lv_iload hx hb dX2_hasUpright_72 (lv_at hl 6 rfl) ?_
      obtain ⟨hi, x2, e_x2, hf⟩ := ld_some hf
      refine ldr (t0 := 0) X hP wC_20 rfl hi e_x2 dX2_hasUpright_74 ?_
      refine lv_iload_n hx hb dX2_hasUpright_75 rfl (lv_at hl 4 rfl) ?_
      refine lv_icmp_lt (tgt := 81) hx hb dX2_hasUpright_76 (by decide) (fun hq => ?_) (fun hq => ?_)
      · have hf := if_t hq hf
        refine lv_iinc (v := (a5 + 1)) (lv' := [(5, .int (a5 + 1)), (6, .int t0), (0, .ref (ad 3)), (1, .int a1), (2, .int a2), (3, .int a3), (4, .int a4)]) hx hb dX2_hasUpright_81 hl (k := 6) rfl rfl (by decide) rfl (fun ls hl => ?_)
        refine lv_goto (tgt := 3) hx hb dX2_hasUpright_84 (by decide) ?_
        exact hk hf hP hS (lv_sub hl [2, 3, 4, 5, 6, 0] rfl)
      · have hf := if_f hq hf
        refine lv_iconst (v := 1) hx hb dX2_hasUpright_79 rfl ?_
        exact rZ X hP hS hf dX2_hasUpright_80
set_option maxHeartbeats 4000000 in
set_option maxRecDepth 100000 in
theorem b_X2_hasUpright_B48 (X : cx p s m meth c args cX2_hasUpright 7 (some .boolean) RX2 D [(cI, .int)]) (hN : nj ad 34) {σ : St} {a1 a2 a3 a4 a5 : Int32} {r : Int32} {K : Int32 → Int32 → Int32 → Int32 → Int32 → Option Int32} (hk : ∀ {b1 b2 b3 b4 b5 : Int32} {H : Heap} {locs : List Loc} {ls : Array Slot}, K b1 b2 b3 b4 b5 = some r → va_P D vwCl (wC ad cI σ) H → va_S (aw ad 34) s.heap H locs → lv_has ls 7 [(0, .ref (ad 3)), (1, .int b1), (2, .int b2), (3, .int b3), (4, .int b4), (5, .int b5)] → W p l e rm_X2_hasUpright s m args below meth c H locs 0 0 (MQ below (qI D (wC ad cI) (aw ad 34) r σ) args s 0 0 (aw ad 34)) (F0 m 3 ls [])) (hf : f_X2_hasUpright_B48 σ K a1 a2 a3 a4 a5 = some r) {H : Heap} {locs : List Loc} {ls : Array Slot} (hP : va_P D vwCl (wC ad cI σ) H) (hS : va_S (aw ad 34) s.heap H locs) (hl : lv_has ls 7 [(0, .ref (ad 3)), (1, .int a1), (2, .int a2), (3, .int a3), (4, .int a4), (5, .int a5)]) : W p l e rm_X2_hasUpright s m args below meth c H locs 0 0 (MQ below (qI D (wC ad cI) (aw ad 34) r σ) args s 0 0 (aw ad 34)) (F0 m 48 ls []) := by
  obtain ⟨hx, hb, hml, hown, hts, hr, hlk, hK⟩ := id X
  rw [f_X2_hasUpright_B48] at hf
  refine lv_iconst (v := 0) hx hb dX2_hasUpright_48 rfl ?_
  exact b_X2_hasUpright_B49 X hN hk hf hP hS (lv_sub hl [0, 1, 2, 3, 4, 5] rfl)
set_option maxHeartbeats 4000000 in
set_option maxRecDepth 100000 in
theorem b_X2_hasUpright_L3 (X : cx p s m meth c args cX2_hasUpright 7 (some .boolean) RX2 D [(cI, .int)]) (hN : nj ad 34) : ∀ (n : Nat) {σ : St} {a1 a2 a3 a4 a5 : Int32} {r : Int32}, f_X2_hasUpright_L3 σ n a1 a2 a3 a4 a5 = some r → ∀ {H : Heap} {locs : List Loc} {ls : Array Slot}, va_P D vwCl (wC ad cI σ) H → va_S (aw ad 34) s.heap H locs → lv_has ls 7 [(0, .ref (ad 3)), (1, .int a1), (2, .int a2), (3, .int a3), (4, .int a4), (5, .int a5)] → W p l e rm_X2_hasUpright s m args below meth c H locs 0 0 (MQ below (qI D (wC ad cI) (aw ad 34) r σ) args s 0 0 (aw ad 34)) (F0 m 3 ls []) := by
  intro n
  induction n with
  | zero =>
    intro σ a1 a2 a3 a4 a5 r hf
    rw [f_X2_hasUpright_L3] at hf
    cases hf
  | succ n ih =>
    intro σ a1 a2 a3 a4 a5 r hf H locs ls hP hS hl
    obtain ⟨hx, hb, hml, hown, hts, hr, hlk, hK⟩ := id X
    rw [f_X2_hasUpright_L3] at hf
    refine lv_iload hx hb dX2_hasUpright_3 (lv_at hl 5 rfl) ?_
    refine lv_aload_n hx hb dX2_hasUpright_5 rfl (lv_at hl 0 rfl) ?_
    obtain ⟨x1, e_x1, hf⟩ := lf_some hf
    refine fg_X2_27 X hP e_x1 dX2_hasUpright_6 ?_
    refine lv_icmp_ge (tgt := 87) hx hb dX2_hasUpright_9 (by decide) (fun hq => ?_) (fun hq => ?_)
    · have hf := if_t hq hf
      refine lv_iconst (v := 0) hx hb dX2_hasUpright_87 rfl ?_
      exact rZ X hP hS hf dX2_hasUpright_88
    · have hf := if_f hq hf
      refine lv_aload_n hx hb dX2_hasUpright_12 rfl (lv_at hl 0 rfl) ?_
      refine fg_X2_15 X hP dX2_hasUpright_13 ?_
      refine lv_iload hx hb dX2_hasUpright_16 (lv_at hl 5 rfl) ?_
      obtain ⟨hi, x2, e_x2, hf⟩ := ld_some hf
      refine ldr (t0 := 0) X hP wC_17 rfl hi e_x2 dX2_hasUpright_18 ?_
      refine lv_if_ne (tgt := 48) hx hb dX2_hasUpright_19 (by decide) (fun hq => ?_) (fun hq => ?_)
      · have hf := if_f hq hf
        exact b_X2_hasUpright_B48 X hN (fun hf hP hS hl => ih hf hP hS hl) hf hP hS (lv_sub hl [0, 1, 2, 3, 4, 5] rfl)
      · have hf := if_t hq hf
        refine lv_aload_n hx hb dX2_hasUpright_22 rfl (lv_at hl 0 rfl) ?_
        refine fg_X2_9 X hP dX2_hasUpright_23 ?_
        refine lv_iload hx hb dX2_hasUpright_26 (lv_at hl 5 rfl) ?_
        obtain ⟨hi, x3, e_x3, hf⟩ := ld_some hf
        refine ldr (t0 := 0) X hP wC_16 rfl hi e_x3 dX2_hasUpright_28 ?_
        refine lv_iload_n hx hb dX2_hasUpright_29 rfl (lv_at hl 1 rfl) ?_
        refine lv_icmp_ne (tgt := 48) hx hb dX2_hasUpright_30 (by decide) (fun hq => ?_) (fun hq => ?_)
        · have hf := if_f hq hf
          exact b_X2_hasUpright_B48 X hN (fun hf hP hS hl => ih hf hP hS hl) hf hP hS (lv_sub hl [0, 1, 2, 3, 4, 5] rfl)
        · have hf := if_t hq hf
          refine lv_aload_n hx hb dX2_hasUpright_33 rfl (lv_at hl 0 rfl) ?_
          refine fg_X2_18 X hP dX2_hasUpright_34 ?_
          refine lv_iload hx hb dX2_hasUpright_37 (lv_at hl 5 rfl) ?_
          obtain ⟨hi, x4, e_x4, hf⟩ := ld_some hf
          refine ldr (t0 := 0) X hP wC_18 rfl hi e_x4 dX2_hasUpright_39 ?_
          refine lv_iload_n hx hb dX2_hasUpright_40 rfl (lv_at hl 2 rfl) ?_
          refine lv_icmp_ne (tgt := 48) hx hb dX2_hasUpright_41 (by decide) (fun hq => ?_) (fun hq => ?_)
          · have hf := if_f hq hf
            exact b_X2_hasUpright_B48 X hN (fun hf hP hS hl => ih hf hP hS hl) hf hP hS (lv_sub hl [0, 1, 2, 3, 4, 5] rfl)
          · have hf := if_t hq hf
            refine lv_iconst (v := 1) hx hb dX2_hasUpright_44 rfl ?_
            refine lv_goto (tgt := 49) hx hb dX2_hasUpright_45 (by decide) ?_
            exact b_X2_hasUpright_B49 X hN (fun hf hP hS hl => ih hf hP hS hl) hf hP hS (lv_sub hl [0, 1, 2, 3, 4, 5] rfl)
set_option maxHeartbeats 4000000 in
set_option maxRecDepth 100000 in
theorem b_X2_hasUpright (X : cx p s m meth c args cX2_hasUpright 7 (some .boolean) RX2 D [(cI, .int)]) (hN : nj ad 34) {σ : St} {a1 a2 a3 a4 : Int32} {r : Int32} (hf : f_X2_hasUpright a1 a2 a3 a4 σ = some r) {H : Heap} {locs : List Loc} {ls : Array Slot} (hP : va_P D vwCl (wC ad cI σ) H) (hS : va_S (aw ad 34) s.heap H locs) (hl : lv_has ls 7 [(0, .ref (ad 3)), (1, .int a1), (2, .int a2), (3, .int a3), (4, .int a4)]) : W p l e rm_X2_hasUpright s m args below meth c H locs 0 0 (MQ below (qI D (wC ad cI) (aw ad 34) r σ) args s 0 0 (aw ad 34)) (F0 m 0 ls []) := by
  obtain ⟨hx, hb, hml, hown, hts, hr, hlk, hK⟩ := id X
  rw [f_X2_hasUpright] at hf
  refine lv_iconst (v := 0) hx hb dX2_hasUpright_0 rfl ?_
  refine lv_istore (lv' := [(5, .int 0), (0, .ref (ad 3)), (1, .int a1), (2, .int a2), (3, .int a3), (4, .int a4)]) hx hb dX2_hasUpright_1 hl (by decide) rfl (fun ls hl => ?_)
  exact b_X2_hasUpright_L3 X hN _ hf hP hS (lv_sub hl [1, 2, 3, 4, 5, 0] rfl)
set_option maxHeartbeats 4000000 in
set_option maxRecDepth 100000 in
theorem c_X2_hasUpright {l : Launch} {D : va_G} {ad : Nat → Nat} {cI : ClassId} (hN : nj ad 34) {σ : St} {a1 a2 a3 a4 : Int32} {r : Int32} (hf : f_X2_hasUpright a1 a2 a3 a4 σ = some r) : Met l yX2_hasUpright (.code yX2_hasUpright cX2_hasUpright 7 (some .boolean) :: wsL_law) rm_X2_hasUpright (va_Pc [.ref (ad 3), .int a1, .int a2, .int a3, .int a4] (pw D (wC ad cI) [(cI, .int)] σ)) (qI D (wC ad cI) (aw ad 34) r σ) 0 0 (aw ad 34) :=
  met_mk (by decide) rfl (Nat.le_of_ble_eq_true rfl) (fun p e s m below meth c X hP ls hl => b_X2_hasUpright X hN hf hP va_S.rf hl)
set_option maxHeartbeats 4000000 in
set_option maxRecDepth 100000 in
theorem b_X2_flatBelow_B54 (X : cx p s m meth c args cX2_flatBelow 7 (some .int) RX2 D [(cI, .int)]) (hN : nj ad 34) {σ : St} {a1 a2 a3 a4 a5 t0 : Int32} {r : Int32} {K : Int32 → Int32 → Int32 → Int32 → Int32 → Option Int32} (hk : ∀ {b1 b2 b3 b4 b5 : Int32} {H : Heap} {locs : List Loc} {ls : Array Slot}, K b1 b2 b3 b4 b5 = some r → va_P D vwCl (wC ad cI σ) H → va_S (aw ad 34) s.heap H locs → lv_has ls 7 [(0, .ref (ad 3)), (1, .int b1), (2, .int b2), (3, .int b3), (4, .int b4), (5, .int b5)] → W p l e rm_X2_flatBelow s m args below meth c H locs 0 0 (MQ below (qI D (wC ad cI) (aw ad 34) r σ) args s 0 0 (aw ad 34)) (F0 m 7 ls [])) (hf : f_X2_flatBelow_B54 σ K a1 a2 a3 a4 a5 t0 = some r) {H : Heap} {locs : List Loc} {ls : Array Slot} (hP : va_P D vwCl (wC ad cI σ) H) (hS : va_S (aw ad 34) s.heap H locs) (hl : lv_has ls 7 [(0, .ref (ad 3)), (1, .int a1), (2, .int a2), (3, .int a3), (4, .int a4), (5, .int a5)]) : W p l e rm_X2_flatBelow s m args below meth c H locs 0 0 (MQ below (qI D (wC ad cI) (aw ad 34) r σ) args s 0 0 (aw ad 34)) (F0 m 54 ls [.int t0]) := by
  obtain ⟨hx, hb, hml, hown, hts, hr, hlk, hK⟩ := id X
  rw [f_X2_flatBelow_B54] at hf
  refine lv_istore (lv' := [(6, .int t0), (0, .ref (ad 3)), (1, .int a1), (2, .int a2), (3, .int a3), (4, .int a4), (5, .int a5)]) hx hb dX2_flatBelow_54 hl (by decide) rfl (fun ls hl => ?_)
  refine lv_iload hx hb dX2_flatBelow_56 (lv_at hl 0 rfl) ?_
  refine lv_if_eq (tgt := 97) hx hb dX2_flatBelow_58 (by decide) (fun hq => ?_) (fun hq => ?_)
  · have hf := if_t hq hf
    refine lv_iinc (v := (a5 + 1)) (lv' := [(5, .int (a5 + 1)), (6, .int t0), (0, .ref (ad 3)), (1, .int a1), (2, .int a2), (3, .int a3), (4, .int a4)]) hx hb dX2_flatBelow_97 hl (k := 6) rfl rfl (by decide) rfl (fun ls hl => ?_)
    refine lv_goto (tgt := 7) hx hb dX2_flatBelow_100 (by decide) ?_
    exact hk hf hP hS (lv_sub hl [2, 3, 4, 5, 6, 0] rfl)
  · have hf := if_f hq hf
    refine lv_aload_n hx hb dX2_flatBelow_61 rfl (lv_at hl 1 rfl) ?_
    refine fg_X2_9 X hP dX2_flatBelow_62 ?_
    refine lv_iload hx hb dX2_flatBelow_65 (lv_at hl 6 rfl) ?_
    obtain ⟨hi, x1, e_x1, hf⟩ := ld_some hf
    refine ldr (t0 := 0) X hP wC_16 rfl hi e_x1 dX2_flatBelow_67 ?_
    refine lv_iload_n hx hb dX2_flatBelow_68 rfl (lv_at hl 2 rfl) ?_
    refine lv_icmp_ne (tgt := 97) hx hb dX2_flatBelow_69 (by decide) (fun hq => ?_) (fun hq => ?_)
    · have hf := if_f hq hf
      refine lv_iinc (v := (a5 + 1)) (lv' := [(5, .int (a5 + 1)), (6, .int t0), (0, .ref (ad 3)), (1, .int a1), (2, .int a2), (3, .int a3), (4, .int a4)]) hx hb dX2_flatBelow_97 hl (k := 6) rfl rfl (by decide) rfl (fun ls hl => ?_)
      refine lv_goto (tgt := 7) hx hb dX2_flatBelow_100 (by decide) ?_
      exact hk hf hP hS (lv_sub hl [2, 3, 4, 5, 6, 0] rfl)
    · have hf := if_t hq hf
      refine lv_aload_n hx hb dX2_flatBelow_72 rfl (lv_at hl 1 rfl) ?_
      refine fg_X2_18 X hP dX2_flatBelow_73 ?_
      refine lv_iload hx hb dX2_flatBelow_76 (lv_at hl 6 rfl) ?_
      obtain ⟨hi, x2, e_x2, hf⟩ := ld_some hf
      refine ldr (t0 := 0) X hP wC_18 rfl hi e_x2 dX2_flatBelow_78 ?_
      refine lv_iload_n hx hb dX2_flatBelow_79 rfl (lv_at hl 4 rfl) ?_
      refine lv_icmp_le (tgt := 97) hx hb dX2_flatBelow_80 (by decide) (fun hq => ?_) (fun hq => ?_)
      · have hf := if_t hq hf
        refine lv_iinc (v := (a5 + 1)) (lv' := [(5, .int (a5 + 1)), (6, .int t0), (0, .ref (ad 3)), (1, .int a1), (2, .int a2), (3, .int a3), (4, .int a4)]) hx hb dX2_flatBelow_97 hl (k := 6) rfl rfl (by decide) rfl (fun ls hl => ?_)
        refine lv_goto (tgt := 7) hx hb dX2_flatBelow_100 (by decide) ?_
        exact hk hf hP hS (lv_sub hl [2, 3, 4, 5, 6, 0] rfl)
      · have hf := if_f hq hf
        refine lv_iload hx hb dX2_flatBelow_83 (lv_at hl 5 rfl) ?_
        refine lv_aload_n hx hb dX2_flatBelow_85 rfl (lv_at hl 1 rfl) ?_
        refine fg_X2_18 X hP dX2_flatBelow_86 ?_
        refine lv_iload hx hb dX2_flatBelow_89 (lv_at hl 6 rfl) ?_
        obtain ⟨hi, x3, e_x3, hf⟩ := ld_some hf
        refine ldr (t0 := 0) X hP wC_18 rfl hi e_x3 dX2_flatBelow_91 ?_
        refine mm_X2_31 X hl (Nat.le_of_ble_eq_true rfl) (Nat.le_of_ble_eq_true rfl) dX2_flatBelow_92 ?_
        refine lv_istore (lv' := [(4, .int (jmin a4 x3)), (6, .int t0), (0, .ref (ad 3)), (1, .int a1), (2, .int a2), (3, .int a3), (5, .int a5)]) hx hb dX2_flatBelow_95 hl (by decide) rfl (fun ls hl => ?_)
        refine lv_iinc (v := (a5 + 1)) (lv' := [(5, .int (a5 + 1)), (4, .int (jmin a4 x3)), (6, .int t0), (0, .ref (ad 3)), (1, .int a1), (2, .int a2), (3, .int a3)]) hx hb dX2_flatBelow_97 hl (k := 6) rfl rfl (by decide) rfl (fun ls hl => ?_)
        refine lv_goto (tgt := 7) hx hb dX2_flatBelow_100 (by decide) ?_
        exact hk hf hP hS (lv_sub hl [3, 4, 5, 6, 1, 0] rfl)
set_option maxHeartbeats 4000000 in
set_option maxRecDepth 100000 in
theorem b_X2_flatBelow_B53 (X : cx p s m meth c args cX2_flatBelow 7 (some .int) RX2 D [(cI, .int)]) (hN : nj ad 34) {σ : St} {a1 a2 a3 a4 a5 : Int32} {r : Int32} {K : Int32 → Int32 → Int32 → Int32 → Int32 → Option Int32} (hk : ∀ {b1 b2 b3 b4 b5 : Int32} {H : Heap} {locs : List Loc} {ls : Array Slot}, K b1 b2 b3 b4 b5 = some r → va_P D vwCl (wC ad cI σ) H → va_S (aw ad 34) s.heap H locs → lv_has ls 7 [(0, .ref (ad 3)), (1, .int b1), (2, .int b2), (3, .int b3), (4, .int b4), (5, .int b5)] → W p l e rm_X2_flatBelow s m args below meth c H locs 0 0 (MQ below (qI D (wC ad cI) (aw ad 34) r σ) args s 0 0 (aw ad 34)) (F0 m 7 ls [])) (hf : f_X2_flatBelow_B53 σ K a1 a2 a3 a4 a5 = some r) {H : Heap} {locs : List Loc} {ls : Array Slot} (hP : va_P D vwCl (wC ad cI σ) H) (hS : va_S (aw ad 34) s.heap H locs) (hl : lv_has ls 7 [(0, .ref (ad 3)), (1, .int a1), (2, .int a2), (3, .int a3), (4, .int a4), (5, .int a5)]) : W p l e rm_X2_flatBelow s m args below meth c H locs 0 0 (MQ below (qI D (wC ad cI) (aw ad 34) r σ) args s 0 0 (aw ad 34)) (F0 m 53 ls []) := by
  obtain ⟨hx, hb, hml, hown, hts, hr, hlk, hK⟩ := id X
  rw [f_X2_flatBelow_B53] at hf
  refine lv_iconst (v := 0) hx hb dX2_flatBelow_53 rfl ?_
  exact b_X2_flatBelow_B54 X hN hk hf hP hS (lv_sub hl [0, 1, 2, 3, 4, 5] rfl)
set_option maxHeartbeats 4000000 in
set_option maxRecDepth 100000 in
theorem b_X2_flatBelow_L7 (X : cx p s m meth c args cX2_flatBelow 7 (some .int) RX2 D [(cI, .int)]) (hN : nj ad 34) : ∀ (n : Nat) {σ : St} {a1 a2 a3 a4 a5 : Int32} {r : Int32}, f_X2_flatBelow_L7 σ n a1 a2 a3 a4 a5 = some r → ∀ {H : Heap} {locs : List Loc} {ls : Array Slot}, va_P D vwCl (wC ad cI σ) H → va_S (aw ad 34) s.heap H locs → lv_has ls 7 [(0, .ref (ad 3)), (1, .int a1), (2, .int a2), (3, .int a3), (4, .int a4), (5, .int a5)] → W p l e rm_X2_flatBelow s m args below meth c H locs 0 0 (MQ below (qI D (wC ad cI) (aw ad 34) r σ) args s 0 0 (aw ad 34)) (F0 m 7 ls []) := by
  intro n
  induction n with
  | zero =>
    intro σ a1 a2 a3 a4 a5 r hf
    rw [f_X2_flatBelow_L7] at hf
    cases hf
  | succ n ih =>
    intro σ a1 a2 a3 a4 a5 r hf H locs ls hP hS hl
    obtain ⟨hx, hb, hml, hown, hts, hr, hlk, hK⟩ := id X
    rw [f_X2_flatBelow_L7] at hf
    refine lv_iload hx hb dX2_flatBelow_7 (lv_at hl 5 rfl) ?_
    refine lv_aload_n hx hb dX2_flatBelow_9 rfl (lv_at hl 0 rfl) ?_
    obtain ⟨x1, e_x1, hf⟩ := lf_some hf
    refine fg_X2_27 X hP e_x1 dX2_flatBelow_10 ?_
    refine lv_icmp_ge (tgt := 103) hx hb dX2_flatBelow_13 (by decide) (fun hq => ?_) (fun hq => ?_)
    · have hf := if_t hq hf
      refine lv_iload hx hb dX2_flatBelow_103 (lv_at hl 4 rfl) ?_
      exact rI X hP hS hf dX2_flatBelow_105
    · have hf := if_f hq hf
      refine lv_aload_n hx hb dX2_flatBelow_16 rfl (lv_at hl 0 rfl) ?_
      refine fg_X2_15 X hP dX2_flatBelow_17 ?_
      refine lv_iload hx hb dX2_flatBelow_20 (lv_at hl 5 rfl) ?_
      obtain ⟨hi, x2, e_x2, hf⟩ := ld_some hf
      refine ldr (t0 := 0) X hP wC_17 rfl hi e_x2 dX2_flatBelow_22 ?_
      refine lv_iconst (v := 1) hx hb dX2_flatBelow_23 rfl ?_
      refine lv_icmp_ne (tgt := 53) hx hb dX2_flatBelow_24 (by decide) (fun hq => ?_) (fun hq => ?_)
      · have hf := if_f hq hf
        exact b_X2_flatBelow_B53 X hN (fun hf hP hS hl => ih hf hP hS hl) hf hP hS (lv_sub hl [0, 1, 2, 3, 4, 5] rfl)
      · have hf := if_t hq hf
        refine lv_aload_n hx hb dX2_flatBelow_27 rfl (lv_at hl 0 rfl) ?_
        refine fg_X2_21 X hP dX2_flatBelow_28 ?_
        refine lv_iload hx hb dX2_flatBelow_31 (lv_at hl 5 rfl) ?_
        obtain ⟨hi, x3, e_x3, hf⟩ := ld_some hf
        refine ldr (t0 := 0) X hP wC_19 rfl hi e_x3 dX2_flatBelow_33 ?_
        refine lv_iload_n hx hb dX2_flatBelow_34 rfl (lv_at hl 2 rfl) ?_
        refine lv_icmp_gt (tgt := 53) hx hb dX2_flatBelow_35 (by decide) (fun hq => ?_) (fun hq => ?_)
        · have hf := if_t hq hf
          exact b_X2_flatBelow_B53 X hN (fun hf hP hS hl => ih hf hP hS hl) hf hP hS (lv_sub hl [0, 1, 2, 3, 4, 5] rfl)
        · have hf := if_f hq hf
          refine lv_aload_n hx hb dX2_flatBelow_38 rfl (lv_at hl 0 rfl) ?_
          refine fg_X2_24 X hP dX2_flatBelow_39 ?_
          refine lv_iload hx hb dX2_flatBelow_42 (lv_at hl 5 rfl) ?_
          obtain ⟨hi, x4, e_x4, hf⟩ := ld_some hf
          refine ldr (t0 := 0) X hP wC_20 rfl hi e_x4 dX2_flatBelow_44 ?_
          refine lv_iload_n hx hb dX2_flatBelow_45 rfl (lv_at hl 2 rfl) ?_
          refine lv_icmp_lt (tgt := 53) hx hb dX2_flatBelow_46 (by decide) (fun hq => ?_) (fun hq => ?_)
          · have hf := if_t hq hf
            exact b_X2_flatBelow_B53 X hN (fun hf hP hS hl => ih hf hP hS hl) hf hP hS (lv_sub hl [0, 1, 2, 3, 4, 5] rfl)
          · have hf := if_f hq hf
            refine lv_iconst (v := 1) hx hb dX2_flatBelow_49 rfl ?_
            refine lv_goto (tgt := 54) hx hb dX2_flatBelow_50 (by decide) ?_
            exact b_X2_flatBelow_B54 X hN (fun hf hP hS hl => ih hf hP hS hl) hf hP hS (lv_sub hl [0, 1, 2, 3, 4, 5] rfl)
set_option maxHeartbeats 4000000 in
set_option maxRecDepth 100000 in
theorem b_X2_flatBelow (X : cx p s m meth c args cX2_flatBelow 7 (some .int) RX2 D [(cI, .int)]) (hN : nj ad 34) {σ : St} {a1 a2 a3 : Int32} {r : Int32} (hf : f_X2_flatBelow a1 a2 a3 σ = some r) {H : Heap} {locs : List Loc} {ls : Array Slot} (hP : va_P D vwCl (wC ad cI σ) H) (hS : va_S (aw ad 34) s.heap H locs) (hl : lv_has ls 7 [(0, .ref (ad 3)), (1, .int a1), (2, .int a2), (3, .int a3)]) : W p l e rm_X2_flatBelow s m args below meth c H locs 0 0 (MQ below (qI D (wC ad cI) (aw ad 34) r σ) args s 0 0 (aw ad 34)) (F0 m 0 ls []) := by
  obtain ⟨hx, hb, hml, hown, hts, hr, hlk, hK⟩ := id X
  rw [f_X2_flatBelow] at hf
  refine lv_bipush (v := 30) hx hb dX2_flatBelow_0 rfl ?_
  refine lv_istore (lv' := [(4, .int 30), (0, .ref (ad 3)), (1, .int a1), (2, .int a2), (3, .int a3)]) hx hb dX2_flatBelow_2 hl (by decide) rfl (fun ls hl => ?_)
  refine lv_iconst (v := 0) hx hb dX2_flatBelow_4 rfl ?_
  refine lv_istore (lv' := [(5, .int 0), (4, .int 30), (0, .ref (ad 3)), (1, .int a1), (2, .int a2), (3, .int a3)]) hx hb dX2_flatBelow_5 hl (by decide) rfl (fun ls hl => ?_)
  exact b_X2_flatBelow_L7 X hN _ hf hP hS (lv_sub hl [2, 3, 4, 5, 1, 0] rfl)
set_option maxHeartbeats 4000000 in
set_option maxRecDepth 100000 in
theorem c_X2_flatBelow {l : Launch} {D : va_G} {ad : Nat → Nat} {cI : ClassId} (hN : nj ad 34) {σ : St} {a1 a2 a3 : Int32} {r : Int32} (hf : f_X2_flatBelow a1 a2 a3 σ = some r) : Met l yX2_flatBelow (.code yX2_flatBelow cX2_flatBelow 7 (some .int) :: wsL_law) rm_X2_flatBelow (va_Pc [.ref (ad 3), .int a1, .int a2, .int a3] (pw D (wC ad cI) [(cI, .int)] σ)) (qI D (wC ad cI) (aw ad 34) r σ) 0 0 (aw ad 34) :=
  met_mk (by decide) rfl (Nat.le_of_ble_eq_true rfl) (fun p e s m below meth c X hP ls hl => b_X2_flatBelow X hN hf hP va_S.rf hl)
set_option maxHeartbeats 4000000 in
set_option maxRecDepth 100000 in
theorem b_X3_put (X : cx p s m meth c args cX3_put 5 none RX3 D [(cI, .int)]) (hN : nj ad 34) {σ : St} {a1 a2 a3 a4 : Int32} {σ' : St} (hf : f_X3_put a1 a2 a3 a4 σ = some σ') {H : Heap} {locs : List Loc} {ls : Array Slot} (hP : va_P D vwCl (wC ad cI σ) H) (hS : va_S (aw ad 34) s.heap H locs) (hl : lv_has ls 5 [(0, .ref (ad 2)), (1, .int a1), (2, .int a2), (3, .int a3), (4, .int a4)]) : W p l e rm_X3_put s m args below meth c H locs 0 0 (MQ below (qV D (wC ad cI) (aw ad 34) σ') args s 0 0 (aw ad 34)) (F0 m 0 ls []) := by
  obtain ⟨hx, hb, hml, hown, hts, hr, hlk, hK⟩ := id X
  rw [f_X3_put] at hf
  refine lv_aload_n hx hb dX3_put_0 rfl (lv_at hl 0 rfl) ?_
  refine fg_X3_9 X hP dX3_put_1 ?_
  refine lv_iconst (v := 2) hx hb dX3_put_4 rfl ?_
  refine lv_iload_n hx hb dX3_put_5 rfl (lv_at hl 1 rfl) ?_
  refine lv_imul hx hb dX3_put_6 ?_
  refine lv_iload_n hx hb dX3_put_7 rfl (lv_at hl 2 rfl) ?_
  refine lv_iadd hx hb dX3_put_8 ?_
  refine lv_iload_n hx hb dX3_put_9 rfl (lv_at hl 3 rfl) ?_
  obtain ⟨hi, σ1, e_σ1, hf⟩ := sd_some hf
  refine str (t0 := 0) X hP (wC_D hN) hS wC_14 wC_s14 rfl hi e_σ1 dX3_put_10 (fun H locs hP hS => ?_)
  refine lv_aload_n hx hb dX3_put_11 rfl (lv_at hl 0 rfl) ?_
  refine fg_X3_15 X hP dX3_put_12 ?_
  refine lv_iconst (v := 2) hx hb dX3_put_15 rfl ?_
  refine lv_iload_n hx hb dX3_put_16 rfl (lv_at hl 1 rfl) ?_
  refine lv_imul hx hb dX3_put_17 ?_
  refine lv_iload_n hx hb dX3_put_18 rfl (lv_at hl 2 rfl) ?_
  refine lv_iadd hx hb dX3_put_19 ?_
  refine lv_iload hx hb dX3_put_20 (lv_at hl 4 rfl) ?_
  obtain ⟨hi, σ2, e_σ2, hf⟩ := sd_some hf
  refine str (t0 := 0) X hP (wC_D hN) hS wC_15 wC_s15 rfl hi e_σ2 dX3_put_22 (fun H locs hP hS => ?_)
  exact rVe X hP hS hf dX3_put_23
set_option maxHeartbeats 4000000 in
set_option maxRecDepth 100000 in
theorem c_X3_put {l : Launch} {D : va_G} {ad : Nat → Nat} {cI : ClassId} (hN : nj ad 34) {σ : St} {a1 a2 a3 a4 : Int32} {σ' : St} (hf : f_X3_put a1 a2 a3 a4 σ = some σ') : Met l yX3_put (.code yX3_put cX3_put 5 none :: wsL_law) rm_X3_put (va_Pc [.ref (ad 2), .int a1, .int a2, .int a3, .int a4] (pw D (wC ad cI) [(cI, .int)] σ)) (qV D (wC ad cI) (aw ad 34) σ') 0 0 (aw ad 34) :=
  met_mk (by decide) rfl (Nat.le_of_ble_eq_true rfl) (fun p e s m below meth c X hP ls hl => b_X3_put X hN hf hP va_S.rf hl)
set_option maxHeartbeats 4000000 in
set_option maxRecDepth 100000 in
theorem b_X3_forget (X : cx p s m meth c args cX3_forget 3 none RX3 D [(cI, .int)]) (hN : nj ad 34) {σ : St} {a1 a2 : Int32} {σ' : St} (hf : f_X3_forget a1 a2 σ = some σ') {H : Heap} {locs : List Loc} {ls : Array Slot} (hP : va_P D vwCl (wC ad cI σ) H) (hS : va_S (aw ad 34) s.heap H locs) (hl : lv_has ls 3 [(0, .ref (ad 2)), (1, .int a1), (2, .int a2)]) : W p l e rm_X3_forget s m args below meth c H locs 0 0 (MQ below (qV D (wC ad cI) (aw ad 34) σ') args s 0 0 (aw ad 34)) (F0 m 0 ls []) := by
  obtain ⟨hx, hb, hml, hown, hts, hr, hlk, hK⟩ := id X
  rw [f_X3_forget] at hf
  refine lv_aload_n hx hb dX3_forget_0 rfl (lv_at hl 0 rfl) ?_
  refine lv_iload_n hx hb dX3_forget_1 rfl (lv_at hl 1 rfl) ?_
  refine lv_iload_n hx hb dX3_forget_2 rfl (lv_at hl 2 rfl) ?_
  refine lv_bipush (v := (-9)) hx hb dX3_forget_3 rfl ?_
  refine lv_bipush (v := (-9)) hx hb dX3_forget_5 rfl ?_
  obtain ⟨σ1, hc, hf⟩ := bs_some hf
  refine kVv (As := [.int a1, .int a2, .int (-9), .int (-9)]) (rest := []) (wd := (wC ad cI)) (q0 := 2) (ci := 3) X (c_X3_put (l := l) (D := D) (σ := σ) hN hc) (cw_X3_22 X.2.2.2.2.1 ⟨Nat.le_of_ble_eq_true rfl, Nat.le_of_ble_eq_true rfl⟩) rfl rfl hP hS hl rfl rfl (Nat.le_of_ble_eq_true rfl) dX3_forget_7 (fun H locs hP hS => ?_)
  exact rVe X hP hS hf dX3_forget_10
set_option maxHeartbeats 4000000 in
set_option maxRecDepth 100000 in
theorem c_X3_forget {l : Launch} {D : va_G} {ad : Nat → Nat} {cI : ClassId} (hN : nj ad 34) {σ : St} {a1 a2 : Int32} {σ' : St} (hf : f_X3_forget a1 a2 σ = some σ') : Met l yX3_forget (.code yX3_forget cX3_forget 3 none :: wsL_law) rm_X3_forget (va_Pc [.ref (ad 2), .int a1, .int a2] (pw D (wC ad cI) [(cI, .int)] σ)) (qV D (wC ad cI) (aw ad 34) σ') 0 0 (aw ad 34) :=
  met_mk (by decide) rfl (Nat.le_of_ble_eq_true rfl) (fun p e s m below meth c X hP ls hl => b_X3_forget X hN hf hP va_S.rf hl)
set_option maxHeartbeats 4000000 in
set_option maxRecDepth 100000 in
theorem b_X3_forgetAllOf (X : cx p s m meth c args cX3_forgetAllOf 2 none RX3 D [(cI, .int)]) (hN : nj ad 34) {σ : St} {a1 : Int32} {σ' : St} (hf : f_X3_forgetAllOf a1 σ = some σ') {H : Heap} {locs : List Loc} {ls : Array Slot} (hP : va_P D vwCl (wC ad cI σ) H) (hS : va_S (aw ad 34) s.heap H locs) (hl : lv_has ls 2 [(0, .ref (ad 2)), (1, .int a1)]) : W p l e rm_X3_forgetAllOf s m args below meth c H locs 0 0 (MQ below (qV D (wC ad cI) (aw ad 34) σ') args s 0 0 (aw ad 34)) (F0 m 0 ls []) := by
  obtain ⟨hx, hb, hml, hown, hts, hr, hlk, hK⟩ := id X
  rw [f_X3_forgetAllOf] at hf
  refine lv_aload_n hx hb dX3_forgetAllOf_0 rfl (lv_at hl 0 rfl) ?_
  refine lv_iload_n hx hb dX3_forgetAllOf_1 rfl (lv_at hl 1 rfl) ?_
  refine lv_iconst (v := 0) hx hb dX3_forgetAllOf_2 rfl ?_
  obtain ⟨σ1, hc, hf⟩ := bs_some hf
  refine kVv (As := [.int a1, .int 0]) (rest := []) (wd := (wC ad cI)) (q0 := 2) (ci := 3) X (c_X3_forget (l := l) (D := D) (σ := σ) hN hc) (cw_X3_26 X.2.2.2.2.1 ⟨Nat.le_of_ble_eq_true rfl, Nat.le_of_ble_eq_true rfl⟩) rfl rfl hP hS hl rfl rfl (Nat.le_of_ble_eq_true rfl) dX3_forgetAllOf_3 (fun H locs hP hS => ?_)
  refine lv_aload_n hx hb dX3_forgetAllOf_6 rfl (lv_at hl 0 rfl) ?_
  refine lv_iload_n hx hb dX3_forgetAllOf_7 rfl (lv_at hl 1 rfl) ?_
  refine lv_iconst (v := 1) hx hb dX3_forgetAllOf_8 rfl ?_
  obtain ⟨σ2, hc, hf⟩ := bs_some hf
  refine kVv (As := [.int a1, .int 1]) (rest := []) (wd := (wC ad cI)) (q0 := 2) (ci := 3) X (c_X3_forget (l := l) (D := D) (σ := σ1) hN hc) (cw_X3_26 X.2.2.2.2.1 ⟨Nat.le_of_ble_eq_true rfl, Nat.le_of_ble_eq_true rfl⟩) rfl rfl hP hS hl rfl rfl (Nat.le_of_ble_eq_true rfl) dX3_forgetAllOf_9 (fun H locs hP hS => ?_)
  exact rVe X hP hS hf dX3_forgetAllOf_12
set_option maxHeartbeats 4000000 in
set_option maxRecDepth 100000 in
theorem c_X3_forgetAllOf {l : Launch} {D : va_G} {ad : Nat → Nat} {cI : ClassId} (hN : nj ad 34) {σ : St} {a1 : Int32} {σ' : St} (hf : f_X3_forgetAllOf a1 σ = some σ') : Met l yX3_forgetAllOf (.code yX3_forgetAllOf cX3_forgetAllOf 2 none :: wsL_law) rm_X3_forgetAllOf (va_Pc [.ref (ad 2), .int a1] (pw D (wC ad cI) [(cI, .int)] σ)) (qV D (wC ad cI) (aw ad 34) σ') 0 0 (aw ad 34) :=
  met_mk (by decide) rfl (Nat.le_of_ble_eq_true rfl) (fun p e s m below meth c X hP ls hl => b_X3_forgetAllOf X hN hf hP va_S.rf hl)
set_option maxHeartbeats 4000000 in
set_option maxRecDepth 100000 in
theorem b_X4_lastColumn_L24 (X : cx p s m meth c args cX4_lastColumn 4 (some .int) RX4 D [(cI, .int)]) (hN : nj ad 34) : ∀ (n : Nat) {σ : St} {a1 a2 a3 : Int32} {r : Int32}, f_X4_lastColumn_L24 σ n a1 a2 a3 = some r → ∀ {H : Heap} {locs : List Loc} {ls : Array Slot}, va_P D vwCl (wC ad cI σ) H → va_S (aw ad 34) s.heap H locs → lv_has ls 4 [(0, .ref (ad 4)), (1, .int a1), (2, .int a2), (3, .int a3)] → W p l e rm_X4_lastColumn s m args below meth c H locs 0 0 (MQ below (qI D (wC ad cI) (aw ad 34) r σ) args s 0 0 (aw ad 34)) (F0 m 24 ls []) := by
  intro n
  induction n with
  | zero =>
    intro σ a1 a2 a3 r hf
    rw [f_X4_lastColumn_L24] at hf
    cases hf
  | succ n ih =>
    intro σ a1 a2 a3 r hf H locs ls hP hS hl
    obtain ⟨hx, hb, hml, hown, hts, hr, hlk, hK⟩ := id X
    rw [f_X4_lastColumn_L24] at hf
    refine lv_iload_n hx hb dX4_lastColumn_24 rfl (lv_at hl 3 rfl) ?_
    refine lv_aload_n hx hb dX4_lastColumn_25 rfl (lv_at hl 0 rfl) ?_
    refine fg_X4_9 X hP dX4_lastColumn_26 ?_
    refine fg_X4_28 X hP dX4_lastColumn_29 ?_
    refine lv_iload_n hx hb dX4_lastColumn_32 rfl (lv_at hl 1 rfl) ?_
    obtain ⟨hi, x1, e_x1, hf⟩ := ld_some hf
    refine ldr (t0 := 0) X hP wC_10 rfl hi e_x1 dX4_lastColumn_33 ?_
    refine lv_icmp_gt (tgt := 69) hx hb dX4_lastColumn_34 (by decide) (fun hq => ?_) (fun hq => ?_)
    · have hf := if_t hq hf
      refine lv_aload_n hx hb dX4_lastColumn_69 rfl (lv_at hl 0 rfl) ?_
      refine fg_X4_9 X hP dX4_lastColumn_70 ?_
      refine fg_X4_28 X hP dX4_lastColumn_73 ?_
      refine lv_iload_n hx hb dX4_lastColumn_76 rfl (lv_at hl 1 rfl) ?_
      obtain ⟨hi, x2, e_x2, hf⟩ := ld_some hf
      refine ldr (t0 := 0) X hP wC_10 rfl hi e_x2 dX4_lastColumn_77 ?_
      exact rI X hP hS hf dX4_lastColumn_78
    · have hf := if_f hq hf
      refine lv_aload_n hx hb dX4_lastColumn_37 rfl (lv_at hl 0 rfl) ?_
      refine fg_X4_15 X hP dX4_lastColumn_38 ?_
      refine lv_aload_n hx hb dX4_lastColumn_41 rfl (lv_at hl 0 rfl) ?_
      refine fg_X4_9 X hP dX4_lastColumn_42 ?_
      refine fg_X4_31 X hP dX4_lastColumn_45 ?_
      refine lv_iload_n hx hb dX4_lastColumn_48 rfl (lv_at hl 1 rfl) ?_
      obtain ⟨hi, x3, e_x3, hf⟩ := ld_some hf
      refine ldr (t0 := 0) X hP wC_7 rfl hi e_x3 dX4_lastColumn_49 ?_
      refine lv_iload_n hx hb dX4_lastColumn_50 rfl (lv_at hl 3 rfl) ?_
      refine lv_iload_n hx hb dX4_lastColumn_51 rfl (lv_at hl 2 rfl) ?_
      refine lv_iload_n hx hb dX4_lastColumn_52 rfl (lv_at hl 2 rfl) ?_
      obtain ⟨x4, hc, hf⟩ := bi_some hf
      refine kVi (As := [.int x3, .int a3, .int a2, .int a2]) (rest := []) (wd := (wC ad cI)) (q0 := 3) (ci := 2) X (c_X2_hasUpright (l := l) (D := D) (σ := σ) hN hc) (cw_X4_34 X.2.2.2.2.1 ⟨Nat.le_of_ble_eq_true rfl, Nat.le_of_ble_eq_true rfl⟩) rfl rfl hP hS hl rfl rfl (Nat.le_of_ble_eq_true rfl) dX4_lastColumn_53 (fun H locs hP hS => ?_)
      refine lv_if_eq (tgt := 63) hx hb dX4_lastColumn_56 (by decide) (fun hq => ?_) (fun hq => ?_)
      · have hf := if_t hq hf
        refine lv_iinc (v := (a3 + 1)) (lv' := [(3, .int (a3 + 1)), (0, .ref (ad 4)), (1, .int a1), (2, .int a2)]) hx hb dX4_lastColumn_63 hl (k := 3) rfl rfl (by decide) rfl (fun ls hl => ?_)
        refine lv_goto (tgt := 24) hx hb dX4_lastColumn_66 (by decide) ?_
        exact ih hf hP hS (lv_sub hl [1, 2, 3, 0] rfl)
      · have hf := if_f hq hf
        refine lv_iload_n hx hb dX4_lastColumn_59 rfl (lv_at hl 3 rfl) ?_
        refine lv_iconst (v := 1) hx hb dX4_lastColumn_60 rfl ?_
        refine lv_isub hx hb dX4_lastColumn_61 ?_
        exact rI X hP hS hf dX4_lastColumn_62
set_option maxHeartbeats 4000000 in
set_option maxRecDepth 100000 in
theorem b_X4_lastColumn (X : cx p s m meth c args cX4_lastColumn 4 (some .int) RX4 D [(cI, .int)]) (hN : nj ad 34) {σ : St} {a1 : Int32} {r : Int32} (hf : f_X4_lastColumn a1 σ = some r) {H : Heap} {locs : List Loc} {ls : Array Slot} (hP : va_P D vwCl (wC ad cI σ) H) (hS : va_S (aw ad 34) s.heap H locs) (hl : lv_has ls 4 [(0, .ref (ad 4)), (1, .int a1)]) : W p l e rm_X4_lastColumn s m args below meth c H locs 0 0 (MQ below (qI D (wC ad cI) (aw ad 34) r σ) args s 0 0 (aw ad 34)) (F0 m 0 ls []) := by
  obtain ⟨hx, hb, hml, hown, hts, hr, hlk, hK⟩ := id X
  rw [f_X4_lastColumn] at hf
  refine lv_aload_n hx hb dX4_lastColumn_0 rfl (lv_at hl 0 rfl) ?_
  refine fg_X4_9 X hP dX4_lastColumn_1 ?_
  refine fg_X4_19 X hP dX4_lastColumn_4 ?_
  refine lv_iload_n hx hb dX4_lastColumn_7 rfl (lv_at hl 1 rfl) ?_
  obtain ⟨hi, x1, e_x1, hf⟩ := ld_some hf
  refine ldr (t0 := 0) X hP wC_12 rfl hi e_x1 dX4_lastColumn_8 ?_
  refine lv_iconst (v := 1) hx hb dX4_lastColumn_9 rfl ?_
  refine lv_iadd hx hb dX4_lastColumn_10 ?_
  refine lv_istore_n (lv' := [(2, .int (x1 + 1)), (0, .ref (ad 4)), (1, .int a1)]) hx hb dX4_lastColumn_11 rfl hl (by decide) rfl (fun ls hl => ?_)
  refine lv_aload_n hx hb dX4_lastColumn_12 rfl (lv_at hl 1 rfl) ?_
  refine fg_X4_9 X hP dX4_lastColumn_13 ?_
  refine fg_X4_25 X hP dX4_lastColumn_16 ?_
  refine lv_iload_n hx hb dX4_lastColumn_19 rfl (lv_at hl 2 rfl) ?_
  obtain ⟨hi, x2, e_x2, hf⟩ := ld_some hf
  refine ldr (t0 := 0) X hP wC_9 rfl hi e_x2 dX4_lastColumn_20 ?_
  refine lv_iconst (v := 1) hx hb dX4_lastColumn_21 rfl ?_
  refine lv_iadd hx hb dX4_lastColumn_22 ?_
  refine lv_istore_n (lv' := [(3, .int (x2 + 1)), (2, .int (x1 + 1)), (0, .ref (ad 4)), (1, .int a1)]) hx hb dX4_lastColumn_23 rfl hl (by decide) rfl (fun ls hl => ?_)
  exact b_X4_lastColumn_L24 X hN _ hf hP hS (lv_sub hl [2, 3, 1, 0] rfl)
set_option maxHeartbeats 4000000 in
set_option maxRecDepth 100000 in
theorem c_X4_lastColumn {l : Launch} {D : va_G} {ad : Nat → Nat} {cI : ClassId} (hN : nj ad 34) {σ : St} {a1 : Int32} {r : Int32} (hf : f_X4_lastColumn a1 σ = some r) : Met l yX4_lastColumn (.code yX4_lastColumn cX4_lastColumn 4 (some .int) :: wsL_law) rm_X4_lastColumn (va_Pc [.ref (ad 4), .int a1] (pw D (wC ad cI) [(cI, .int)] σ)) (qI D (wC ad cI) (aw ad 34) r σ) 0 0 (aw ad 34) :=
  met_mk (by decide) rfl (Nat.le_of_ble_eq_true rfl) (fun p e s m below meth c X hP ls hl => b_X4_lastColumn X hN hf hP va_S.rf hl)
set_option maxHeartbeats 4000000 in
set_option maxRecDepth 100000 in
theorem b_X4_lastRow (X : cx p s m meth c args cX4_lastRow 6 (some .int) RX4 D [(cI, .int)]) (hN : nj ad 34) {σ : St} {a1 a2 : Int32} {r : Int32} (hf : f_X4_lastRow a1 a2 σ = some r) {H : Heap} {locs : List Loc} {ls : Array Slot} (hP : va_P D vwCl (wC ad cI σ) H) (hS : va_S (aw ad 34) s.heap H locs) (hl : lv_has ls 6 [(0, .ref (ad 4)), (1, .int a1), (2, .int a2)]) : W p l e rm_X4_lastRow s m args below meth c H locs 0 0 (MQ below (qI D (wC ad cI) (aw ad 34) r σ) args s 0 0 (aw ad 34)) (F0 m 0 ls []) := by
  obtain ⟨hx, hb, hml, hown, hts, hr, hlk, hK⟩ := id X
  rw [f_X4_lastRow] at hf
  refine lv_iload_n hx hb dX4_lastRow_0 rfl (lv_at hl 2 rfl) ?_
  refine lv_aload_n hx hb dX4_lastRow_1 rfl (lv_at hl 0 rfl) ?_
  refine fg_X4_9 X hP dX4_lastRow_2 ?_
  refine fg_X4_25 X hP dX4_lastRow_5 ?_
  refine lv_iload_n hx hb dX4_lastRow_8 rfl (lv_at hl 1 rfl) ?_
  obtain ⟨hi, x1, e_x1, hf⟩ := ld_some hf
  refine ldr (t0 := 0) X hP wC_9 rfl hi e_x1 dX4_lastRow_9 ?_
  refine lv_icmp_lt (tgt := 22) hx hb dX4_lastRow_10 (by decide) (fun hq => ?_) (fun hq => ?_)
  · have hf := if_t hq hf
    refine lv_bipush (v := (-9)) hx hb dX4_lastRow_22 rfl ?_
    exact rI X hP hS hf dX4_lastRow_24
  · have hf := if_f hq hf
    refine lv_iload_n hx hb dX4_lastRow_13 rfl (lv_at hl 2 rfl) ?_
    refine lv_aload_n hx hb dX4_lastRow_14 rfl (lv_at hl 0 rfl) ?_
    refine lv_iload_n hx hb dX4_lastRow_15 rfl (lv_at hl 1 rfl) ?_
    obtain ⟨x2, hc, hf⟩ := bi_some hf
    refine kVi (As := [.int a1]) (rest := [.int a2]) (wd := (wC ad cI)) (q0 := 4) (ci := 4) X (c_X4_lastColumn (l := l) (D := D) (σ := σ) hN hc) (cw_X4_40 X.2.2.2.2.1 ⟨Nat.le_of_ble_eq_true rfl, Nat.le_of_ble_eq_true rfl⟩) rfl rfl hP hS hl rfl rfl (Nat.le_of_ble_eq_true rfl) dX4_lastRow_16 (fun H locs hP hS => ?_)
    refine lv_icmp_le (tgt := 25) hx hb dX4_lastRow_19 (by decide) (fun hq => ?_) (fun hq => ?_)
    · have hf := if_t hq hf
      refine lv_aload_n hx hb dX4_lastRow_25 rfl (lv_at hl 0 rfl) ?_
      refine fg_X4_9 X hP dX4_lastRow_26 ?_
      refine fg_X4_31 X hP dX4_lastRow_29 ?_
      refine lv_iload_n hx hb dX4_lastRow_32 rfl (lv_at hl 1 rfl) ?_
      obtain ⟨hi, x3, e_x3, hf⟩ := ld_some hf
      refine ldr (t0 := 0) X hP wC_7 rfl hi e_x3 dX4_lastRow_33 ?_
      refine lv_istore_n (lv' := [(3, .int x3), (0, .ref (ad 4)), (1, .int a1), (2, .int a2)]) hx hb dX4_lastRow_34 rfl hl (by decide) rfl (fun ls hl => ?_)
      refine lv_aload_n hx hb dX4_lastRow_35 rfl (lv_at hl 1 rfl) ?_
      refine fg_X4_9 X hP dX4_lastRow_36 ?_
      refine fg_X4_19 X hP dX4_lastRow_39 ?_
      refine lv_iload_n hx hb dX4_lastRow_42 rfl (lv_at hl 2 rfl) ?_
      obtain ⟨hi, x4, e_x4, hf⟩ := ld_some hf
      refine ldr (t0 := 0) X hP wC_12 rfl hi e_x4 dX4_lastRow_43 ?_
      refine lv_istore (lv' := [(4, .int x4), (3, .int x3), (0, .ref (ad 4)), (1, .int a1), (2, .int a2)]) hx hb dX4_lastRow_44 hl (by decide) rfl (fun ls hl => ?_)
      refine lv_aload_n hx hb dX4_lastRow_46 rfl (lv_at hl 2 rfl) ?_
      refine fg_X4_9 X hP dX4_lastRow_47 ?_
      refine lv_iload_n hx hb dX4_lastRow_50 rfl (lv_at hl 1 rfl) ?_
      refine lv_iload_n hx hb dX4_lastRow_51 rfl (lv_at hl 4 rfl) ?_
      refine lv_iload hx hb dX4_lastRow_52 (lv_at hl 0 rfl) ?_
      obtain ⟨x5, hc, hf⟩ := bi_some hf
      refine kVi (As := [.int x3, .int a2, .int x4]) (rest := []) (wd := (wC ad cI)) (q0 := 1) (ci := 1) X (c_X1_headBelow (l := l) (D := D) (σ := σ) hN hc) (cw_X4_44 X.2.2.2.2.1 ⟨Nat.le_of_ble_eq_true rfl, Nat.le_of_ble_eq_true rfl⟩) rfl rfl hP hS hl rfl rfl (Nat.le_of_ble_eq_true rfl) dX4_lastRow_54 (fun H locs hP hS => ?_)
      refine lv_aload_n hx hb dX4_lastRow_57 rfl (lv_at hl 2 rfl) ?_
      refine fg_X4_15 X hP dX4_lastRow_58 ?_
      refine lv_iload_n hx hb dX4_lastRow_61 rfl (lv_at hl 1 rfl) ?_
      refine lv_iload_n hx hb dX4_lastRow_62 rfl (lv_at hl 4 rfl) ?_
      refine lv_iload hx hb dX4_lastRow_63 (lv_at hl 0 rfl) ?_
      obtain ⟨x6, hc, hf⟩ := bi_some hf
      refine kVi (As := [.int x3, .int a2, .int x4]) (rest := [.int x5]) (wd := (wC ad cI)) (q0 := 3) (ci := 2) X (c_X2_flatBelow (l := l) (D := D) (σ := σ) hN hc) (cw_X4_48 X.2.2.2.2.1 ⟨Nat.le_of_ble_eq_true rfl, Nat.le_of_ble_eq_true rfl⟩) rfl rfl hP hS hl rfl rfl (Nat.le_of_ble_eq_true rfl) dX4_lastRow_65 (fun H locs hP hS => ?_)
      refine mm_X4_51 X hl (Nat.le_of_ble_eq_true rfl) (Nat.le_of_ble_eq_true rfl) dX4_lastRow_68 ?_
      refine lv_istore (lv' := [(5, .int (jmin x5 x6)), (4, .int x4), (3, .int x3), (0, .ref (ad 4)), (1, .int a1), (2, .int a2)]) hx hb dX4_lastRow_71 hl (by decide) rfl (fun ls hl => ?_)
      refine lv_iload hx hb dX4_lastRow_73 (lv_at hl 0 rfl) ?_
      refine lv_iconst (v := 1) hx hb dX4_lastRow_75 rfl ?_
      refine lv_isub hx hb dX4_lastRow_76 ?_
      refine lv_iload hx hb dX4_lastRow_77 (lv_at hl 1 rfl) ?_
      refine lv_icmp_le (tgt := 89) hx hb dX4_lastRow_79 (by decide) (fun hq => ?_) (fun hq => ?_)
      · have hf := if_t hq hf
        refine lv_bipush (v := (-9)) hx hb dX4_lastRow_89 rfl ?_
        exact rI X hP hS hf dX4_lastRow_91
      · have hf := if_f hq hf
        refine lv_iload hx hb dX4_lastRow_82 (lv_at hl 0 rfl) ?_
        refine lv_iconst (v := 1) hx hb dX4_lastRow_84 rfl ?_
        refine lv_isub hx hb dX4_lastRow_85 ?_
        refine lv_goto (tgt := 91) hx hb dX4_lastRow_86 (by decide) ?_
        exact rI X hP hS hf dX4_lastRow_91
    · have hf := if_f hq hf
      refine lv_bipush (v := (-9)) hx hb dX4_lastRow_22 rfl ?_
      exact rI X hP hS hf dX4_lastRow_24
set_option maxHeartbeats 4000000 in
set_option maxRecDepth 100000 in
theorem c_X4_lastRow {l : Launch} {D : va_G} {ad : Nat → Nat} {cI : ClassId} (hN : nj ad 34) {σ : St} {a1 a2 : Int32} {r : Int32} (hf : f_X4_lastRow a1 a2 σ = some r) : Met l yX4_lastRow (.code yX4_lastRow cX4_lastRow 6 (some .int) :: wsL_law) rm_X4_lastRow (va_Pc [.ref (ad 4), .int a1, .int a2] (pw D (wC ad cI) [(cI, .int)] σ)) (qI D (wC ad cI) (aw ad 34) r σ) 0 0 (aw ad 34) :=
  met_mk (by decide) rfl (Nat.le_of_ble_eq_true rfl) (fun p e s m below meth c X hP ls hl => b_X4_lastRow X hN hf hP va_S.rf hl)
set_option maxHeartbeats 4000000 in
set_option maxRecDepth 100000 in
theorem b_X4_headOver_B60 (X : cx p s m meth c args cX4_headOver 4 (some .int) RX4 D [(cI, .int)]) (hN : nj ad 34) {σ : St} {a1 a2 t0 : Int32} {r : Int32} {K : Int32 → Int32 → Option Int32} (hk : ∀ {b1 b2 : Int32} {H : Heap} {locs : List Loc} {ls : Array Slot}, K b1 b2 = some r → va_P D vwCl (wC ad cI σ) H → va_S (aw ad 34) s.heap H locs → lv_has ls 4 [(0, .ref (ad 4)), (1, .int b1), (2, .int b2)] → W p l e rm_X4_headOver s m args below meth c H locs 0 0 (MQ below (qI D (wC ad cI) (aw ad 34) r σ) args s 0 0 (aw ad 34)) (F0 m 2 ls [])) (hf : f_X4_headOver_B60 σ K a1 a2 t0 = some r) {H : Heap} {locs : List Loc} {ls : Array Slot} (hP : va_P D vwCl (wC ad cI σ) H) (hS : va_S (aw ad 34) s.heap H locs) (hl : lv_has ls 4 [(0, .ref (ad 4)), (1, .int a1), (2, .int a2)]) : W p l e rm_X4_headOver s m args below meth c H locs 0 0 (MQ below (qI D (wC ad cI) (aw ad 34) r σ) args s 0 0 (aw ad 34)) (F0 m 60 ls [.int t0]) := by
  obtain ⟨hx, hb, hml, hown, hts, hr, hlk, hK⟩ := id X
  rw [f_X4_headOver_B60] at hf
  refine lv_istore_n (lv' := [(3, .int t0), (0, .ref (ad 4)), (1, .int a1), (2, .int a2)]) hx hb dX4_headOver_60 rfl hl (by decide) rfl (fun ls hl => ?_)
  refine lv_aload_n hx hb dX4_headOver_61 rfl (lv_at hl 1 rfl) ?_
  refine fg_X4_9 X hP dX4_headOver_62 ?_
  refine fg_X4_64 X hP dX4_headOver_65 ?_
  refine lv_iload_n hx hb dX4_headOver_68 rfl (lv_at hl 3 rfl) ?_
  obtain ⟨hi, x1, e_x1, hf⟩ := ld_some hf
  refine ldr (t0 := 0) X hP wC_8 rfl hi e_x1 dX4_headOver_69 ?_
  refine lv_if_ne (tgt := 105) hx hb dX4_headOver_70 (by decide) (fun hq => ?_) (fun hq => ?_)
  · have hf := if_f hq hf
    refine lv_iinc (v := (a2 + 1)) (lv' := [(2, .int (a2 + 1)), (3, .int t0), (0, .ref (ad 4)), (1, .int a1)]) hx hb dX4_headOver_105 hl (k := 3) rfl rfl (by decide) rfl (fun ls hl => ?_)
    refine lv_goto (tgt := 2) hx hb dX4_headOver_108 (by decide) ?_
    exact hk hf hP hS (lv_sub hl [2, 3, 0] rfl)
  · have hf := if_t hq hf
    refine lv_iload_n hx hb dX4_headOver_73 rfl (lv_at hl 0 rfl) ?_
    refine lv_if_eq (tgt := 105) hx hb dX4_headOver_74 (by decide) (fun hq => ?_) (fun hq => ?_)
    · have hf := if_t hq hf
      refine lv_iinc (v := (a2 + 1)) (lv' := [(2, .int (a2 + 1)), (3, .int t0), (0, .ref (ad 4)), (1, .int a1)]) hx hb dX4_headOver_105 hl (k := 3) rfl rfl (by decide) rfl (fun ls hl => ?_)
      refine lv_goto (tgt := 2) hx hb dX4_headOver_108 (by decide) ?_
      exact hk hf hP hS (lv_sub hl [2, 3, 0] rfl)
    · have hf := if_f hq hf
      refine lv_aload_n hx hb dX4_headOver_77 rfl (lv_at hl 1 rfl) ?_
      refine lv_iload_n hx hb dX4_headOver_78 rfl (lv_at hl 3 rfl) ?_
      refine lv_aload_n hx hb dX4_headOver_79 rfl (lv_at hl 1 rfl) ?_
      refine fg_X4_9 X hP dX4_headOver_80 ?_
      refine fg_X4_25 X hP dX4_headOver_83 ?_
      refine lv_iload_n hx hb dX4_headOver_86 rfl (lv_at hl 2 rfl) ?_
      obtain ⟨hi, x2, e_x2, hf⟩ := ld_some hf
      refine ldr (t0 := 0) X hP wC_9 rfl hi e_x2 dX4_headOver_87 ?_
      obtain ⟨x3, hc, hf⟩ := bi_some hf
      refine kVi (As := [.int a2, .int x2]) (rest := []) (wd := (wC ad cI)) (q0 := 4) (ci := 4) X (c_X4_lastRow (l := l) (D := D) (σ := σ) hN hc) (cw_X4_67 X.2.2.2.2.1 ⟨Nat.le_of_ble_eq_true rfl, Nat.le_of_ble_eq_true rfl⟩) rfl rfl hP hS hl rfl rfl (Nat.le_of_ble_eq_true rfl) dX4_headOver_88 (fun H locs hP hS => ?_)
      refine lv_aload_n hx hb dX4_headOver_91 rfl (lv_at hl 1 rfl) ?_
      refine fg_X4_9 X hP dX4_headOver_92 ?_
      refine fg_X4_61 X hP dX4_headOver_95 ?_
      refine lv_iload_n hx hb dX4_headOver_98 rfl (lv_at hl 2 rfl) ?_
      obtain ⟨hi, x4, e_x4, hf⟩ := ld_some hf
      refine ldr (t0 := 0) X hP wC_11 rfl hi e_x4 dX4_headOver_99 ?_
      refine lv_icmp_lt (tgt := 105) hx hb dX4_headOver_100 (by decide) (fun hq => ?_) (fun hq => ?_)
      · have hf := if_t hq hf
        refine lv_iinc (v := (a2 + 1)) (lv' := [(2, .int (a2 + 1)), (3, .int t0), (0, .ref (ad 4)), (1, .int a1)]) hx hb dX4_headOver_105 hl (k := 3) rfl rfl (by decide) rfl (fun ls hl => ?_)
        refine lv_goto (tgt := 2) hx hb dX4_headOver_108 (by decide) ?_
        exact hk hf hP hS (lv_sub hl [2, 3, 0] rfl)
      · have hf := if_f hq hf
        refine lv_iload_n hx hb dX4_headOver_103 rfl (lv_at hl 3 rfl) ?_
        exact rI X hP hS hf dX4_headOver_104
set_option maxHeartbeats 4000000 in
set_option maxRecDepth 100000 in
theorem b_X4_headOver_B59 (X : cx p s m meth c args cX4_headOver 4 (some .int) RX4 D [(cI, .int)]) (hN : nj ad 34) {σ : St} {a1 a2 : Int32} {r : Int32} {K : Int32 → Int32 → Option Int32} (hk : ∀ {b1 b2 : Int32} {H : Heap} {locs : List Loc} {ls : Array Slot}, K b1 b2 = some r → va_P D vwCl (wC ad cI σ) H → va_S (aw ad 34) s.heap H locs → lv_has ls 4 [(0, .ref (ad 4)), (1, .int b1), (2, .int b2)] → W p l e rm_X4_headOver s m args below meth c H locs 0 0 (MQ below (qI D (wC ad cI) (aw ad 34) r σ) args s 0 0 (aw ad 34)) (F0 m 2 ls [])) (hf : f_X4_headOver_B59 σ K a1 a2 = some r) {H : Heap} {locs : List Loc} {ls : Array Slot} (hP : va_P D vwCl (wC ad cI σ) H) (hS : va_S (aw ad 34) s.heap H locs) (hl : lv_has ls 4 [(0, .ref (ad 4)), (1, .int a1), (2, .int a2)]) : W p l e rm_X4_headOver s m args below meth c H locs 0 0 (MQ below (qI D (wC ad cI) (aw ad 34) r σ) args s 0 0 (aw ad 34)) (F0 m 59 ls []) := by
  obtain ⟨hx, hb, hml, hown, hts, hr, hlk, hK⟩ := id X
  rw [f_X4_headOver_B59] at hf
  refine lv_iconst (v := 0) hx hb dX4_headOver_59 rfl ?_
  exact b_X4_headOver_B60 X hN hk hf hP hS (lv_sub hl [0, 1, 2] rfl)
set_option maxHeartbeats 4000000 in
set_option maxRecDepth 100000 in
theorem b_X4_headOver_L2 (X : cx p s m meth c args cX4_headOver 4 (some .int) RX4 D [(cI, .int)]) (hN : nj ad 34) : ∀ (n : Nat) {σ : St} {a1 a2 : Int32} {r : Int32}, f_X4_headOver_L2 σ n a1 a2 = some r → ∀ {H : Heap} {locs : List Loc} {ls : Array Slot}, va_P D vwCl (wC ad cI σ) H → va_S (aw ad 34) s.heap H locs → lv_has ls 4 [(0, .ref (ad 4)), (1, .int a1), (2, .int a2)] → W p l e rm_X4_headOver s m args below meth c H locs 0 0 (MQ below (qI D (wC ad cI) (aw ad 34) r σ) args s 0 0 (aw ad 34)) (F0 m 2 ls []) := by
  intro n
  induction n with
  | zero =>
    intro σ a1 a2 r hf
    rw [f_X4_headOver_L2] at hf
    cases hf
  | succ n ih =>
    intro σ a1 a2 r hf H locs ls hP hS hl
    obtain ⟨hx, hb, hml, hown, hts, hr, hlk, hK⟩ := id X
    rw [f_X4_headOver_L2] at hf
    refine lv_iload_n hx hb dX4_headOver_2 rfl (lv_at hl 2 rfl) ?_
    refine lv_aload_n hx hb dX4_headOver_3 rfl (lv_at hl 0 rfl) ?_
    refine fg_X4_9 X hP dX4_headOver_4 ?_
    obtain ⟨x1, e_x1, hf⟩ := lf_some hf
    refine fg_X4_57 X hP e_x1 dX4_headOver_7 ?_
    refine lv_icmp_ge (tgt := 111) hx hb dX4_headOver_10 (by decide) (fun hq => ?_) (fun hq => ?_)
    · have hf := if_t hq hf
      refine lv_bipush (v := (-9)) hx hb dX4_headOver_111 rfl ?_
      exact rI X hP hS hf dX4_headOver_113
    · have hf := if_f hq hf
      refine lv_aload_n hx hb dX4_headOver_13 rfl (lv_at hl 0 rfl) ?_
      refine fg_X4_9 X hP dX4_headOver_14 ?_
      refine fg_X4_31 X hP dX4_headOver_17 ?_
      refine lv_iload_n hx hb dX4_headOver_20 rfl (lv_at hl 2 rfl) ?_
      obtain ⟨hi, x2, e_x2, hf⟩ := ld_some hf
      refine ldr (t0 := 0) X hP wC_7 rfl hi e_x2 dX4_headOver_21 ?_
      refine lv_aload_n hx hb dX4_headOver_22 rfl (lv_at hl 0 rfl) ?_
      refine fg_X4_9 X hP dX4_headOver_23 ?_
      refine fg_X4_31 X hP dX4_headOver_26 ?_
      refine lv_iload_n hx hb dX4_headOver_29 rfl (lv_at hl 1 rfl) ?_
      obtain ⟨hi, x3, e_x3, hf⟩ := ld_some hf
      refine ldr (t0 := 0) X hP wC_7 rfl hi e_x3 dX4_headOver_30 ?_
      refine lv_icmp_ne (tgt := 59) hx hb dX4_headOver_31 (by decide) (fun hq => ?_) (fun hq => ?_)
      · have hf := if_f hq hf
        exact b_X4_headOver_B59 X hN (fun hf hP hS hl => ih hf hP hS hl) hf hP hS (lv_sub hl [0, 1, 2] rfl)
      · have hf := if_t hq hf
        refine lv_aload_n hx hb dX4_headOver_34 rfl (lv_at hl 0 rfl) ?_
        refine fg_X4_9 X hP dX4_headOver_35 ?_
        refine fg_X4_19 X hP dX4_headOver_38 ?_
        refine lv_iload_n hx hb dX4_headOver_41 rfl (lv_at hl 2 rfl) ?_
        obtain ⟨hi, x4, e_x4, hf⟩ := ld_some hf
        refine ldr (t0 := 0) X hP wC_12 rfl hi e_x4 dX4_headOver_42 ?_
        refine lv_aload_n hx hb dX4_headOver_43 rfl (lv_at hl 0 rfl) ?_
        refine fg_X4_9 X hP dX4_headOver_44 ?_
        refine fg_X4_61 X hP dX4_headOver_47 ?_
        refine lv_iload_n hx hb dX4_headOver_50 rfl (lv_at hl 1 rfl) ?_
        obtain ⟨hi, x5, e_x5, hf⟩ := ld_some hf
        refine ldr (t0 := 0) X hP wC_11 rfl hi e_x5 dX4_headOver_51 ?_
        refine lv_icmp_ge (tgt := 59) hx hb dX4_headOver_52 (by decide) (fun hq => ?_) (fun hq => ?_)
        · have hf := if_t hq hf
          exact b_X4_headOver_B59 X hN (fun hf hP hS hl => ih hf hP hS hl) hf hP hS (lv_sub hl [0, 1, 2] rfl)
        · have hf := if_f hq hf
          refine lv_iconst (v := 1) hx hb dX4_headOver_55 rfl ?_
          refine lv_goto (tgt := 60) hx hb dX4_headOver_56 (by decide) ?_
          exact b_X4_headOver_B60 X hN (fun hf hP hS hl => ih hf hP hS hl) hf hP hS (lv_sub hl [0, 1, 2] rfl)
set_option maxHeartbeats 4000000 in
set_option maxRecDepth 100000 in
theorem b_X4_headOver (X : cx p s m meth c args cX4_headOver 4 (some .int) RX4 D [(cI, .int)]) (hN : nj ad 34) {σ : St} {a1 : Int32} {r : Int32} (hf : f_X4_headOver a1 σ = some r) {H : Heap} {locs : List Loc} {ls : Array Slot} (hP : va_P D vwCl (wC ad cI σ) H) (hS : va_S (aw ad 34) s.heap H locs) (hl : lv_has ls 4 [(0, .ref (ad 4)), (1, .int a1)]) : W p l e rm_X4_headOver s m args below meth c H locs 0 0 (MQ below (qI D (wC ad cI) (aw ad 34) r σ) args s 0 0 (aw ad 34)) (F0 m 0 ls []) := by
  obtain ⟨hx, hb, hml, hown, hts, hr, hlk, hK⟩ := id X
  rw [f_X4_headOver] at hf
  refine lv_iconst (v := 0) hx hb dX4_headOver_0 rfl ?_
  refine lv_istore_n (lv' := [(2, .int 0), (0, .ref (ad 4)), (1, .int a1)]) hx hb dX4_headOver_1 rfl hl (by decide) rfl (fun ls hl => ?_)
  exact b_X4_headOver_L2 X hN _ hf hP hS (lv_sub hl [1, 2, 0] rfl)
set_option maxHeartbeats 4000000 in
set_option maxRecDepth 100000 in
theorem c_X4_headOver {l : Launch} {D : va_G} {ad : Nat → Nat} {cI : ClassId} (hN : nj ad 34) {σ : St} {a1 : Int32} {r : Int32} (hf : f_X4_headOver a1 σ = some r) : Met l yX4_headOver (.code yX4_headOver cX4_headOver 4 (some .int) :: wsL_law) rm_X4_headOver (va_Pc [.ref (ad 4), .int a1] (pw D (wC ad cI) [(cI, .int)] σ)) (qI D (wC ad cI) (aw ad 34) r σ) 0 0 (aw ad 34) :=
  met_mk (by decide) rfl (Nat.le_of_ble_eq_true rfl) (fun p e s m below meth c X hP ls hl => b_X4_headOver X hN hf hP va_S.rf hl)
set_option maxHeartbeats 4000000 in
set_option maxRecDepth 100000 in
theorem b_X5_insert_B48 (X : cx p s m meth c args cX5_insert 3 none RX5 D [(cI, .int)]) (hN : nj ad 34) {σ : St} {a1 a2 : Int32} {σ' : St} (hf : f_X5_insert_B48 a1 a2 σ = some σ') {H : Heap} {locs : List Loc} {ls : Array Slot} (hP : va_P D vwCl (wC ad cI σ) H) (hS : va_S (aw ad 34) s.heap H locs) (hl : lv_has ls 3 [(0, .ref (ad 5)), (1, .int a1), (2, .int a2)]) : W p l e rm_X5_insert s m args below meth c H locs 0 0 (MQ below (qV D (wC ad cI) (aw ad 34) σ') args s 0 0 (aw ad 34)) (F0 m 48 ls []) := by
  obtain ⟨hx, hb, hml, hown, hts, hr, hlk, hK⟩ := id X
  rw [f_X5_insert_B48] at hf
  refine lv_aload_n hx hb dX5_insert_48 rfl (lv_at hl 0 rfl) ?_
  refine fg_X5_27 X hP dX5_insert_49 ?_
  refine lv_iload_n hx hb dX5_insert_52 rfl (lv_at hl 2 rfl) ?_
  refine lv_iload_n hx hb dX5_insert_53 rfl (lv_at hl 1 rfl) ?_
  obtain ⟨hi, σ1, e_σ1, hf⟩ := sd_some hf
  refine str (t0 := 0) X hP (wC_D hN) hS wC_26 wC_s26 rfl hi e_σ1 dX5_insert_54 (fun H locs hP hS => ?_)
  refine lv_aload_n hx hb dX5_insert_55 rfl (lv_at hl 0 rfl) ?_
  refine lv_dup hx hb dX5_insert_56 rfl ?_
  obtain ⟨x2, e_x2, hf⟩ := lf_some hf
  refine fg_X5_42 X hP e_x2 dX5_insert_57 ?_
  refine lv_iconst (v := 1) hx hb dX5_insert_60 rfl ?_
  refine lv_iadd hx hb dX5_insert_61 ?_
  obtain ⟨σ3, e_σ3, hf⟩ := sf_some hf
  refine fp_X5_42 X hN hP hS e_σ3 dX5_insert_62 (fun H locs hP hS => ?_)
  exact rVe X hP hS hf dX5_insert_65
set_option maxHeartbeats 4000000 in
set_option maxRecDepth 100000 in
theorem b_X5_insert_L5 (X : cx p s m meth c args cX5_insert 3 none RX5 D [(cI, .int)]) (hN : nj ad 34) : ∀ (n : Nat) {σ : St} {a1 a2 : Int32} {σ' : St}, f_X5_insert_L5 n a1 a2 σ = some σ' → ∀ {H : Heap} {locs : List Loc} {ls : Array Slot}, va_P D vwCl (wC ad cI σ) H → va_S (aw ad 34) s.heap H locs → lv_has ls 3 [(0, .ref (ad 5)), (1, .int a1), (2, .int a2)] → W p l e rm_X5_insert s m args below meth c H locs 0 0 (MQ below (qV D (wC ad cI) (aw ad 34) σ') args s 0 0 (aw ad 34)) (F0 m 5 ls []) := by
  intro n
  induction n with
  | zero =>
    intro σ a1 a2 σ' hf
    rw [f_X5_insert_L5] at hf
    cases hf
  | succ n ih =>
    intro σ a1 a2 σ' hf H locs ls hP hS hl
    obtain ⟨hx, hb, hml, hown, hts, hr, hlk, hK⟩ := id X
    rw [f_X5_insert_L5] at hf
    refine lv_iload_n hx hb dX5_insert_5 rfl (lv_at hl 2 rfl) ?_
    refine lv_if_le (tgt := 48) hx hb dX5_insert_6 (by decide) (fun hq => ?_) (fun hq => ?_)
    · have hf := if_t hq hf
      exact b_X5_insert_B48 X hN hf hP hS (lv_sub hl [0, 1, 2] rfl)
    · have hf := if_f hq hf
      refine lv_aload_n hx hb dX5_insert_9 rfl (lv_at hl 0 rfl) ?_
      refine fg_X5_30 X hP dX5_insert_10 ?_
      refine lv_iload_n hx hb dX5_insert_13 rfl (lv_at hl 1 rfl) ?_
      refine lv_aload_n hx hb dX5_insert_14 rfl (lv_at hl 0 rfl) ?_
      refine fg_X5_27 X hP dX5_insert_15 ?_
      refine lv_iload_n hx hb dX5_insert_18 rfl (lv_at hl 2 rfl) ?_
      refine lv_iconst (v := 1) hx hb dX5_insert_19 rfl ?_
      refine lv_isub hx hb dX5_insert_20 ?_
      obtain ⟨hi, x1, e_x1, hf⟩ := ld_some hf
      refine ldr (t0 := 0) X hP wC_26 rfl hi e_x1 dX5_insert_21 ?_
      obtain ⟨x2, hc, hf⟩ := bi_some hf
      refine kVi (As := [.int a1, .int x1]) (rest := []) (wd := (wC ad cI)) (q0 := 1) (ci := 1) X (c_X1_isAhead (l := l) (D := D) (σ := σ) hN hc) (cw_X5_81 X.2.2.2.2.1 ⟨Nat.le_of_ble_eq_true rfl, Nat.le_of_ble_eq_true rfl⟩) rfl rfl hP hS hl rfl rfl (Nat.le_of_ble_eq_true rfl) dX5_insert_22 (fun H locs hP hS => ?_)
      refine lv_if_eq (tgt := 48) hx hb dX5_insert_25 (by decide) (fun hq => ?_) (fun hq => ?_)
      · have hf := if_t hq hf
        exact b_X5_insert_B48 X hN hf hP hS (lv_sub hl [0, 1, 2] rfl)
      · have hf := if_f hq hf
        refine lv_aload_n hx hb dX5_insert_28 rfl (lv_at hl 0 rfl) ?_
        refine fg_X5_27 X hP dX5_insert_29 ?_
        refine lv_iload_n hx hb dX5_insert_32 rfl (lv_at hl 2 rfl) ?_
        refine lv_aload_n hx hb dX5_insert_33 rfl (lv_at hl 0 rfl) ?_
        refine fg_X5_27 X hP dX5_insert_34 ?_
        refine lv_iload_n hx hb dX5_insert_37 rfl (lv_at hl 2 rfl) ?_
        refine lv_iconst (v := 1) hx hb dX5_insert_38 rfl ?_
        refine lv_isub hx hb dX5_insert_39 ?_
        obtain ⟨hi, x3, e_x3, hf⟩ := ld_some hf
        refine ldr (t0 := 0) X hP wC_26 rfl hi e_x3 dX5_insert_40 ?_
        obtain ⟨hi, σ4, e_σ4, hf⟩ := sd_some hf
        refine str (t0 := 0) X hP (wC_D hN) hS wC_26 wC_s26 rfl hi e_σ4 dX5_insert_41 (fun H locs hP hS => ?_)
        refine lv_iinc (v := (a2 + (-1))) (lv' := [(2, .int (a2 + (-1))), (0, .ref (ad 5)), (1, .int a1)]) hx hb dX5_insert_42 hl (k := 2) rfl rfl (by decide) rfl (fun ls hl => ?_)
        refine lv_goto (tgt := 5) hx hb dX5_insert_45 (by decide) ?_
        exact ih hf hP hS (lv_sub hl [1, 2, 0] rfl)
set_option maxHeartbeats 4000000 in
set_option maxRecDepth 100000 in
theorem b_X5_insert (X : cx p s m meth c args cX5_insert 3 none RX5 D [(cI, .int)]) (hN : nj ad 34) {σ : St} {a1 : Int32} {σ' : St} (hf : f_X5_insert a1 σ = some σ') {H : Heap} {locs : List Loc} {ls : Array Slot} (hP : va_P D vwCl (wC ad cI σ) H) (hS : va_S (aw ad 34) s.heap H locs) (hl : lv_has ls 3 [(0, .ref (ad 5)), (1, .int a1)]) : W p l e rm_X5_insert s m args below meth c H locs 0 0 (MQ below (qV D (wC ad cI) (aw ad 34) σ') args s 0 0 (aw ad 34)) (F0 m 0 ls []) := by
  obtain ⟨hx, hb, hml, hown, hts, hr, hlk, hK⟩ := id X
  rw [f_X5_insert] at hf
  refine lv_aload_n hx hb dX5_insert_0 rfl (lv_at hl 0 rfl) ?_
  obtain ⟨x1, e_x1, hf⟩ := lf_some hf
  refine fg_X5_42 X hP e_x1 dX5_insert_1 ?_
  refine lv_istore_n (lv' := [(2, .int x1), (0, .ref (ad 5)), (1, .int a1)]) hx hb dX5_insert_4 rfl hl (by decide) rfl (fun ls hl => ?_)
  exact b_X5_insert_L5 X hN _ hf hP hS (lv_sub hl [1, 2, 0] rfl)
set_option maxHeartbeats 4000000 in
set_option maxRecDepth 100000 in
theorem c_X5_insert {l : Launch} {D : va_G} {ad : Nat → Nat} {cI : ClassId} (hN : nj ad 34) {σ : St} {a1 : Int32} {σ' : St} (hf : f_X5_insert a1 σ = some σ') : Met l yX5_insert (.code yX5_insert cX5_insert 3 none :: wsL_law) rm_X5_insert (va_Pc [.ref (ad 5), .int a1] (pw D (wC ad cI) [(cI, .int)] σ)) (qV D (wC ad cI) (aw ad 34) σ') 0 0 (aw ad 34) :=
  met_mk (by decide) rfl (Nat.le_of_ble_eq_true rfl) (fun p e s m below meth c X hP ls hl => b_X5_insert X hN hf hP va_S.rf hl)
set_option maxHeartbeats 4000000 in
set_option maxRecDepth 100000 in
theorem b_X5_putUnderHead_B35 (X : cx p s m meth c args cX5_putUnderHead 2 none RX5 D [(cI, .int)]) (hN : nj ad 34) {σ : St} {a1 t0 t1 : Int32} {σ' : St} (hf : f_X5_putUnderHead_B35 a1 t0 t1 σ = some σ') {H : Heap} {locs : List Loc} {ls : Array Slot} (hP : va_P D vwCl (wC ad cI σ) H) (hS : va_S (aw ad 34) s.heap H locs) (hl : lv_has ls 2 [(0, .ref (ad 5)), (1, .int a1)]) : W p l e rm_X5_putUnderHead s m args below meth c H locs 0 0 (MQ below (qV D (wC ad cI) (aw ad 34) σ') args s 0 0 (aw ad 34)) (F0 m 35 ls [.int t0, .int t1, .ref (ad 23)]) := by
  obtain ⟨hx, hb, hml, hown, hts, hr, hlk, hK⟩ := id X
  rw [f_X5_putUnderHead_B35] at hf
  obtain ⟨hi, σ1, e_σ1, hf⟩ := sd_some hf
  refine str (t0 := 0) X hP (wC_D hN) hS wC_23 wC_s23 rfl hi e_σ1 dX5_putUnderHead_35 (fun H locs hP hS => ?_)
  refine lv_aload_n hx hb dX5_putUnderHead_36 rfl (lv_at hl 0 rfl) ?_
  refine fg_X5_30 X hP dX5_putUnderHead_37 ?_
  refine fg_X5_51 X hP dX5_putUnderHead_40 ?_
  refine lv_iload_n hx hb dX5_putUnderHead_43 rfl (lv_at hl 1 rfl) ?_
  obtain ⟨hi, x2, e_x2, hf⟩ := ld_some hf
  refine ldr (t0 := 0) X hP wC_8 rfl hi e_x2 dX5_putUnderHead_44 ?_
  refine lv_iconst (v := 1) hx hb dX5_putUnderHead_45 rfl ?_
  refine lv_icmp_ne (tgt := 65) hx hb dX5_putUnderHead_46 (by decide) (fun hq => ?_) (fun hq => ?_)
  · have hf := if_f hq hf
    exact rVe X hP hS hf dX5_putUnderHead_65
  · have hf := if_t hq hf
    refine lv_aload_n hx hb dX5_putUnderHead_49 rfl (lv_at hl 0 rfl) ?_
    refine fg_X5_9 X hP dX5_putUnderHead_50 ?_
    refine lv_iload_n hx hb dX5_putUnderHead_53 rfl (lv_at hl 1 rfl) ?_
    obtain ⟨hi, x3, e_x3, hf⟩ := ld_some hf
    refine ldr (t0 := 0) X hP wC_21 rfl hi e_x3 dX5_putUnderHead_54 ?_
    refine lv_bipush (v := (-9)) hx hb dX5_putUnderHead_55 rfl ?_
    refine lv_icmp_eq (tgt := 65) hx hb dX5_putUnderHead_57 (by decide) (fun hq => ?_) (fun hq => ?_)
    · have hf := if_t hq hf
      exact rVe X hP hS hf dX5_putUnderHead_65
    · have hf := if_f hq hf
      refine lv_aload_n hx hb dX5_putUnderHead_60 rfl (lv_at hl 0 rfl) ?_
      refine lv_iload_n hx hb dX5_putUnderHead_61 rfl (lv_at hl 1 rfl) ?_
      obtain ⟨σ4, hc, hf⟩ := bs_some hf
      refine kVv (As := [.int a1]) (rest := []) (wd := (wC ad cI)) (q0 := 5) (ci := 5) X (c_X5_insert (l := l) (D := D) (σ := σ1) hN hc) (cw_X5_78 X.2.2.2.2.1 ⟨Nat.le_of_ble_eq_true rfl, Nat.le_of_ble_eq_true rfl⟩) rfl rfl hP hS hl rfl rfl (Nat.le_of_ble_eq_true rfl) dX5_putUnderHead_62 (fun H locs hP hS => ?_)
      exact rVe X hP hS hf dX5_putUnderHead_65
set_option maxHeartbeats 4000000 in
set_option maxRecDepth 100000 in
theorem b_X5_putUnderHead (X : cx p s m meth c args cX5_putUnderHead 2 none RX5 D [(cI, .int)]) (hN : nj ad 34) {σ : St} {a1 : Int32} {σ' : St} (hf : f_X5_putUnderHead a1 σ = some σ') {H : Heap} {locs : List Loc} {ls : Array Slot} (hP : va_P D vwCl (wC ad cI σ) H) (hS : va_S (aw ad 34) s.heap H locs) (hl : lv_has ls 2 [(0, .ref (ad 5)), (1, .int a1)]) : W p l e rm_X5_putUnderHead s m args below meth c H locs 0 0 (MQ below (qV D (wC ad cI) (aw ad 34) σ') args s 0 0 (aw ad 34)) (F0 m 0 ls []) := by
  obtain ⟨hx, hb, hml, hown, hts, hr, hlk, hK⟩ := id X
  rw [f_X5_putUnderHead] at hf
  refine lv_aload_n hx hb dX5_putUnderHead_0 rfl (lv_at hl 0 rfl) ?_
  refine fg_X5_15 X hP dX5_putUnderHead_1 ?_
  refine lv_iload_n hx hb dX5_putUnderHead_4 rfl (lv_at hl 1 rfl) ?_
  refine lv_bipush (v := (-9)) hx hb dX5_putUnderHead_5 rfl ?_
  obtain ⟨hi, σ1, e_σ1, hf⟩ := sd_some hf
  refine str (t0 := 0) X hP (wC_D hN) hS wC_22 wC_s22 rfl hi e_σ1 dX5_putUnderHead_7 (fun H locs hP hS => ?_)
  refine lv_aload_n hx hb dX5_putUnderHead_8 rfl (lv_at hl 0 rfl) ?_
  refine fg_X5_18 X hP dX5_putUnderHead_9 ?_
  refine lv_iload_n hx hb dX5_putUnderHead_12 rfl (lv_at hl 1 rfl) ?_
  refine lv_aload_n hx hb dX5_putUnderHead_13 rfl (lv_at hl 0 rfl) ?_
  refine fg_X5_30 X hP dX5_putUnderHead_14 ?_
  refine fg_X5_51 X hP dX5_putUnderHead_17 ?_
  refine lv_iload_n hx hb dX5_putUnderHead_20 rfl (lv_at hl 1 rfl) ?_
  obtain ⟨hi, x2, e_x2, hf⟩ := ld_some hf
  refine ldr (t0 := 0) X hP wC_8 rfl hi e_x2 dX5_putUnderHead_21 ?_
  refine lv_if_ne (tgt := 29) hx hb dX5_putUnderHead_22 (by decide) (fun hq => ?_) (fun hq => ?_)
  · have hf := if_f hq hf
    refine lv_aload_n hx hb dX5_putUnderHead_29 rfl (lv_at hl 0 rfl) ?_
    refine fg_X5_9 X hP dX5_putUnderHead_30 ?_
    refine lv_iload_n hx hb dX5_putUnderHead_33 rfl (lv_at hl 1 rfl) ?_
    obtain ⟨hi, x3, e_x3, hf⟩ := ld_some hf
    refine ldr (t0 := 0) X hP wC_21 rfl hi e_x3 dX5_putUnderHead_34 ?_
    exact b_X5_putUnderHead_B35 X hN hf hP hS (lv_sub hl [0, 1] rfl)
  · have hf := if_t hq hf
    refine lv_iload_n hx hb dX5_putUnderHead_25 rfl (lv_at hl 1 rfl) ?_
    refine lv_goto (tgt := 35) hx hb dX5_putUnderHead_26 (by decide) ?_
    exact b_X5_putUnderHead_B35 X hN hf hP hS (lv_sub hl [0, 1] rfl)
set_option maxHeartbeats 4000000 in
set_option maxRecDepth 100000 in
theorem c_X5_putUnderHead {l : Launch} {D : va_G} {ad : Nat → Nat} {cI : ClassId} (hN : nj ad 34) {σ : St} {a1 : Int32} {σ' : St} (hf : f_X5_putUnderHead a1 σ = some σ') : Met l yX5_putUnderHead (.code yX5_putUnderHead cX5_putUnderHead 2 none :: wsL_law) rm_X5_putUnderHead (va_Pc [.ref (ad 5), .int a1] (pw D (wC ad cI) [(cI, .int)] σ)) (qV D (wC ad cI) (aw ad 34) σ') 0 0 (aw ad 34) :=
  met_mk (by decide) rfl (Nat.le_of_ble_eq_true rfl) (fun p e s m below meth c X hP ls hl => b_X5_putUnderHead X hN hf hP va_S.rf hl)
set_option maxHeartbeats 4000000 in
set_option maxRecDepth 100000 in
theorem b_X5_isWithoutStory (X : cx p s m meth c args cX5_isWithoutStory 2 (some .boolean) RX5 D [(cI, .int)]) (hN : nj ad 34) {σ : St} {a1 : Int32} {r : Int32} (hf : f_X5_isWithoutStory a1 σ = some r) {H : Heap} {locs : List Loc} {ls : Array Slot} (hP : va_P D vwCl (wC ad cI σ) H) (hS : va_S (aw ad 34) s.heap H locs) (hl : lv_has ls 2 [(0, .ref (ad 5)), (1, .int a1)]) : W p l e rm_X5_isWithoutStory s m args below meth c H locs 0 0 (MQ below (qI D (wC ad cI) (aw ad 34) r σ) args s 0 0 (aw ad 34)) (F0 m 0 ls []) := by
  obtain ⟨hx, hb, hml, hown, hts, hr, hlk, hK⟩ := id X
  rw [f_X5_isWithoutStory] at hf
  refine lv_aload_n hx hb dX5_isWithoutStory_0 rfl (lv_at hl 0 rfl) ?_
  refine fg_X5_30 X hP dX5_isWithoutStory_1 ?_
  refine fg_X5_51 X hP dX5_isWithoutStory_4 ?_
  refine lv_iload_n hx hb dX5_isWithoutStory_7 rfl (lv_at hl 1 rfl) ?_
  obtain ⟨hi, x1, e_x1, hf⟩ := ld_some hf
  refine ldr (t0 := 0) X hP wC_8 rfl hi e_x1 dX5_isWithoutStory_8 ?_
  refine lv_iconst (v := 1) hx hb dX5_isWithoutStory_9 rfl ?_
  refine lv_icmp_ne (tgt := 28) hx hb dX5_isWithoutStory_10 (by decide) (fun hq => ?_) (fun hq => ?_)
  · have hf := if_f hq hf
    refine lv_iconst (v := 0) hx hb dX5_isWithoutStory_28 rfl ?_
    exact rZ X hP hS hf dX5_isWithoutStory_29
  · have hf := if_t hq hf
    refine lv_aload_n hx hb dX5_isWithoutStory_13 rfl (lv_at hl 0 rfl) ?_
    refine fg_X5_18 X hP dX5_isWithoutStory_14 ?_
    refine lv_iload_n hx hb dX5_isWithoutStory_17 rfl (lv_at hl 1 rfl) ?_
    obtain ⟨hi, x2, e_x2, hf⟩ := ld_some hf
    refine ldr (t0 := 0) X hP wC_23 rfl hi e_x2 dX5_isWithoutStory_18 ?_
    refine lv_bipush (v := (-9)) hx hb dX5_isWithoutStory_19 rfl ?_
    refine lv_icmp_ne (tgt := 28) hx hb dX5_isWithoutStory_21 (by decide) (fun hq => ?_) (fun hq => ?_)
    · have hf := if_f hq hf
      refine lv_iconst (v := 0) hx hb dX5_isWithoutStory_28 rfl ?_
      exact rZ X hP hS hf dX5_isWithoutStory_29
    · have hf := if_t hq hf
      refine lv_iconst (v := 1) hx hb dX5_isWithoutStory_24 rfl ?_
      refine lv_goto (tgt := 29) hx hb dX5_isWithoutStory_25 (by decide) ?_
      exact rZ X hP hS hf dX5_isWithoutStory_29
set_option maxHeartbeats 4000000 in
set_option maxRecDepth 100000 in
theorem c_X5_isWithoutStory {l : Launch} {D : va_G} {ad : Nat → Nat} {cI : ClassId} (hN : nj ad 34) {σ : St} {a1 : Int32} {r : Int32} (hf : f_X5_isWithoutStory a1 σ = some r) : Met l yX5_isWithoutStory (.code yX5_isWithoutStory cX5_isWithoutStory 2 (some .boolean) :: wsL_law) rm_X5_isWithoutStory (va_Pc [.ref (ad 5), .int a1] (pw D (wC ad cI) [(cI, .int)] σ)) (qI D (wC ad cI) (aw ad 34) r σ) 0 0 (aw ad 34) :=
  met_mk (by decide) rfl (Nat.le_of_ble_eq_true rfl) (fun p e s m below meth c X hP ls hl => b_X5_isWithoutStory X hN hf hP va_S.rf hl)
set_option maxHeartbeats 4000000 in
set_option maxRecDepth 100000 in
theorem b_X5_takes_B79 (X : cx p s m meth c args cX5_takes 7 (some .boolean) RX5 D [(cI, .int)]) (hN : nj ad 34) {σ : St} {a1 a2 a3 t0 : Int32} {r : Int32} (hf : f_X5_takes_B79 σ a1 a2 a3 t0 = some r) {H : Heap} {locs : List Loc} {ls : Array Slot} (hP : va_P D vwCl (wC ad cI σ) H) (hS : va_S (aw ad 34) s.heap H locs) (hl : lv_has ls 7 [(0, .ref (ad 5)), (1, .int a1), (2, .int a2), (3, .int a3)]) : W p l e rm_X5_takes s m args below meth c H locs 0 0 (MQ below (qI D (wC ad cI) (aw ad 34) r σ) args s 0 0 (aw ad 34)) (F0 m 79 ls [.int t0]) := by
  obtain ⟨hx, hb, hml, hown, hts, hr, hlk, hK⟩ := id X
  rw [f_X5_takes_B79] at hf
  refine lv_istore (lv' := [(4, .int t0), (0, .ref (ad 5)), (1, .int a1), (2, .int a2), (3, .int a3)]) hx hb dX5_takes_79 hl (by decide) rfl (fun ls hl => ?_)
  refine lv_iload_n hx hb dX5_takes_81 rfl (lv_at hl 4 rfl) ?_
  refine lv_if_eq (tgt := 90) hx hb dX5_takes_82 (by decide) (fun hq => ?_) (fun hq => ?_)
  · have hf := if_t hq hf
    refine lv_iconst (v := 0) hx hb dX5_takes_90 rfl ?_
    exact rZ X hP hS hf dX5_takes_91
  · have hf := if_f hq hf
    refine lv_iload hx hb dX5_takes_85 (lv_at hl 0 rfl) ?_
    refine lv_if_ne (tgt := 92) hx hb dX5_takes_87 (by decide) (fun hq => ?_) (fun hq => ?_)
    · have hf := if_f hq hf
      refine lv_aload_n hx hb dX5_takes_92 rfl (lv_at hl 1 rfl) ?_
      refine fg_X5_30 X hP dX5_takes_93 ?_
      refine fg_X5_91 X hP dX5_takes_96 ?_
      refine lv_iload_n hx hb dX5_takes_99 rfl (lv_at hl 2 rfl) ?_
      obtain ⟨hi, x1, e_x1, hf⟩ := ld_some hf
      refine ldr (t0 := 0) X hP wC_11 rfl hi e_x1 dX5_takes_100 ?_
      refine lv_aload_n hx hb dX5_takes_101 rfl (lv_at hl 1 rfl) ?_
      refine fg_X5_30 X hP dX5_takes_102 ?_
      refine fg_X5_91 X hP dX5_takes_105 ?_
      refine lv_iload_n hx hb dX5_takes_108 rfl (lv_at hl 3 rfl) ?_
      obtain ⟨hi, x2, e_x2, hf⟩ := ld_some hf
      refine ldr (t0 := 0) X hP wC_11 rfl hi e_x2 dX5_takes_109 ?_
      refine mm_X5_103 X hl (Nat.le_of_ble_eq_true rfl) (Nat.le_of_ble_eq_true rfl) dX5_takes_110 ?_
      refine lv_istore (lv' := [(5, .int (jmax x1 x2)), (4, .int t0), (0, .ref (ad 5)), (1, .int a1), (2, .int a2), (3, .int a3)]) hx hb dX5_takes_113 hl (by decide) rfl (fun ls hl => ?_)
      refine lv_aload_n hx hb dX5_takes_115 rfl (lv_at hl 2 rfl) ?_
      refine fg_X5_30 X hP dX5_takes_116 ?_
      refine fg_X5_109 X hP dX5_takes_119 ?_
      refine lv_iload_n hx hb dX5_takes_122 rfl (lv_at hl 3 rfl) ?_
      obtain ⟨hi, x3, e_x3, hf⟩ := ld_some hf
      refine ldr (t0 := 0) X hP wC_12 rfl hi e_x3 dX5_takes_123 ?_
      refine lv_aload_n hx hb dX5_takes_124 rfl (lv_at hl 2 rfl) ?_
      refine fg_X5_30 X hP dX5_takes_125 ?_
      refine fg_X5_109 X hP dX5_takes_128 ?_
      refine lv_iload_n hx hb dX5_takes_131 rfl (lv_at hl 4 rfl) ?_
      obtain ⟨hi, x4, e_x4, hf⟩ := ld_some hf
      refine ldr (t0 := 0) X hP wC_12 rfl hi e_x4 dX5_takes_132 ?_
      refine mm_X5_112 X hl (Nat.le_of_ble_eq_true rfl) (Nat.le_of_ble_eq_true rfl) dX5_takes_133 ?_
      refine lv_istore (lv' := [(6, .int (jmin x3 x4)), (5, .int (jmax x1 x2)), (4, .int t0), (0, .ref (ad 5)), (1, .int a1), (2, .int a2), (3, .int a3)]) hx hb dX5_takes_136 hl (by decide) rfl (fun ls hl => ?_)
      refine lv_iload hx hb dX5_takes_138 (lv_at hl 1 rfl) ?_
      refine lv_iload hx hb dX5_takes_140 (lv_at hl 0 rfl) ?_
      refine lv_icmp_gt (tgt := 181) hx hb dX5_takes_142 (by decide) (fun hq => ?_) (fun hq => ?_)
      · have hf := if_t hq hf
        refine lv_iconst (v := 0) hx hb dX5_takes_181 rfl ?_
        exact rZ X hP hS hf dX5_takes_182
      · have hf := if_f hq hf
        refine lv_aload_n hx hb dX5_takes_145 rfl (lv_at hl 3 rfl) ?_
        refine fg_X5_34 X hP dX5_takes_146 ?_
        refine lv_aload_n hx hb dX5_takes_149 rfl (lv_at hl 3 rfl) ?_
        refine fg_X5_30 X hP dX5_takes_150 ?_
        refine fg_X5_94 X hP dX5_takes_153 ?_
        refine lv_iload_n hx hb dX5_takes_156 rfl (lv_at hl 5 rfl) ?_
        obtain ⟨hi, x5, e_x5, hf⟩ := ld_some hf
        refine ldr (t0 := 0) X hP wC_7 rfl hi e_x5 dX5_takes_157 ?_
        refine lv_aload_n hx hb dX5_takes_158 rfl (lv_at hl 3 rfl) ?_
        refine fg_X5_30 X hP dX5_takes_159 ?_
        refine fg_X5_100 X hP dX5_takes_162 ?_
        refine lv_iload_n hx hb dX5_takes_165 rfl (lv_at hl 5 rfl) ?_
        obtain ⟨hi, x6, e_x6, hf⟩ := ld_some hf
        refine ldr (t0 := 0) X hP wC_9 rfl hi e_x6 dX5_takes_166 ?_
        refine lv_iload hx hb dX5_takes_167 (lv_at hl 1 rfl) ?_
        refine lv_iload hx hb dX5_takes_169 (lv_at hl 0 rfl) ?_
        obtain ⟨x7, hc, hf⟩ := bi_some hf
        refine kVi (As := [.int x5, .int x6, .int (jmax x1 x2), .int (jmin x3 x4)]) (rest := []) (wd := (wC ad cI)) (q0 := 3) (ci := 2) X (c_X2_hasUpright (l := l) (D := D) (σ := σ) hN hc) (cw_X5_115 X.2.2.2.2.1 ⟨Nat.le_of_ble_eq_true rfl, Nat.le_of_ble_eq_true rfl⟩) rfl rfl hP hS hl rfl rfl (Nat.le_of_ble_eq_true rfl) dX5_takes_171 (fun H locs hP hS => ?_)
        refine lv_if_ne (tgt := 181) hx hb dX5_takes_174 (by decide) (fun hq => ?_) (fun hq => ?_)
        · have hf := if_f hq hf
          refine lv_iconst (v := 0) hx hb dX5_takes_181 rfl ?_
          exact rZ X hP hS hf dX5_takes_182
        · have hf := if_t hq hf
          refine lv_iconst (v := 1) hx hb dX5_takes_177 rfl ?_
          refine lv_goto (tgt := 182) hx hb dX5_takes_178 (by decide) ?_
          exact rZ X hP hS hf dX5_takes_182
    · have hf := if_t hq hf
      refine lv_iconst (v := 0) hx hb dX5_takes_90 rfl ?_
      exact rZ X hP hS hf dX5_takes_91
set_option maxHeartbeats 4000000 in
set_option maxRecDepth 100000 in
theorem b_X5_takes_B78 (X : cx p s m meth c args cX5_takes 7 (some .boolean) RX5 D [(cI, .int)]) (hN : nj ad 34) {σ : St} {a1 a2 a3 : Int32} {r : Int32} (hf : f_X5_takes_B78 σ a1 a2 a3 = some r) {H : Heap} {locs : List Loc} {ls : Array Slot} (hP : va_P D vwCl (wC ad cI σ) H) (hS : va_S (aw ad 34) s.heap H locs) (hl : lv_has ls 7 [(0, .ref (ad 5)), (1, .int a1), (2, .int a2), (3, .int a3)]) : W p l e rm_X5_takes s m args below meth c H locs 0 0 (MQ below (qI D (wC ad cI) (aw ad 34) r σ) args s 0 0 (aw ad 34)) (F0 m 78 ls []) := by
  obtain ⟨hx, hb, hml, hown, hts, hr, hlk, hK⟩ := id X
  rw [f_X5_takes_B78] at hf
  refine lv_iconst (v := 0) hx hb dX5_takes_78 rfl ?_
  exact b_X5_takes_B79 X hN hf hP hS (lv_sub hl [0, 1, 2, 3] rfl)
set_option maxHeartbeats 4000000 in
set_option maxRecDepth 100000 in
theorem b_X5_takes_B29 (X : cx p s m meth c args cX5_takes 7 (some .boolean) RX5 D [(cI, .int)]) (hN : nj ad 34) {σ : St} {a1 a2 t0 : Int32} {r : Int32} (hf : f_X5_takes_B29 σ a1 a2 t0 = some r) {H : Heap} {locs : List Loc} {ls : Array Slot} (hP : va_P D vwCl (wC ad cI σ) H) (hS : va_S (aw ad 34) s.heap H locs) (hl : lv_has ls 7 [(0, .ref (ad 5)), (1, .int a1), (2, .int a2)]) : W p l e rm_X5_takes s m args below meth c H locs 0 0 (MQ below (qI D (wC ad cI) (aw ad 34) r σ) args s 0 0 (aw ad 34)) (F0 m 29 ls [.int t0]) := by
  obtain ⟨hx, hb, hml, hown, hts, hr, hlk, hK⟩ := id X
  rw [f_X5_takes_B29] at hf
  refine lv_istore_n (lv' := [(3, .int t0), (0, .ref (ad 5)), (1, .int a1), (2, .int a2)]) hx hb dX5_takes_29 rfl hl (by decide) rfl (fun ls hl => ?_)
  refine lv_aload_n hx hb dX5_takes_30 rfl (lv_at hl 1 rfl) ?_
  refine fg_X5_30 X hP dX5_takes_31 ?_
  refine fg_X5_94 X hP dX5_takes_34 ?_
  refine lv_iload_n hx hb dX5_takes_37 rfl (lv_at hl 2 rfl) ?_
  obtain ⟨hi, x1, e_x1, hf⟩ := ld_some hf
  refine ldr (t0 := 0) X hP wC_7 rfl hi e_x1 dX5_takes_38 ?_
  refine lv_aload_n hx hb dX5_takes_39 rfl (lv_at hl 1 rfl) ?_
  refine fg_X5_30 X hP dX5_takes_40 ?_
  refine fg_X5_94 X hP dX5_takes_43 ?_
  refine lv_iload_n hx hb dX5_takes_46 rfl (lv_at hl 3 rfl) ?_
  obtain ⟨hi, x2, e_x2, hf⟩ := ld_some hf
  refine ldr (t0 := 0) X hP wC_7 rfl hi e_x2 dX5_takes_47 ?_
  refine lv_icmp_ne (tgt := 78) hx hb dX5_takes_48 (by decide) (fun hq => ?_) (fun hq => ?_)
  · have hf := if_f hq hf
    exact b_X5_takes_B78 X hN hf hP hS (lv_sub hl [1, 2, 3, 0] rfl)
  · have hf := if_t hq hf
    refine lv_aload_n hx hb dX5_takes_51 rfl (lv_at hl 1 rfl) ?_
    refine fg_X5_30 X hP dX5_takes_52 ?_
    refine fg_X5_97 X hP dX5_takes_55 ?_
    refine lv_iload_n hx hb dX5_takes_58 rfl (lv_at hl 2 rfl) ?_
    obtain ⟨hi, x3, e_x3, hf⟩ := ld_some hf
    refine ldr (t0 := 0) X hP wC_10 rfl hi e_x3 dX5_takes_59 ?_
    refine lv_iconst (v := 1) hx hb dX5_takes_60 rfl ?_
    refine lv_iadd hx hb dX5_takes_61 ?_
    refine lv_aload_n hx hb dX5_takes_62 rfl (lv_at hl 1 rfl) ?_
    refine fg_X5_30 X hP dX5_takes_63 ?_
    refine fg_X5_100 X hP dX5_takes_66 ?_
    refine lv_iload_n hx hb dX5_takes_69 rfl (lv_at hl 3 rfl) ?_
    obtain ⟨hi, x4, e_x4, hf⟩ := ld_some hf
    refine ldr (t0 := 0) X hP wC_9 rfl hi e_x4 dX5_takes_70 ?_
    refine lv_icmp_ne (tgt := 78) hx hb dX5_takes_71 (by decide) (fun hq => ?_) (fun hq => ?_)
    · have hf := if_f hq hf
      exact b_X5_takes_B78 X hN hf hP hS (lv_sub hl [1, 2, 3, 0] rfl)
    · have hf := if_t hq hf
      refine lv_iconst (v := 1) hx hb dX5_takes_74 rfl ?_
      refine lv_goto (tgt := 79) hx hb dX5_takes_75 (by decide) ?_
      exact b_X5_takes_B79 X hN hf hP hS (lv_sub hl [1, 2, 3, 0] rfl)
set_option maxHeartbeats 4000000 in
set_option maxRecDepth 100000 in
theorem b_X5_takes_B28 (X : cx p s m meth c args cX5_takes 7 (some .boolean) RX5 D [(cI, .int)]) (hN : nj ad 34) {σ : St} {a1 a2 : Int32} {r : Int32} (hf : f_X5_takes_B28 σ a1 a2 = some r) {H : Heap} {locs : List Loc} {ls : Array Slot} (hP : va_P D vwCl (wC ad cI σ) H) (hS : va_S (aw ad 34) s.heap H locs) (hl : lv_has ls 7 [(0, .ref (ad 5)), (1, .int a1), (2, .int a2)]) : W p l e rm_X5_takes s m args below meth c H locs 0 0 (MQ below (qI D (wC ad cI) (aw ad 34) r σ) args s 0 0 (aw ad 34)) (F0 m 28 ls []) := by
  obtain ⟨hx, hb, hml, hown, hts, hr, hlk, hK⟩ := id X
  rw [f_X5_takes_B28] at hf
  refine lv_iconst (v := 0) hx hb dX5_takes_28 rfl ?_
  exact b_X5_takes_B29 X hN hf hP hS (lv_sub hl [0, 1, 2] rfl)
set_option maxHeartbeats 4000000 in
set_option maxRecDepth 100000 in
theorem b_X5_takes (X : cx p s m meth c args cX5_takes 7 (some .boolean) RX5 D [(cI, .int)]) (hN : nj ad 34) {σ : St} {a1 a2 : Int32} {r : Int32} (hf : f_X5_takes a1 a2 σ = some r) {H : Heap} {locs : List Loc} {ls : Array Slot} (hP : va_P D vwCl (wC ad cI σ) H) (hS : va_S (aw ad 34) s.heap H locs) (hl : lv_has ls 7 [(0, .ref (ad 5)), (1, .int a1), (2, .int a2)]) : W p l e rm_X5_takes s m args below meth c H locs 0 0 (MQ below (qI D (wC ad cI) (aw ad 34) r σ) args s 0 0 (aw ad 34)) (F0 m 0 ls []) := by
  obtain ⟨hx, hb, hml, hown, hts, hr, hlk, hK⟩ := id X
  rw [f_X5_takes] at hf
  refine lv_aload_n hx hb dX5_takes_0 rfl (lv_at hl 0 rfl) ?_
  refine fg_X5_30 X hP dX5_takes_1 ?_
  refine fg_X5_51 X hP dX5_takes_4 ?_
  refine lv_iload_n hx hb dX5_takes_7 rfl (lv_at hl 1 rfl) ?_
  obtain ⟨hi, x1, e_x1, hf⟩ := ld_some hf
  refine ldr (t0 := 0) X hP wC_8 rfl hi e_x1 dX5_takes_8 ?_
  refine lv_iconst (v := 1) hx hb dX5_takes_9 rfl ?_
  refine lv_icmp_ne (tgt := 28) hx hb dX5_takes_10 (by decide) (fun hq => ?_) (fun hq => ?_)
  · have hf := if_f hq hf
    exact b_X5_takes_B28 X hN hf hP hS (lv_sub hl [0, 1, 2] rfl)
  · have hf := if_t hq hf
    refine lv_aload_n hx hb dX5_takes_13 rfl (lv_at hl 0 rfl) ?_
    refine fg_X5_18 X hP dX5_takes_14 ?_
    refine lv_iload_n hx hb dX5_takes_17 rfl (lv_at hl 1 rfl) ?_
    obtain ⟨hi, x2, e_x2, hf⟩ := ld_some hf
    refine ldr (t0 := 0) X hP wC_23 rfl hi e_x2 dX5_takes_18 ?_
    refine lv_bipush (v := (-9)) hx hb dX5_takes_19 rfl ?_
    refine lv_icmp_eq (tgt := 28) hx hb dX5_takes_21 (by decide) (fun hq => ?_) (fun hq => ?_)
    · have hf := if_t hq hf
      exact b_X5_takes_B28 X hN hf hP hS (lv_sub hl [0, 1, 2] rfl)
    · have hf := if_f hq hf
      refine lv_iconst (v := 1) hx hb dX5_takes_24 rfl ?_
      refine lv_goto (tgt := 29) hx hb dX5_takes_25 (by decide) ?_
      exact b_X5_takes_B29 X hN hf hP hS (lv_sub hl [0, 1, 2] rfl)
set_option maxHeartbeats 4000000 in
set_option maxRecDepth 100000 in
theorem c_X5_takes {l : Launch} {D : va_G} {ad : Nat → Nat} {cI : ClassId} (hN : nj ad 34) {σ : St} {a1 a2 : Int32} {r : Int32} (hf : f_X5_takes a1 a2 σ = some r) : Met l yX5_takes (.code yX5_takes cX5_takes 7 (some .boolean) :: wsL_law) rm_X5_takes (va_Pc [.ref (ad 5), .int a1, .int a2] (pw D (wC ad cI) [(cI, .int)] σ)) (qI D (wC ad cI) (aw ad 34) r σ) 0 0 (aw ad 34) :=
  met_mk (by decide) rfl (Nat.le_of_ble_eq_true rfl) (fun p e s m below meth c X hP ls hl => b_X5_takes X hN hf hP va_S.rf hl)
set_option maxHeartbeats 4000000 in
set_option maxRecDepth 100000 in
theorem b_X5_takerFor_L5 (X : cx p s m meth c args cX5_takerFor 4 (some .int) RX5 D [(cI, .int)]) (hN : nj ad 34) : ∀ (n : Nat) {σ : St} {a1 a2 a3 : Int32} {r : Int32}, f_X5_takerFor_L5 σ n a1 a2 a3 = some r → ∀ {H : Heap} {locs : List Loc} {ls : Array Slot}, va_P D vwCl (wC ad cI σ) H → va_S (aw ad 34) s.heap H locs → lv_has ls 4 [(0, .ref (ad 5)), (1, .int a1), (2, .int a2), (3, .int a3)] → W p l e rm_X5_takerFor s m args below meth c H locs 0 0 (MQ below (qI D (wC ad cI) (aw ad 34) r σ) args s 0 0 (aw ad 34)) (F0 m 5 ls []) := by
  intro n
  induction n with
  | zero =>
    intro σ a1 a2 a3 r hf
    rw [f_X5_takerFor_L5] at hf
    cases hf
  | succ n ih =>
    intro σ a1 a2 a3 r hf H locs ls hP hS hl
    obtain ⟨hx, hb, hml, hown, hts, hr, hlk, hK⟩ := id X
    rw [f_X5_takerFor_L5] at hf
    refine lv_iload_n hx hb dX5_takerFor_5 rfl (lv_at hl 3 rfl) ?_
    refine lv_aload_n hx hb dX5_takerFor_6 rfl (lv_at hl 0 rfl) ?_
    refine fg_X5_30 X hP dX5_takerFor_7 ?_
    obtain ⟨x1, e_x1, hf⟩ := lf_some hf
    refine fg_X5_46 X hP e_x1 dX5_takerFor_10 ?_
    refine lv_icmp_ge (tgt := 60) hx hb dX5_takerFor_13 (by decide) (fun hq => ?_) (fun hq => ?_)
    · have hf := if_t hq hf
      refine lv_iload_n hx hb dX5_takerFor_60 rfl (lv_at hl 2 rfl) ?_
      exact rI X hP hS hf dX5_takerFor_61
    · have hf := if_f hq hf
      refine lv_aload_n hx hb dX5_takerFor_16 rfl (lv_at hl 0 rfl) ?_
      refine lv_iload_n hx hb dX5_takerFor_17 rfl (lv_at hl 3 rfl) ?_
      refine lv_iload_n hx hb dX5_takerFor_18 rfl (lv_at hl 1 rfl) ?_
      obtain ⟨x2, hc, hf⟩ := bi_some hf
      refine kVi (As := [.int a3, .int a1]) (rest := []) (wd := (wC ad cI)) (q0 := 5) (ci := 5) X (c_X5_takes (l := l) (D := D) (σ := σ) hN hc) (cw_X5_88 X.2.2.2.2.1 ⟨Nat.le_of_ble_eq_true rfl, Nat.le_of_ble_eq_true rfl⟩) rfl rfl hP hS hl rfl rfl (Nat.le_of_ble_eq_true rfl) dX5_takerFor_19 (fun H locs hP hS => ?_)
      refine lv_if_eq (tgt := 54) hx hb dX5_takerFor_22 (by decide) (fun hq => ?_) (fun hq => ?_)
      · have hf := if_t hq hf
        refine lv_iinc (v := (a3 + 1)) (lv' := [(3, .int (a3 + 1)), (0, .ref (ad 5)), (1, .int a1), (2, .int a2)]) hx hb dX5_takerFor_54 hl (k := 3) rfl rfl (by decide) rfl (fun ls hl => ?_)
        refine lv_goto (tgt := 5) hx hb dX5_takerFor_57 (by decide) ?_
        exact ih hf hP hS (lv_sub hl [1, 2, 3, 0] rfl)
      · have hf := if_f hq hf
        refine lv_iload_n hx hb dX5_takerFor_25 rfl (lv_at hl 2 rfl) ?_
        refine lv_bipush (v := (-9)) hx hb dX5_takerFor_26 rfl ?_
        refine lv_icmp_eq (tgt := 52) hx hb dX5_takerFor_28 (by decide) (fun hq => ?_) (fun hq => ?_)
        · have hf := if_t hq hf
          refine lv_iload_n hx hb dX5_takerFor_52 rfl (lv_at hl 3 rfl) ?_
          refine lv_istore_n (lv' := [(2, .int a3), (0, .ref (ad 5)), (1, .int a1), (3, .int a3)]) hx hb dX5_takerFor_53 rfl hl (by decide) rfl (fun ls hl => ?_)
          refine lv_iinc (v := (a3 + 1)) (lv' := [(3, .int (a3 + 1)), (2, .int a3), (0, .ref (ad 5)), (1, .int a1)]) hx hb dX5_takerFor_54 hl (k := 3) rfl rfl (by decide) rfl (fun ls hl => ?_)
          refine lv_goto (tgt := 5) hx hb dX5_takerFor_57 (by decide) ?_
          exact ih hf hP hS (lv_sub hl [2, 3, 1, 0] rfl)
        · have hf := if_f hq hf
          refine lv_aload_n hx hb dX5_takerFor_31 rfl (lv_at hl 0 rfl) ?_
          refine fg_X5_30 X hP dX5_takerFor_32 ?_
          refine fg_X5_91 X hP dX5_takerFor_35 ?_
          refine lv_iload_n hx hb dX5_takerFor_38 rfl (lv_at hl 3 rfl) ?_
          obtain ⟨hi, x3, e_x3, hf⟩ := ld_some hf
          refine ldr (t0 := 0) X hP wC_11 rfl hi e_x3 dX5_takerFor_39 ?_
          refine lv_aload_n hx hb dX5_takerFor_40 rfl (lv_at hl 0 rfl) ?_
          refine fg_X5_30 X hP dX5_takerFor_41 ?_
          refine fg_X5_91 X hP dX5_takerFor_44 ?_
          refine lv_iload_n hx hb dX5_takerFor_47 rfl (lv_at hl 2 rfl) ?_
          obtain ⟨hi, x4, e_x4, hf⟩ := ld_some hf
          refine ldr (t0 := 0) X hP wC_11 rfl hi e_x4 dX5_takerFor_48 ?_
          refine lv_icmp_ge (tgt := 54) hx hb dX5_takerFor_49 (by decide) (fun hq => ?_) (fun hq => ?_)
          · have hf := if_t hq hf
            refine lv_iinc (v := (a3 + 1)) (lv' := [(3, .int (a3 + 1)), (0, .ref (ad 5)), (1, .int a1), (2, .int a2)]) hx hb dX5_takerFor_54 hl (k := 3) rfl rfl (by decide) rfl (fun ls hl => ?_)
            refine lv_goto (tgt := 5) hx hb dX5_takerFor_57 (by decide) ?_
            exact ih hf hP hS (lv_sub hl [1, 2, 3, 0] rfl)
          · have hf := if_f hq hf
            refine lv_iload_n hx hb dX5_takerFor_52 rfl (lv_at hl 3 rfl) ?_
            refine lv_istore_n (lv' := [(2, .int a3), (0, .ref (ad 5)), (1, .int a1), (3, .int a3)]) hx hb dX5_takerFor_53 rfl hl (by decide) rfl (fun ls hl => ?_)
            refine lv_iinc (v := (a3 + 1)) (lv' := [(3, .int (a3 + 1)), (2, .int a3), (0, .ref (ad 5)), (1, .int a1)]) hx hb dX5_takerFor_54 hl (k := 3) rfl rfl (by decide) rfl (fun ls hl => ?_)
            refine lv_goto (tgt := 5) hx hb dX5_takerFor_57 (by decide) ?_
            exact ih hf hP hS (lv_sub hl [2, 3, 1, 0] rfl)
set_option maxHeartbeats 4000000 in
set_option maxRecDepth 100000 in
theorem b_X5_takerFor (X : cx p s m meth c args cX5_takerFor 4 (some .int) RX5 D [(cI, .int)]) (hN : nj ad 34) {σ : St} {a1 : Int32} {r : Int32} (hf : f_X5_takerFor a1 σ = some r) {H : Heap} {locs : List Loc} {ls : Array Slot} (hP : va_P D vwCl (wC ad cI σ) H) (hS : va_S (aw ad 34) s.heap H locs) (hl : lv_has ls 4 [(0, .ref (ad 5)), (1, .int a1)]) : W p l e rm_X5_takerFor s m args below meth c H locs 0 0 (MQ below (qI D (wC ad cI) (aw ad 34) r σ) args s 0 0 (aw ad 34)) (F0 m 0 ls []) := by
  obtain ⟨hx, hb, hml, hown, hts, hr, hlk, hK⟩ := id X
  rw [f_X5_takerFor] at hf
  refine lv_bipush (v := (-9)) hx hb dX5_takerFor_0 rfl ?_
  refine lv_istore_n (lv' := [(2, .int (-9)), (0, .ref (ad 5)), (1, .int a1)]) hx hb dX5_takerFor_2 rfl hl (by decide) rfl (fun ls hl => ?_)
  refine lv_iconst (v := 0) hx hb dX5_takerFor_3 rfl ?_
  refine lv_istore_n (lv' := [(3, .int 0), (2, .int (-9)), (0, .ref (ad 5)), (1, .int a1)]) hx hb dX5_takerFor_4 rfl hl (by decide) rfl (fun ls hl => ?_)
  exact b_X5_takerFor_L5 X hN _ hf hP hS (lv_sub hl [2, 3, 1, 0] rfl)
set_option maxHeartbeats 4000000 in
set_option maxRecDepth 100000 in
theorem c_X5_takerFor {l : Launch} {D : va_G} {ad : Nat → Nat} {cI : ClassId} (hN : nj ad 34) {σ : St} {a1 : Int32} {r : Int32} (hf : f_X5_takerFor a1 σ = some r) : Met l yX5_takerFor (.code yX5_takerFor cX5_takerFor 4 (some .int) :: wsL_law) rm_X5_takerFor (va_Pc [.ref (ad 5), .int a1] (pw D (wC ad cI) [(cI, .int)] σ)) (qI D (wC ad cI) (aw ad 34) r σ) 0 0 (aw ad 34) :=
  met_mk (by decide) rfl (Nat.le_of_ble_eq_true rfl) (fun p e s m below meth c X hP ls hl => b_X5_takerFor X hN hf hP va_S.rf hl)
end WALK
