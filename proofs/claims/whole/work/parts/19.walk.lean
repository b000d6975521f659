section WALK
variable {p : Program} {l : Launch} {e : Env} {s : State} {m : MethodId} {args : Array Value} {below : List Frame} {meth : Method} {c : Code} {D : va_G} {ad : Nat → Nat} {cI cZ : ClassId}
set_option maxHeartbeats 4000000 in
set_option maxRecDepth 100000 in
theorem b_X7_text (X : cx p s m meth c args cX7_text 4 (some .int) RX7 D [(cI, .int), (cZ, .boolean)]) (hN : nj ad 30) {σ : St} {a1 a2 : Int32} {r : Int32} {σ' : St} (hf : f_X7_text a1 a2 σ = some (r, σ')) {H : Heap} {locs : List Loc} {ls : Array Slot} (hP : va_P D vwCl (wM ad cI cZ σ) H) (hS : va_S (aw ad 30) s.heap H locs) (hl : lv_has ls 4 [(0, .ref (ad 0)), (1, .int a1), (2, .int a2)]) : W p l e rm_X7_text s m args below meth c H locs 0 0 (MQ below (qI D (wM ad cI cZ) (aw ad 30) r σ') args s 0 0 (aw ad 30)) (F0 m 0 ls []) := by
  obtain ⟨hx, hb, hml, hown, hts, hr, hlk, hK⟩ := id X
  rw [f_X7_text] at hf
  refine lv_aload_n hx hb dX7_text_0 rfl (lv_at hl 0 rfl) ?_
  refine lv_iload_n hx hb dX7_text_1 rfl (lv_at hl 1 rfl) ?_
  obtain ⟨x1, σ2, hc, hf⟩ := bp_some hf
  refine kVi (As := [.int a1]) (rest := []) (wd := (wM ad cI cZ)) (q0 := 0) (ci := 7) X (c_X7_isStory (l := l) (D := D) (σ := σ) hN hc) (cw_X7_181 X.2.2.2.2.1 ⟨Nat.le_of_ble_eq_true rfl, Nat.le_of_ble_eq_true rfl⟩) rfl rfl hP hS hl rfl rfl (Nat.le_of_ble_eq_true rfl) dX7_text_2 (fun H locs hP hS => ?_)
  refine lv_if_ne (tgt := 10) hx hb dX7_text_5 (by decide) (fun hq => ?_) (fun hq => ?_)
  · have hf := if_f hq hf
    refine lv_iload_n hx hb dX7_text_10 rfl (lv_at hl 2 rfl) ?_
    refine lv_iconst (v := 0) hx hb dX7_text_11 rfl ?_
    refine lv_bipush (v := 23) hx hb dX7_text_12 rfl ?_
    obtain ⟨x3, hc, hf⟩ := bi_some hf
    refine kSi (As := [.int a2, .int 0, .int 23]) (rest := []) (wd := (wM ad cI cZ)) X (c_X7_within (l := l) (D := D) (σ := σ2) hN hc) (cw_X7_102 X.2.2.2.2.1 ⟨Nat.le_of_ble_eq_true rfl, Nat.le_of_ble_eq_true rfl⟩) hP hS hl rfl rfl (Nat.le_of_ble_eq_true rfl) dX7_text_14 (fun H locs hP hS => ?_)
    refine lv_if_ne (tgt := 23) hx hb dX7_text_17 (by decide) (fun hq => ?_) (fun hq => ?_)
    · have hf := if_f hq hf
      refine lv_aload_n hx hb dX7_text_23 rfl (lv_at hl 0 rfl) ?_
      refine fg_X7_67 X hP dX7_text_24 ?_
      refine lv_iload_n hx hb dX7_text_27 rfl (lv_at hl 1 rfl) ?_
      obtain ⟨hi, x4, e_x4, hf⟩ := ld_some hf
      refine ldr (t0 := 0) X hP wM_20 rfl hi e_x4 dX7_text_28 ?_
      refine lv_istore_n (lv' := [(3, .int x4), (0, .ref (ad 0)), (1, .int a1), (2, .int a2)]) hx hb dX7_text_29 rfl hl (by decide) rfl (fun ls hl => ?_)
      refine lv_iload_n hx hb dX7_text_30 rfl (lv_at hl 3 rfl) ?_
      refine lv_aload_n hx hb dX7_text_31 rfl (lv_at hl 1 rfl) ?_
      refine fg_X7_61 X hP dX7_text_32 ?_
      refine lv_iload_n hx hb dX7_text_35 rfl (lv_at hl 0 rfl) ?_
      obtain ⟨hi, x5, e_x5, hf⟩ := ld_some hf
      refine ldr (t0 := 0) X hP wM_18 rfl hi e_x5 dX7_text_36 ?_
      refine lv_icmp_ge (tgt := 54) hx hb dX7_text_37 (by decide) (fun hq => ?_) (fun hq => ?_)
      · have hf := if_t hq hf
        refine lv_bipush (v := (-9)) hx hb dX7_text_54 rfl ?_
        exact rIe X hP hS hf dX7_text_56
      · have hf := if_f hq hf
        refine lv_aload_n hx hb dX7_text_40 rfl (lv_at hl 1 rfl) ?_
        refine fg_X7_64 X hP dX7_text_41 ?_
        refine lv_bipush (v := 24) hx hb dX7_text_44 rfl ?_
        refine lv_iload_n hx hb dX7_text_46 rfl (lv_at hl 0 rfl) ?_
        refine lv_imul hx hb dX7_text_47 ?_
        refine lv_iload_n hx hb dX7_text_48 rfl (lv_at hl 3 rfl) ?_
        refine lv_iadd hx hb dX7_text_49 ?_
        obtain ⟨hi, x6, e_x6, hf⟩ := ld_some hf
        refine ldr (t0 := 0) X hP wM_19 rfl hi e_x6 dX7_text_50 ?_
        refine lv_goto (tgt := 56) hx hb dX7_text_51 (by decide) ?_
        exact rIe X hP hS hf dX7_text_56
    · have hf := if_t hq hf
      refine lv_bipush (v := (-2)) hx hb dX7_text_20 rfl ?_
      exact rIe X hP hS hf dX7_text_22
  · have hf := if_t hq hf
    refine lv_iconst (v := (-1)) hx hb dX7_text_8 rfl ?_
    exact rIe X hP hS hf dX7_text_9
set_option maxHeartbeats 4000000 in
set_option maxRecDepth 100000 in
theorem c_X7_text {l : Launch} {D : va_G} {ad : Nat → Nat} {cI cZ : ClassId} (hN : nj ad 30) {σ : St} {a1 a2 : Int32} {r : Int32} {σ' : St} (hf : f_X7_text a1 a2 σ = some (r, σ')) : Met l yX7_text (.code yX7_text cX7_text 4 (some .int) :: wsL_law) rm_X7_text (va_Pc [.ref (ad 0), .int a1, .int a2] (pw D (wM ad cI cZ) [(cI, .int), (cZ, .boolean)] σ)) (qI D (wM ad cI cZ) (aw ad 30) r σ') 0 0 (aw ad 30) :=
  met_mk (by decide) rfl (Nat.le_of_ble_eq_true rfl) (fun p e s m below meth c X hP ls hl => b_X7_text X hN hf hP va_S.rf hl)
set_option maxHeartbeats 4000000 in
set_option maxRecDepth 100000 in
theorem b_X7_isArticle (X : cx p s m meth c args cX7_isArticle 2 (some .boolean) RX7 D [(cI, .int), (cZ, .boolean)]) (hN : nj ad 30) {σ : St} {a1 : Int32} {r : Int32} {σ' : St} (hf : f_X7_isArticle a1 σ = some (r, σ')) {H : Heap} {locs : List Loc} {ls : Array Slot} (hP : va_P D vwCl (wM ad cI cZ σ) H) (hS : va_S (aw ad 30) s.heap H locs) (hl : lv_has ls 2 [(0, .ref (ad 0)), (1, .int a1)]) : W p l e rm_X7_isArticle s m args below meth c H locs 0 0 (MQ below (qI D (wM ad cI cZ) (aw ad 30) r σ') args s 0 0 (aw ad 30)) (F0 m 0 ls []) := by
  obtain ⟨hx, hb, hml, hown, hts, hr, hlk, hK⟩ := id X
  rw [f_X7_isArticle] at hf
  refine lv_aload_n hx hb dX7_isArticle_0 rfl (lv_at hl 0 rfl) ?_
  obtain ⟨σ1, hc, hf⟩ := bs_some hf
  refine kVv (As := []) (rest := []) (wd := (wM ad cI cZ)) (q0 := 0) (ci := 7) X (c_X7_findArticles (l := l) (D := D) (σ := σ) hN hc) (cw_X7_178 X.2.2.2.2.1 ⟨Nat.le_of_ble_eq_true rfl, Nat.le_of_ble_eq_true rfl⟩) rfl rfl hP hS hl rfl rfl (Nat.le_of_ble_eq_true rfl) dX7_isArticle_1 (fun H locs hP hS => ?_)
  refine lv_iload_n hx hb dX7_isArticle_4 rfl (lv_at hl 1 rfl) ?_
  refine lv_iconst (v := 0) hx hb dX7_isArticle_5 rfl ?_
  refine lv_aload_n hx hb dX7_isArticle_6 rfl (lv_at hl 0 rfl) ?_
  obtain ⟨x2, e_x2, hf⟩ := lf_some hf
  refine fg_X7_162 X hP e_x2 dX7_isArticle_7 ?_
  refine lv_iconst (v := 1) hx hb dX7_isArticle_10 rfl ?_
  refine lv_isub hx hb dX7_isArticle_11 ?_
  obtain ⟨x3, hc, hf⟩ := bi_some hf
  refine kSi (As := [.int a1, .int 0, .int (x2 - 1)]) (rest := []) (wd := (wM ad cI cZ)) X (c_X7_within (l := l) (D := D) (σ := σ1) hN hc) (cw_X7_102 X.2.2.2.2.1 ⟨Nat.le_of_ble_eq_true rfl, Nat.le_of_ble_eq_true rfl⟩) hP hS hl rfl rfl (Nat.le_of_ble_eq_true rfl) dX7_isArticle_12 (fun H locs hP hS => ?_)
  exact rZe X hP hS hf dX7_isArticle_15
set_option maxHeartbeats 4000000 in
set_option maxRecDepth 100000 in
theorem c_X7_isArticle {l : Launch} {D : va_G} {ad : Nat → Nat} {cI cZ : ClassId} (hN : nj ad 30) {σ : St} {a1 : Int32} {r : Int32} {σ' : St} (hf : f_X7_isArticle a1 σ = some (r, σ')) : Met l yX7_isArticle (.code yX7_isArticle cX7_isArticle 2 (some .boolean) :: wsL_law) rm_X7_isArticle (va_Pc [.ref (ad 0), .int a1] (pw D (wM ad cI cZ) [(cI, .int), (cZ, .boolean)] σ)) (qI D (wM ad cI cZ) (aw ad 30) r σ') 0 0 (aw ad 30) :=
  met_mk (by decide) rfl (Nat.le_of_ble_eq_true rfl) (fun p e s m below meth c X hP ls hl => b_X7_isArticle X hN hf hP va_S.rf hl)
set_option maxHeartbeats 4000000 in
set_option maxRecDepth 100000 in
theorem b_X7_sumOf_L10 (X : cx p s m meth c args cX7_sumOf 5 (some .int) RX7 D [(cI, .int), (cZ, .boolean)]) (hN : nj ad 30) : ∀ (n : Nat) {σ : St} {a1 a2 a3 a4 : Int32} {r : Int32}, f_X7_sumOf_L10 σ n a1 a2 a3 a4 = some r → ∀ {H : Heap} {locs : List Loc} {ls : Array Slot}, va_P D vwCl (wM ad cI cZ σ) H → va_S (aw ad 30) s.heap H locs → lv_has ls 5 [(0, .ref (ad 0)), (1, .int a1), (2, .int a2), (3, .int a3), (4, .int a4)] → W p l e rm_X7_sumOf s m args below meth c H locs 0 0 (MQ below (qI D (wM ad cI cZ) (aw ad 30) r σ) args s 0 0 (aw ad 30)) (F0 m 10 ls []) := by
  intro n
  induction n with
  | zero =>
    intro σ a1 a2 a3 a4 r hf
    rw [f_X7_sumOf_L10] at hf
    cases hf
  | succ n ih =>
    intro σ a1 a2 a3 a4 r hf H locs ls hP hS hl
    obtain ⟨hx, hb, hml, hown, hts, hr, hlk, hK⟩ := id X
    rw [f_X7_sumOf_L10] at hf
    refine lv_iload hx hb dX7_sumOf_10 (lv_at hl 4 rfl) ?_
    refine lv_aload_n hx hb dX7_sumOf_12 rfl (lv_at hl 0 rfl) ?_
    refine fg_X7_86 X hP dX7_sumOf_13 ?_
    refine lv_iload_n hx hb dX7_sumOf_16 rfl (lv_at hl 1 rfl) ?_
    refine lv_iconst (v := 1) hx hb dX7_sumOf_17 rfl ?_
    refine lv_iadd hx hb dX7_sumOf_18 ?_
    obtain ⟨hi, x1, e_x1, hf⟩ := ld_some hf
    refine ldr (t0 := 0) X hP wM_26 rfl hi e_x1 dX7_sumOf_19 ?_
    refine lv_icmp_ge (tgt := 67) hx hb dX7_sumOf_20 (by decide) (fun hq => ?_) (fun hq => ?_)
    · have hf := if_t hq hf
      refine lv_iload_n hx hb dX7_sumOf_67 rfl (lv_at hl 3 rfl) ?_
      exact rI X hP hS hf dX7_sumOf_68
    · have hf := if_f hq hf
      refine lv_iload_n hx hb dX7_sumOf_23 rfl (lv_at hl 3 rfl) ?_
      refine lv_iload_n hx hb dX7_sumOf_24 rfl (lv_at hl 2 rfl) ?_
      refine lv_if_eq (tgt := 42) hx hb dX7_sumOf_25 (by decide) (fun hq => ?_) (fun hq => ?_)
      · have hf := if_t hq hf
        refine lv_aload_n hx hb dX7_sumOf_42 rfl (lv_at hl 0 rfl) ?_
        refine fg_X7_61 X hP dX7_sumOf_43 ?_
        refine lv_aload_n hx hb dX7_sumOf_46 rfl (lv_at hl 0 rfl) ?_
        refine fg_X7_67 X hP dX7_sumOf_47 ?_
        refine lv_aload_n hx hb dX7_sumOf_50 rfl (lv_at hl 0 rfl) ?_
        refine fg_X7_92 X hP dX7_sumOf_51 ?_
        refine lv_iload hx hb dX7_sumOf_54 (lv_at hl 4 rfl) ?_
        obtain ⟨hi, x2, e_x2, hf⟩ := ld_some hf
        refine ldr (t0 := 0) X hP wM_28 rfl hi e_x2 dX7_sumOf_56 ?_
        obtain ⟨hi, x3, e_x3, hf⟩ := ld_some hf
        refine ldr (t0 := 0) X hP wM_20 rfl hi e_x3 dX7_sumOf_57 ?_
        obtain ⟨hi, x4, e_x4, hf⟩ := ld_some hf
        refine ldr (t0 := 0) X hP wM_18 rfl hi e_x4 dX7_sumOf_58 ?_
        refine lv_iadd hx hb dX7_sumOf_59 ?_
        refine lv_istore_n (lv' := [(3, .int (a3 + x4)), (0, .ref (ad 0)), (1, .int a1), (2, .int a2), (4, .int a4)]) hx hb dX7_sumOf_60 rfl hl (by decide) rfl (fun ls hl => ?_)
        refine lv_iinc (v := (a4 + 1)) (lv' := [(4, .int (a4 + 1)), (3, .int (a3 + x4)), (0, .ref (ad 0)), (1, .int a1), (2, .int a2)]) hx hb dX7_sumOf_61 hl (k := 4) rfl rfl (by decide) rfl (fun ls hl => ?_)
        refine lv_goto (tgt := 10) hx hb dX7_sumOf_64 (by decide) ?_
        exact ih hf hP hS (lv_sub hl [2, 3, 4, 1, 0] rfl)
      · have hf := if_f hq hf
        refine lv_aload_n hx hb dX7_sumOf_28 rfl (lv_at hl 0 rfl) ?_
        refine lv_aload_n hx hb dX7_sumOf_29 rfl (lv_at hl 0 rfl) ?_
        refine fg_X7_92 X hP dX7_sumOf_30 ?_
        refine lv_iload hx hb dX7_sumOf_33 (lv_at hl 4 rfl) ?_
        obtain ⟨hi, x5, e_x5, hf⟩ := ld_some hf
        refine ldr (t0 := 0) X hP wM_28 rfl hi e_x5 dX7_sumOf_35 ?_
        obtain ⟨x6, hc, hf⟩ := bi_some hf
        refine kVi (As := [.int x5]) (rest := [.int a3]) (wd := (wM ad cI cZ)) (q0 := 0) (ci := 7) X (c_X7_wordsIn (l := l) (D := D) (σ := σ) hN hc) (cw_X7_184 X.2.2.2.2.1 ⟨Nat.le_of_ble_eq_true rfl, Nat.le_of_ble_eq_true rfl⟩) rfl rfl hP hS hl rfl rfl (Nat.le_of_ble_eq_true rfl) dX7_sumOf_36 (fun H locs hP hS => ?_)
        refine lv_goto (tgt := 59) hx hb dX7_sumOf_39 (by decide) ?_
        refine lv_iadd hx hb dX7_sumOf_59 ?_
        refine lv_istore_n (lv' := [(3, .int (a3 + x6)), (0, .ref (ad 0)), (1, .int a1), (2, .int a2), (4, .int a4)]) hx hb dX7_sumOf_60 rfl hl (by decide) rfl (fun ls hl => ?_)
        refine lv_iinc (v := (a4 + 1)) (lv' := [(4, .int (a4 + 1)), (3, .int (a3 + x6)), (0, .ref (ad 0)), (1, .int a1), (2, .int a2)]) hx hb dX7_sumOf_61 hl (k := 4) rfl rfl (by decide) rfl (fun ls hl => ?_)
        refine lv_goto (tgt := 10) hx hb dX7_sumOf_64 (by decide) ?_
        exact ih hf hP hS (lv_sub hl [2, 3, 4, 1, 0] rfl)
set_option maxHeartbeats 4000000 in
set_option maxRecDepth 100000 in
theorem b_X7_sumOf (X : cx p s m meth c args cX7_sumOf 5 (some .int) RX7 D [(cI, .int), (cZ, .boolean)]) (hN : nj ad 30) {σ : St} {a1 a2 : Int32} {r : Int32} (hf : f_X7_sumOf a1 a2 σ = some r) {H : Heap} {locs : List Loc} {ls : Array Slot} (hP : va_P D vwCl (wM ad cI cZ σ) H) (hS : va_S (aw ad 30) s.heap H locs) (hl : lv_has ls 5 [(0, .ref (ad 0)), (1, .int a1), (2, .int a2)]) : W p l e rm_X7_sumOf s m args below meth c H locs 0 0 (MQ below (qI D (wM ad cI cZ) (aw ad 30) r σ) args s 0 0 (aw ad 30)) (F0 m 0 ls []) := by
  obtain ⟨hx, hb, hml, hown, hts, hr, hlk, hK⟩ := id X
  rw [f_X7_sumOf] at hf
  refine lv_iconst (v := 0) hx hb dX7_sumOf_0 rfl ?_
  refine lv_istore_n (lv' := [(3, .int 0), (0, .ref (ad 0)), (1, .int a1), (2, .int a2)]) hx hb dX7_sumOf_1 rfl hl (by decide) rfl (fun ls hl => ?_)
  refine lv_aload_n hx hb dX7_sumOf_2 rfl (lv_at hl 1 rfl) ?_
  refine fg_X7_86 X hP dX7_sumOf_3 ?_
  refine lv_iload_n hx hb dX7_sumOf_6 rfl (lv_at hl 2 rfl) ?_
  obtain ⟨hi, x1, e_x1, hf⟩ := ld_some hf
  refine ldr (t0 := 0) X hP wM_26 rfl hi e_x1 dX7_sumOf_7 ?_
  refine lv_istore (lv' := [(4, .int x1), (3, .int 0), (0, .ref (ad 0)), (1, .int a1), (2, .int a2)]) hx hb dX7_sumOf_8 hl (by decide) rfl (fun ls hl => ?_)
  exact b_X7_sumOf_L10 X hN _ hf hP hS (lv_sub hl [2, 3, 4, 1, 0] rfl)
set_option maxHeartbeats 4000000 in
set_option maxRecDepth 100000 in
theorem c_X7_sumOf {l : Launch} {D : va_G} {ad : Nat → Nat} {cI cZ : ClassId} (hN : nj ad 30) {σ : St} {a1 a2 : Int32} {r : Int32} (hf : f_X7_sumOf a1 a2 σ = some r) : Met l yX7_sumOf (.code yX7_sumOf cX7_sumOf 5 (some .int) :: wsL_law) rm_X7_sumOf (va_Pc [.ref (ad 0), .int a1, .int a2] (pw D (wM ad cI cZ) [(cI, .int), (cZ, .boolean)] σ)) (qI D (wM ad cI cZ) (aw ad 30) r σ) 0 0 (aw ad 30) :=
  met_mk (by decide) rfl (Nat.le_of_ble_eq_true rfl) (fun p e s m below meth c X hP ls hl => b_X7_sumOf X hN hf hP va_S.rf hl)
set_option maxHeartbeats 4000000 in
set_option maxRecDepth 100000 in
theorem b_X7_pagesOf_B42 (X : cx p s m meth c args cX7_pagesOf 5 (some .int) RX7 D [(cI, .int), (cZ, .boolean)]) (hN : nj ad 30) {σ : St} {a1 a2 a3 t0 : Int32} {r : Int32} {K : Int32 → Int32 → Int32 → Option Int32} (hk : ∀ {b1 b2 b3 : Int32} {H : Heap} {locs : List Loc} {ls : Array Slot}, K b1 b2 b3 = some r → va_P D vwCl (wM ad cI cZ σ) H → va_S (aw ad 30) s.heap H locs → lv_has ls 5 [(0, .ref (ad 0)), (1, .int b1), (2, .int b2), (3, .int b3)] → W p l e rm_X7_pagesOf s m args below meth c H locs 0 0 (MQ below (qI D (wM ad cI cZ) (aw ad 30) r σ) args s 0 0 (aw ad 30)) (F0 m 4 ls [])) (hf : f_X7_pagesOf_B42 σ K a1 a2 a3 t0 = some r) {H : Heap} {locs : List Loc} {ls : Array Slot} (hP : va_P D vwCl (wM ad cI cZ σ) H) (hS : va_S (aw ad 30) s.heap H locs) (hl : lv_has ls 5 [(0, .ref (ad 0)), (1, .int a1), (2, .int a2), (3, .int a3)]) : W p l e rm_X7_pagesOf s m args below meth c H locs 0 0 (MQ below (qI D (wM ad cI cZ) (aw ad 30) r σ) args s 0 0 (aw ad 30)) (F0 m 42 ls [.int t0]) := by
  obtain ⟨hx, hb, hml, hown, hts, hr, hlk, hK⟩ := id X
  rw [f_X7_pagesOf_B42] at hf
  refine lv_istore (lv' := [(4, .int t0), (0, .ref (ad 0)), (1, .int a1), (2, .int a2), (3, .int a3)]) hx hb dX7_pagesOf_42 hl (by decide) rfl (fun ls hl => ?_)
  refine lv_iload_n hx hb dX7_pagesOf_44 rfl (lv_at hl 3 rfl) ?_
  refine lv_iload hx hb dX7_pagesOf_45 (lv_at hl 0 rfl) ?_
  refine lv_if_eq (tgt := 61) hx hb dX7_pagesOf_47 (by decide) (fun hq => ?_) (fun hq => ?_)
  · have hf := if_t hq hf
    refine lv_iconst (v := 0) hx hb dX7_pagesOf_61 rfl ?_
    refine lv_ior hx hb dX7_pagesOf_62 ?_
    refine lv_istore_n (lv' := [(2, .int (a2 ||| 0)), (4, .int t0), (0, .ref (ad 0)), (1, .int a1), (3, .int a3)]) hx hb dX7_pagesOf_63 rfl hl (by decide) rfl (fun ls hl => ?_)
    refine lv_iinc (v := (a3 + 1)) (lv' := [(3, .int (a3 + 1)), (2, .int (a2 ||| 0)), (4, .int t0), (0, .ref (ad 0)), (1, .int a1)]) hx hb dX7_pagesOf_64 hl (k := 4) rfl rfl (by decide) rfl (fun ls hl => ?_)
    refine lv_goto (tgt := 4) hx hb dX7_pagesOf_67 (by decide) ?_
    exact hk hf hP hS (lv_sub hl [3, 4, 1, 0] rfl)
  · have hf := if_f hq hf
    refine lv_iconst (v := 1) hx hb dX7_pagesOf_50 rfl ?_
    refine lv_aload_n hx hb dX7_pagesOf_51 rfl (lv_at hl 1 rfl) ?_
    refine fg_X7_7 X hP dX7_pagesOf_52 ?_
    refine lv_iload_n hx hb dX7_pagesOf_55 rfl (lv_at hl 4 rfl) ?_
    obtain ⟨hi, x1, e_x1, hf⟩ := ld_some hf
    refine ldr (t0 := 0) X hP wM_1 rfl hi e_x1 dX7_pagesOf_56 ?_
    refine lv_ishl hx hb dX7_pagesOf_57 ?_
    refine lv_goto (tgt := 62) hx hb dX7_pagesOf_58 (by decide) ?_
    refine lv_ior hx hb dX7_pagesOf_62 ?_
    refine lv_istore_n (lv' := [(2, .int (a2 ||| (1 <<< (x1 &&& 31)))), (4, .int t0), (0, .ref (ad 0)), (1, .int a1), (3, .int a3)]) hx hb dX7_pagesOf_63 rfl hl (by decide) rfl (fun ls hl => ?_)
    refine lv_iinc (v := (a3 + 1)) (lv' := [(3, .int (a3 + 1)), (2, .int (a2 ||| (1 <<< (x1 &&& 31)))), (4, .int t0), (0, .ref (ad 0)), (1, .int a1)]) hx hb dX7_pagesOf_64 hl (k := 4) rfl rfl (by decide) rfl (fun ls hl => ?_)
    refine lv_goto (tgt := 4) hx hb dX7_pagesOf_67 (by decide) ?_
    exact hk hf hP hS (lv_sub hl [3, 4, 1, 0] rfl)
set_option maxHeartbeats 4000000 in
set_option maxRecDepth 100000 in
theorem b_X7_pagesOf_B41 (X : cx p s m meth c args cX7_pagesOf 5 (some .int) RX7 D [(cI, .int), (cZ, .boolean)]) (hN : nj ad 30) {σ : St} {a1 a2 a3 : Int32} {r : Int32} {K : Int32 → Int32 → Int32 → Option Int32} (hk : ∀ {b1 b2 b3 : Int32} {H : Heap} {locs : List Loc} {ls : Array Slot}, K b1 b2 b3 = some r → va_P D vwCl (wM ad cI cZ σ) H → va_S (aw ad 30) s.heap H locs → lv_has ls 5 [(0, .ref (ad 0)), (1, .int b1), (2, .int b2), (3, .int b3)] → W p l e rm_X7_pagesOf s m args below meth c H locs 0 0 (MQ below (qI D (wM ad cI cZ) (aw ad 30) r σ) args s 0 0 (aw ad 30)) (F0 m 4 ls [])) (hf : f_X7_pagesOf_B41 σ K a1 a2 a3 = some r) {H : Heap} {locs : List Loc} {ls : Array Slot} (hP : va_P D vwCl (wM ad cI cZ σ) H) (hS : va_S (aw ad 30) s.heap H locs) (hl : lv_has ls 5 [(0, .ref (ad 0)), (1, .int a1), (2, .int a2), (3, .int a3)]) : W p l e rm_X7_pagesOf s m args below meth c H locs 0 0 (MQ below (qI D (wM ad cI cZ) (aw ad 30) r σ) args s 0 0 (aw ad 30)) (F0 m 41 ls []) := by
  obtain ⟨hx, hb, hml, hown, hts, hr, hlk, hK⟩ := id X
  rw [f_X7_pagesOf_B41] at hf
  refine lv_iconst (v := 0) hx hb dX7_pagesOf_41 rfl ?_
  exact b_X7_pagesOf_B42 X hN hk hf hP hS (lv_sub hl [0, 1, 2, 3] rfl)
set_option maxHeartbeats 4000000 in
set_option maxRecDepth 100000 in
theorem b_X7_pagesOf_L4 (X : cx p s m meth c args cX7_pagesOf 5 (some .int) RX7 D [(cI, .int), (cZ, .boolean)]) (hN : nj ad 30) : ∀ (n : Nat) {σ : St} {a1 a2 a3 : Int32} {r : Int32}, f_X7_pagesOf_L4 σ n a1 a2 a3 = some r → ∀ {H : Heap} {locs : List Loc} {ls : Array Slot}, va_P D vwCl (wM ad cI cZ σ) H → va_S (aw ad 30) s.heap H locs → lv_has ls 5 [(0, .ref (ad 0)), (1, .int a1), (2, .int a2), (3, .int a3)] → W p l e rm_X7_pagesOf s m args below meth c H locs 0 0 (MQ below (qI D (wM ad cI cZ) (aw ad 30) r σ) args s 0 0 (aw ad 30)) (F0 m 4 ls []) := by
  intro n
  induction n with
  | zero =>
    intro σ a1 a2 a3 r hf
    rw [f_X7_pagesOf_L4] at hf
    cases hf
  | succ n ih =>
    intro σ a1 a2 a3 r hf H locs ls hP hS hl
    obtain ⟨hx, hb, hml, hown, hts, hr, hlk, hK⟩ := id X
    rw [f_X7_pagesOf_L4] at hf
    refine lv_iload_n hx hb dX7_pagesOf_4 rfl (lv_at hl 3 rfl) ?_
    refine lv_aload_n hx hb dX7_pagesOf_5 rfl (lv_at hl 0 rfl) ?_
    obtain ⟨x1, e_x1, hf⟩ := lf_some hf
    refine fg_X7_98 X hP e_x1 dX7_pagesOf_6 ?_
    refine lv_icmp_ge (tgt := 70) hx hb dX7_pagesOf_9 (by decide) (fun hq => ?_) (fun hq => ?_)
    · have hf := if_t hq hf
      refine lv_iload_n hx hb dX7_pagesOf_70 rfl (lv_at hl 2 rfl) ?_
      exact rI X hP hS hf dX7_pagesOf_71
    · have hf := if_f hq hf
      refine lv_aload_n hx hb dX7_pagesOf_12 rfl (lv_at hl 0 rfl) ?_
      refine fg_X7_13 X hP dX7_pagesOf_13 ?_
      refine lv_iload_n hx hb dX7_pagesOf_16 rfl (lv_at hl 3 rfl) ?_
      obtain ⟨hi, x2, e_x2, hf⟩ := ld_some hf
      refine ldr (t0 := 0) X hP wM_2 rfl hi e_x2 dX7_pagesOf_17 ?_
      refine lv_iconst (v := 2) hx hb dX7_pagesOf_18 rfl ?_
      refine lv_icmp_eq (tgt := 41) hx hb dX7_pagesOf_19 (by decide) (fun hq => ?_) (fun hq => ?_)
      · have hf := if_t hq hf
        exact b_X7_pagesOf_B41 X hN (fun hf hP hS hl => ih hf hP hS hl) hf hP hS (lv_sub hl [0, 1, 2, 3] rfl)
      · have hf := if_f hq hf
        refine lv_aload_n hx hb dX7_pagesOf_22 rfl (lv_at hl 0 rfl) ?_
        refine fg_X7_95 X hP dX7_pagesOf_23 ?_
        refine lv_aload_n hx hb dX7_pagesOf_26 rfl (lv_at hl 0 rfl) ?_
        refine fg_X7_70 X hP dX7_pagesOf_27 ?_
        refine lv_iload_n hx hb dX7_pagesOf_30 rfl (lv_at hl 3 rfl) ?_
        obtain ⟨hi, x3, e_x3, hf⟩ := ld_some hf
        refine ldr (t0 := 0) X hP wM_21 rfl hi e_x3 dX7_pagesOf_31 ?_
        obtain ⟨hi, x4, e_x4, hf⟩ := ld_some hf
        refine ldr (t0 := 0) X hP wM_29 rfl hi e_x4 dX7_pagesOf_32 ?_
        refine lv_iload_n hx hb dX7_pagesOf_33 rfl (lv_at hl 1 rfl) ?_
        refine lv_icmp_ne (tgt := 41) hx hb dX7_pagesOf_34 (by decide) (fun hq => ?_) (fun hq => ?_)
        · have hf := if_f hq hf
          exact b_X7_pagesOf_B41 X hN (fun hf hP hS hl => ih hf hP hS hl) hf hP hS (lv_sub hl [0, 1, 2, 3] rfl)
        · have hf := if_t hq hf
          refine lv_iconst (v := 1) hx hb dX7_pagesOf_37 rfl ?_
          refine lv_goto (tgt := 42) hx hb dX7_pagesOf_38 (by decide) ?_
          exact b_X7_pagesOf_B42 X hN (fun hf hP hS hl => ih hf hP hS hl) hf hP hS (lv_sub hl [0, 1, 2, 3] rfl)
set_option maxHeartbeats 4000000 in
set_option maxRecDepth 100000 in
theorem b_X7_pagesOf (X : cx p s m meth c args cX7_pagesOf 5 (some .int) RX7 D [(cI, .int), (cZ, .boolean)]) (hN : nj ad 30) {σ : St} {a1 : Int32} {r : Int32} (hf : f_X7_pagesOf a1 σ = some r) {H : Heap} {locs : List Loc} {ls : Array Slot} (hP : va_P D vwCl (wM ad cI cZ σ) H) (hS : va_S (aw ad 30) s.heap H locs) (hl : lv_has ls 5 [(0, .ref (ad 0)), (1, .int a1)]) : W p l e rm_X7_pagesOf s m args below meth c H locs 0 0 (MQ below (qI D (wM ad cI cZ) (aw ad 30) r σ) args s 0 0 (aw ad 30)) (F0 m 0 ls []) := by
  obtain ⟨hx, hb, hml, hown, hts, hr, hlk, hK⟩ := id X
  rw [f_X7_pagesOf] at hf
  refine lv_iconst (v := 0) hx hb dX7_pagesOf_0 rfl ?_
  refine lv_istore_n (lv' := [(2, .int 0), (0, .ref (ad 0)), (1, .int a1)]) hx hb dX7_pagesOf_1 rfl hl (by decide) rfl (fun ls hl => ?_)
  refine lv_iconst (v := 0) hx hb dX7_pagesOf_2 rfl ?_
  refine lv_istore_n (lv' := [(3, .int 0), (2, .int 0), (0, .ref (ad 0)), (1, .int a1)]) hx hb dX7_pagesOf_3 rfl hl (by decide) rfl (fun ls hl => ?_)
  exact b_X7_pagesOf_L4 X hN _ hf hP hS (lv_sub hl [2, 3, 1, 0] rfl)
set_option maxHeartbeats 4000000 in
set_option maxRecDepth 100000 in
theorem c_X7_pagesOf {l : Launch} {D : va_G} {ad : Nat → Nat} {cI cZ : ClassId} (hN : nj ad 30) {σ : St} {a1 : Int32} {r : Int32} (hf : f_X7_pagesOf a1 σ = some r) : Met l yX7_pagesOf (.code yX7_pagesOf cX7_pagesOf 5 (some .int) :: wsL_law) rm_X7_pagesOf (va_Pc [.ref (ad 0), .int a1] (pw D (wM ad cI cZ) [(cI, .int), (cZ, .boolean)] σ)) (qI D (wM ad cI cZ) (aw ad 30) r σ) 0 0 (aw ad 30) :=
  met_mk (by decide) rfl (Nat.le_of_ble_eq_true rfl) (fun p e s m below meth c X hP ls hl => b_X7_pagesOf X hN hf hP va_S.rf hl)
set_option maxHeartbeats 4000000 in
set_option maxRecDepth 100000 in
theorem b_X7_ofArticle (X : cx p s m meth c args cX7_ofArticle 3 (some .int) RX7 D [(cI, .int), (cZ, .boolean)]) (hN : nj ad 30) {σ : St} {a1 a2 : Int32} {r : Int32} {σ' : St} (hf : f_X7_ofArticle a1 a2 σ = some (r, σ')) {H : Heap} {locs : List Loc} {ls : Array Slot} (hP : va_P D vwCl (wM ad cI cZ σ) H) (hS : va_S (aw ad 30) s.heap H locs) (hl : lv_has ls 3 [(0, .ref (ad 0)), (1, .int a1), (2, .int a2)]) : W p l e rm_X7_ofArticle s m args below meth c H locs 0 0 (MQ below (qI D (wM ad cI cZ) (aw ad 30) r σ') args s 0 0 (aw ad 30)) (F0 m 0 ls []) := by
  obtain ⟨hx, hb, hml, hown, hts, hr, hlk, hK⟩ := id X
  rw [f_X7_ofArticle] at hf
  refine lv_aload_n hx hb dX7_ofArticle_0 rfl (lv_at hl 0 rfl) ?_
  refine lv_iload_n hx hb dX7_ofArticle_1 rfl (lv_at hl 1 rfl) ?_
  obtain ⟨x1, σ2, hc, hf⟩ := bp_some hf
  refine kVi (As := [.int a1]) (rest := []) (wd := (wM ad cI cZ)) (q0 := 0) (ci := 7) X (c_X7_isArticle (l := l) (D := D) (σ := σ) hN hc) (cw_X7_194 X.2.2.2.2.1 ⟨Nat.le_of_ble_eq_true rfl, Nat.le_of_ble_eq_true rfl⟩) rfl rfl hP hS hl rfl rfl (Nat.le_of_ble_eq_true rfl) dX7_ofArticle_2 (fun H locs hP hS => ?_)
  refine lv_if_ne (tgt := 10) hx hb dX7_ofArticle_5 (by decide) (fun hq => ?_) (fun hq => ?_)
  · have hf := if_f hq hf
    refine lv_iload_n hx hb dX7_ofArticle_10 rfl (lv_at hl 2 rfl) ?_
    by_cases q0 : a2 = 0
    · have hf := if_t q0 hf
      refine lv_tableIn (off := 41) (tgt := 52) hx hb dX7_ofArticle_11 (by rw [q0]; decide) (by rw [q0]; decide) (by rw [q0]; rfl) (by decide) ?_
      refine lv_aload_n hx hb dX7_ofArticle_52 rfl (lv_at hl 0 rfl) ?_
      refine fg_X7_92 X hP dX7_ofArticle_53 ?_
      refine lv_aload_n hx hb dX7_ofArticle_56 rfl (lv_at hl 0 rfl) ?_
      refine fg_X7_86 X hP dX7_ofArticle_57 ?_
      refine lv_iload_n hx hb dX7_ofArticle_60 rfl (lv_at hl 1 rfl) ?_
      obtain ⟨hi, x3, e_x3, hf⟩ := ld_some hf
      refine ldr (t0 := 0) X hP wM_26 rfl hi e_x3 dX7_ofArticle_61 ?_
      obtain ⟨hi, x4, e_x4, hf⟩ := ld_some hf
      refine ldr (t0 := 0) X hP wM_28 rfl hi e_x4 dX7_ofArticle_62 ?_
      exact rIe X hP hS hf dX7_ofArticle_63
    · have hf := if_f q0 hf
      by_cases q1 : a2 = 1
      · have hf := if_t q1 hf
        refine lv_tableIn (off := 53) (tgt := 64) hx hb dX7_ofArticle_11 (by rw [q1]; decide) (by rw [q1]; decide) (by rw [q1]; rfl) (by decide) ?_
        refine lv_aload_n hx hb dX7_ofArticle_64 rfl (lv_at hl 0 rfl) ?_
        refine fg_X7_86 X hP dX7_ofArticle_65 ?_
        refine lv_iload_n hx hb dX7_ofArticle_68 rfl (lv_at hl 1 rfl) ?_
        refine lv_iconst (v := 1) hx hb dX7_ofArticle_69 rfl ?_
        refine lv_iadd hx hb dX7_ofArticle_70 ?_
        obtain ⟨hi, x5, e_x5, hf⟩ := ld_some hf
        refine ldr (t0 := 0) X hP wM_26 rfl hi e_x5 dX7_ofArticle_71 ?_
        refine lv_aload_n hx hb dX7_ofArticle_72 rfl (lv_at hl 0 rfl) ?_
        refine fg_X7_86 X hP dX7_ofArticle_73 ?_
        refine lv_iload_n hx hb dX7_ofArticle_76 rfl (lv_at hl 1 rfl) ?_
        obtain ⟨hi, x6, e_x6, hf⟩ := ld_some hf
        refine ldr (t0 := 0) X hP wM_26 rfl hi e_x6 dX7_ofArticle_77 ?_
        refine lv_isub hx hb dX7_ofArticle_78 ?_
        exact rIe X hP hS hf dX7_ofArticle_79
      · have hf := if_f q1 hf
        by_cases q2 : a2 = 2
        · have hf := if_t q2 hf
          refine lv_tableIn (off := 69) (tgt := 80) hx hb dX7_ofArticle_11 (by rw [q2]; decide) (by rw [q2]; decide) (by rw [q2]; rfl) (by decide) ?_
          refine lv_aload_n hx hb dX7_ofArticle_80 rfl (lv_at hl 0 rfl) ?_
          refine lv_iload_n hx hb dX7_ofArticle_81 rfl (lv_at hl 1 rfl) ?_
          refine lv_iconst (v := 0) hx hb dX7_ofArticle_82 rfl ?_
          obtain ⟨x7, hc, hf⟩ := bi_some hf
          refine kVi (As := [.int a1, .int 0]) (rest := []) (wd := (wM ad cI cZ)) (q0 := 0) (ci := 7) X (c_X7_sumOf (l := l) (D := D) (σ := σ2) hN hc) (cw_X7_197 X.2.2.2.2.1 ⟨Nat.le_of_ble_eq_true rfl, Nat.le_of_ble_eq_true rfl⟩) rfl rfl hP hS hl rfl rfl (Nat.le_of_ble_eq_true rfl) dX7_ofArticle_83 (fun H locs hP hS => ?_)
          exact rIe X hP hS hf dX7_ofArticle_86
        · have hf := if_f q2 hf
          by_cases q3 : a2 = 3
          · have hf := if_t q3 hf
            refine lv_tableIn (off := 76) (tgt := 87) hx hb dX7_ofArticle_11 (by rw [q3]; decide) (by rw [q3]; decide) (by rw [q3]; rfl) (by decide) ?_
            refine lv_aload_n hx hb dX7_ofArticle_87 rfl (lv_at hl 0 rfl) ?_
            refine lv_iload_n hx hb dX7_ofArticle_88 rfl (lv_at hl 1 rfl) ?_
            refine lv_iconst (v := 1) hx hb dX7_ofArticle_89 rfl ?_
            obtain ⟨x8, hc, hf⟩ := bi_some hf
            refine kVi (As := [.int a1, .int 1]) (rest := []) (wd := (wM ad cI cZ)) (q0 := 0) (ci := 7) X (c_X7_sumOf (l := l) (D := D) (σ := σ2) hN hc) (cw_X7_197 X.2.2.2.2.1 ⟨Nat.le_of_ble_eq_true rfl, Nat.le_of_ble_eq_true rfl⟩) rfl rfl hP hS hl rfl rfl (Nat.le_of_ble_eq_true rfl) dX7_ofArticle_90 (fun H locs hP hS => ?_)
            exact rIe X hP hS hf dX7_ofArticle_93
          · have hf := if_f q3 hf
            by_cases q4 : a2 = 4
            · have hf := if_t q4 hf
              refine lv_tableIn (off := 83) (tgt := 94) hx hb dX7_ofArticle_11 (by rw [q4]; decide) (by rw [q4]; decide) (by rw [q4]; rfl) (by decide) ?_
              refine lv_aload_n hx hb dX7_ofArticle_94 rfl (lv_at hl 0 rfl) ?_
              refine lv_iload_n hx hb dX7_ofArticle_95 rfl (lv_at hl 1 rfl) ?_
              obtain ⟨x9, hc, hf⟩ := bi_some hf
              refine kVi (As := [.int a1]) (rest := []) (wd := (wM ad cI cZ)) (q0 := 0) (ci := 7) X (c_X7_pagesOf (l := l) (D := D) (σ := σ2) hN hc) (cw_X7_200 X.2.2.2.2.1 ⟨Nat.le_of_ble_eq_true rfl, Nat.le_of_ble_eq_true rfl⟩) rfl rfl hP hS hl rfl rfl (Nat.le_of_ble_eq_true rfl) dX7_ofArticle_96 (fun H locs hP hS => ?_)
              exact rIe X hP hS hf dX7_ofArticle_99
            · have hf := if_f q4 hf
              by_cases q5 : a2 = 5
              · have hf := if_t q5 hf
                refine lv_tableIn (off := 89) (tgt := 100) hx hb dX7_ofArticle_11 (by rw [q5]; decide) (by rw [q5]; decide) (by rw [q5]; rfl) (by decide) ?_
                refine lv_aload_n hx hb dX7_ofArticle_100 rfl (lv_at hl 0 rfl) ?_
                refine fg_X7_89 X hP dX7_ofArticle_101 ?_
                refine lv_iload_n hx hb dX7_ofArticle_104 rfl (lv_at hl 1 rfl) ?_
                obtain ⟨hi, x10, e_x10, hf⟩ := ld_some hf
                refine ldz (t0 := 1) X hP wM_27 rfl hi e_x10 dX7_ofArticle_105 ?_
                refine lv_if_eq (tgt := 113) hx hb dX7_ofArticle_106 (by decide) (fun hq => ?_) (fun hq => ?_)
                · have hf := if_t hq hf
                  refine lv_iconst (v := 0) hx hb dX7_ofArticle_113 rfl ?_
                  exact rIe X hP hS hf dX7_ofArticle_114
                · have hf := if_f hq hf
                  refine lv_iconst (v := 1) hx hb dX7_ofArticle_109 rfl ?_
                  refine lv_goto (tgt := 114) hx hb dX7_ofArticle_110 (by decide) ?_
                  exact rIe X hP hS hf dX7_ofArticle_114
              · have hf := if_f q5 hf
                by_cases q6 : a2 = 6
                · have hf := if_t q6 hf
                  refine lv_tableIn (off := 104) (tgt := 115) hx hb dX7_ofArticle_11 (by rw [q6]; decide) (by rw [q6]; decide) (by rw [q6]; rfl) (by decide) ?_
                  refine lv_aload_n hx hb dX7_ofArticle_115 rfl (lv_at hl 0 rfl) ?_
                  refine lv_aload_n hx hb dX7_ofArticle_116 rfl (lv_at hl 0 rfl) ?_
                  refine fg_X7_92 X hP dX7_ofArticle_117 ?_
                  refine lv_aload_n hx hb dX7_ofArticle_120 rfl (lv_at hl 0 rfl) ?_
                  refine fg_X7_86 X hP dX7_ofArticle_121 ?_
                  refine lv_iload_n hx hb dX7_ofArticle_124 rfl (lv_at hl 1 rfl) ?_
                  refine lv_iconst (v := 1) hx hb dX7_ofArticle_125 rfl ?_
                  refine lv_iadd hx hb dX7_ofArticle_126 ?_
                  obtain ⟨hi, x11, e_x11, hf⟩ := ld_some hf
                  refine ldr (t0 := 0) X hP wM_26 rfl hi e_x11 dX7_ofArticle_127 ?_
                  refine lv_iconst (v := 1) hx hb dX7_ofArticle_128 rfl ?_
                  refine lv_isub hx hb dX7_ofArticle_129 ?_
                  obtain ⟨hi, x12, e_x12, hf⟩ := ld_some hf
                  refine ldr (t0 := 0) X hP wM_28 rfl hi e_x12 dX7_ofArticle_130 ?_
                  obtain ⟨x13, hc, hf⟩ := bi_some hf
                  refine kVi (As := [.int x12]) (rest := []) (wd := (wM ad cI cZ)) (q0 := 0) (ci := 7) X (c_X7_isBroken (l := l) (D := D) (σ := σ2) hN hc) (cw_X7_191 X.2.2.2.2.1 ⟨Nat.le_of_ble_eq_true rfl, Nat.le_of_ble_eq_true rfl⟩) rfl rfl hP hS hl rfl rfl (Nat.le_of_ble_eq_true rfl) dX7_ofArticle_131 (fun H locs hP hS => ?_)
                  refine lv_if_eq (tgt := 141) hx hb dX7_ofArticle_134 (by decide) (fun hq => ?_) (fun hq => ?_)
                  · have hf := if_t hq hf
                    refine lv_iconst (v := 0) hx hb dX7_ofArticle_141 rfl ?_
                    exact rIe X hP hS hf dX7_ofArticle_142
                  · have hf := if_f hq hf
                    refine lv_iconst (v := 1) hx hb dX7_ofArticle_137 rfl ?_
                    refine lv_goto (tgt := 142) hx hb dX7_ofArticle_138 (by decide) ?_
                    exact rIe X hP hS hf dX7_ofArticle_142
                · have hf := if_f q6 hf
                  refine lv_tableOut (tgt := 143) hx hb dX7_ofArticle_11 (sw_out 6 (by decide) (fun j hj => ?_)) (by decide) ?_
                  · match j, hj with
                    | 0, _ => exact q0
                    | 1, _ => exact q1
                    | 2, _ => exact q2
                    | 3, _ => exact q3
                    | 4, _ => exact q4
                    | 5, _ => exact q5
                    | 6, _ => exact q6
                    | j + 7, hj => exact absurd hj (by omega)
                  · refine lv_bipush (v := (-2)) hx hb dX7_ofArticle_143 rfl ?_
                    exact rIe X hP hS hf dX7_ofArticle_145
  · have hf := if_t hq hf
    refine lv_iconst (v := (-1)) hx hb dX7_ofArticle_8 rfl ?_
    exact rIe X hP hS hf dX7_ofArticle_9
set_option maxHeartbeats 4000000 in
set_option maxRecDepth 100000 in
theorem c_X7_ofArticle {l : Launch} {D : va_G} {ad : Nat → Nat} {cI cZ : ClassId} (hN : nj ad 30) {σ : St} {a1 a2 : Int32} {r : Int32} {σ' : St} (hf : f_X7_ofArticle a1 a2 σ = some (r, σ')) : Met l yX7_ofArticle (.code yX7_ofArticle cX7_ofArticle 3 (some .int) :: wsL_law) rm_X7_ofArticle (va_Pc [.ref (ad 0), .int a1, .int a2] (pw D (wM ad cI cZ) [(cI, .int), (cZ, .boolean)] σ)) (qI D (wM ad cI cZ) (aw ad 30) r σ') 0 0 (aw ad 30) :=
  met_mk (by decide) rfl (Nat.le_of_ble_eq_true rfl) (fun p e s m below meth c X hP ls hl => b_X7_ofArticle X hN hf hP va_S.rf hl)
set_option maxHeartbeats 4000000 in
set_option maxRecDepth 100000 in
theorem b_X7_read_B75 (X : cx p s m meth c args cX7_read 7 (some .int) RX7 D [(cI, .int), (cZ, .boolean)]) (hN : nj ad 30) {σ : St} {a1 a3 a4 a5 t0 : Int32} {r : Int32} {σ' : St} {K : Int32 → Int32 → Int32 → St → Option (Int32 × St)} (hk : ∀ {σ : St} {b1 b3 b4 : Int32} {H : Heap} {locs : List Loc} {ls : Array Slot}, K b1 b3 b4 σ = some (r, σ') → va_P D vwCl (wM ad cI cZ σ) H → va_S (aw ad 30) s.heap H locs → lv_has ls 7 [(0, .ref (ad 0)), (1, .int b1), (3, .int b3), (4, .int b4)] → W p l e rm_X7_read s m args below meth c H locs 0 0 (MQ below (qI D (wM ad cI cZ) (aw ad 30) r σ') args s 0 0 (aw ad 30)) (F0 m 33 ls [])) (hf : f_X7_read_B75 K a1 a3 a4 a5 t0 σ = some (r, σ')) {H : Heap} {locs : List Loc} {ls : Array Slot} (hP : va_P D vwCl (wM ad cI cZ σ) H) (hS : va_S (aw ad 30) s.heap H locs) (hl : lv_has ls 7 [(0, .ref (ad 0)), (1, .int a1), (3, .int a3), (4, .int a4), (5, .int a5)]) : W p l e rm_X7_read s m args below meth c H locs 0 0 (MQ below (qI D (wM ad cI cZ) (aw ad 30) r σ') args s 0 0 (aw ad 30)) (F0 m 75 ls [.int t0]) := by
  obtain ⟨hx, hb, hml, hown, hts, hr, hlk, hK⟩ := id X
  rw [f_X7_read_B75] at hf
  refine lv_istore (lv' := [(6, .int t0), (0, .ref (ad 0)), (1, .int a1), (3, .int a3), (4, .int a4), (5, .int a5)]) hx hb dX7_read_75 hl (by decide) rfl (fun ls hl => ?_)
  refine lv_iload_n hx hb dX7_read_77 rfl (lv_at hl 3 rfl) ?_
  refine lv_iload hx hb dX7_read_78 (lv_at hl 0 rfl) ?_
  refine lv_icmp_ge (tgt := 86) hx hb dX7_read_80 (by decide) (fun hq => ?_) (fun hq => ?_)
  · have hf := if_t hq hf
    refine lv_iload_n hx hb dX7_read_86 rfl (lv_at hl 3 rfl) ?_
    refine lv_iload hx hb dX7_read_87 (lv_at hl 0 rfl) ?_
    refine lv_isub hx hb dX7_read_89 ?_
    refine lv_istore_n (lv' := [(3, .int (a3 - t0)), (6, .int t0), (0, .ref (ad 0)), (1, .int a1), (4, .int a4), (5, .int a5)]) hx hb dX7_read_90 rfl hl (by decide) rfl (fun ls hl => ?_)
    refine lv_iload_n hx hb dX7_read_91 rfl (lv_at hl 0 rfl) ?_
    refine lv_aload_n hx hb dX7_read_92 rfl (lv_at hl 2 rfl) ?_
    refine fg_X7_61 X hP dX7_read_93 ?_
    refine lv_iload hx hb dX7_read_96 (lv_at hl 5 rfl) ?_
    obtain ⟨hi, x1, e_x1, hf⟩ := ld_some hf
    refine ldr (t0 := 0) X hP wM_18 rfl hi e_x1 dX7_read_98 ?_
    refine lv_icmp_ge (tgt := 115) hx hb dX7_read_99 (by decide) (fun hq => ?_) (fun hq => ?_)
    · have hf := if_t hq hf
      refine lv_iload_n hx hb dX7_read_115 rfl (lv_at hl 0 rfl) ?_
      refine lv_aload_n hx hb dX7_read_116 rfl (lv_at hl 2 rfl) ?_
      refine fg_X7_61 X hP dX7_read_117 ?_
      refine lv_iload hx hb dX7_read_120 (lv_at hl 5 rfl) ?_
      obtain ⟨hi, x2, e_x2, hf⟩ := ld_some hf
      refine ldr (t0 := 0) X hP wM_18 rfl hi e_x2 dX7_read_122 ?_
      refine lv_isub hx hb dX7_read_123 ?_
      refine lv_istore_n (lv' := [(3, .int ((a3 - t0) - x2)), (6, .int t0), (0, .ref (ad 0)), (1, .int a1), (4, .int a4), (5, .int a5)]) hx hb dX7_read_124 rfl hl (by decide) rfl (fun ls hl => ?_)
      refine lv_iinc (v := (a4 + 1)) (lv' := [(4, .int (a4 + 1)), (3, .int ((a3 - t0) - x2)), (6, .int t0), (0, .ref (ad 0)), (1, .int a1), (5, .int a5)]) hx hb dX7_read_125 hl (k := 4) rfl rfl (by decide) rfl (fun ls hl => ?_)
      refine lv_goto (tgt := 33) hx hb dX7_read_128 (by decide) ?_
      exact hk hf hP hS (lv_sub hl [3, 4, 1, 0] rfl)
    · have hf := if_f hq hf
      refine lv_aload_n hx hb dX7_read_102 rfl (lv_at hl 2 rfl) ?_
      refine fg_X7_64 X hP dX7_read_103 ?_
      refine lv_bipush (v := 24) hx hb dX7_read_106 rfl ?_
      refine lv_iload hx hb dX7_read_108 (lv_at hl 5 rfl) ?_
      refine lv_imul hx hb dX7_read_110 ?_
      refine lv_iload_n hx hb dX7_read_111 rfl (lv_at hl 0 rfl) ?_
      refine lv_iadd hx hb dX7_read_112 ?_
      obtain ⟨hi, x3, e_x3, hf⟩ := ld_some hf
      refine ldr (t0 := 0) X hP wM_19 rfl hi e_x3 dX7_read_113 ?_
      exact rIe X hP hS hf dX7_read_114
  · have hf := if_f hq hf
    refine lv_iload hx hb dX7_read_83 (lv_at hl 5 rfl) ?_
    exact rIe X hP hS hf dX7_read_85
set_option maxHeartbeats 4000000 in
set_option maxRecDepth 100000 in
theorem b_X7_read_L33 (X : cx p s m meth c args cX7_read 7 (some .int) RX7 D [(cI, .int), (cZ, .boolean)]) (hN : nj ad 30) : ∀ (n : Nat) {σ : St} {a1 a3 a4 : Int32} {r : Int32} {σ' : St}, f_X7_read_L33 n a1 a3 a4 σ = some (r, σ') → ∀ {H : Heap} {locs : List Loc} {ls : Array Slot}, va_P D vwCl (wM ad cI cZ σ) H → va_S (aw ad 30) s.heap H locs → lv_has ls 7 [(0, .ref (ad 0)), (1, .int a1), (3, .int a3), (4, .int a4)] → W p l e rm_X7_read s m args below meth c H locs 0 0 (MQ below (qI D (wM ad cI cZ) (aw ad 30) r σ') args s 0 0 (aw ad 30)) (F0 m 33 ls []) := by
  intro n
  induction n with
  | zero =>
    intro σ a1 a3 a4 r σ' hf
    rw [f_X7_read_L33] at hf
    cases hf
  | succ n ih =>
    intro σ a1 a3 a4 r σ' hf H locs ls hP hS hl
    obtain ⟨hx, hb, hml, hown, hts, hr, hlk, hK⟩ := id X
    rw [f_X7_read_L33] at hf
    refine lv_iload hx hb dX7_read_33 (lv_at hl 3 rfl) ?_
    refine lv_aload_n hx hb dX7_read_35 rfl (lv_at hl 0 rfl) ?_
    refine fg_X7_86 X hP dX7_read_36 ?_
    refine lv_iload_n hx hb dX7_read_39 rfl (lv_at hl 1 rfl) ?_
    refine lv_iconst (v := 1) hx hb dX7_read_40 rfl ?_
    refine lv_iadd hx hb dX7_read_41 ?_
    obtain ⟨hi, x1, e_x1, hf⟩ := ld_some hf
    refine ldr (t0 := 0) X hP wM_26 rfl hi e_x1 dX7_read_42 ?_
    refine lv_icmp_ge (tgt := 131) hx hb dX7_read_43 (by decide) (fun hq => ?_) (fun hq => ?_)
    · have hf := if_t hq hf
      refine lv_bipush (v := (-9)) hx hb dX7_read_131 rfl ?_
      exact rIe X hP hS hf dX7_read_133
    · have hf := if_f hq hf
      refine lv_aload_n hx hb dX7_read_46 rfl (lv_at hl 0 rfl) ?_
      refine fg_X7_67 X hP dX7_read_47 ?_
      refine lv_aload_n hx hb dX7_read_50 rfl (lv_at hl 0 rfl) ?_
      refine fg_X7_92 X hP dX7_read_51 ?_
      refine lv_iload hx hb dX7_read_54 (lv_at hl 3 rfl) ?_
      obtain ⟨hi, x2, e_x2, hf⟩ := ld_some hf
      refine ldr (t0 := 0) X hP wM_28 rfl hi e_x2 dX7_read_56 ?_
      obtain ⟨hi, x3, e_x3, hf⟩ := ld_some hf
      refine ldr (t0 := 0) X hP wM_20 rfl hi e_x3 dX7_read_57 ?_
      refine lv_istore (lv' := [(5, .int x3), (0, .ref (ad 0)), (1, .int a1), (3, .int a3), (4, .int a4)]) hx hb dX7_read_58 hl (by decide) rfl (fun ls hl => ?_)
      refine lv_aload_n hx hb dX7_read_60 rfl (lv_at hl 1 rfl) ?_
      refine fg_X7_13 X hP dX7_read_61 ?_
      refine lv_iload hx hb dX7_read_64 (lv_at hl 0 rfl) ?_
      obtain ⟨hi, x4, e_x4, hf⟩ := ld_some hf
      refine ldr (t0 := 0) X hP wM_2 rfl hi e_x4 dX7_read_66 ?_
      refine lv_if_ne (tgt := 74) hx hb dX7_read_67 (by decide) (fun hq => ?_) (fun hq => ?_)
      · have hf := if_f hq hf
        refine lv_iconst (v := 0) hx hb dX7_read_74 rfl ?_
        exact b_X7_read_B75 X hN (fun hf hP hS hl => ih hf hP hS hl) hf hP hS (lv_sub hl [1, 2, 3, 4, 0] rfl)
      · have hf := if_t hq hf
        refine lv_iconst (v := 1) hx hb dX7_read_70 rfl ?_
        refine lv_goto (tgt := 75) hx hb dX7_read_71 (by decide) ?_
        exact b_X7_read_B75 X hN (fun hf hP hS hl => ih hf hP hS hl) hf hP hS (lv_sub hl [1, 2, 3, 4, 0] rfl)
set_option maxHeartbeats 4000000 in
set_option maxRecDepth 100000 in
theorem b_X7_read (X : cx p s m meth c args cX7_read 7 (some .int) RX7 D [(cI, .int), (cZ, .boolean)]) (hN : nj ad 30) {σ : St} {a1 a2 : Int32} {r : Int32} {σ' : St} (hf : f_X7_read a1 a2 σ = some (r, σ')) {H : Heap} {locs : List Loc} {ls : Array Slot} (hP : va_P D vwCl (wM ad cI cZ σ) H) (hS : va_S (aw ad 30) s.heap H locs) (hl : lv_has ls 7 [(0, .ref (ad 0)), (1, .int a1), (2, .int a2)]) : W p l e rm_X7_read s m args below meth c H locs 0 0 (MQ below (qI D (wM ad cI cZ) (aw ad 30) r σ') args s 0 0 (aw ad 30)) (F0 m 0 ls []) := by
  obtain ⟨hx, hb, hml, hown, hts, hr, hlk, hK⟩ := id X
  rw [f_X7_read] at hf
  refine lv_aload_n hx hb dX7_read_0 rfl (lv_at hl 0 rfl) ?_
  refine lv_iload_n hx hb dX7_read_1 rfl (lv_at hl 1 rfl) ?_
  obtain ⟨x1, σ2, hc, hf⟩ := bp_some hf
  refine kVi (As := [.int a1]) (rest := []) (wd := (wM ad cI cZ)) (q0 := 0) (ci := 7) X (c_X7_isArticle (l := l) (D := D) (σ := σ) hN hc) (cw_X7_194 X.2.2.2.2.1 ⟨Nat.le_of_ble_eq_true rfl, Nat.le_of_ble_eq_true rfl⟩) rfl rfl hP hS hl rfl rfl (Nat.le_of_ble_eq_true rfl) dX7_read_2 (fun H locs hP hS => ?_)
  refine lv_if_ne (tgt := 10) hx hb dX7_read_5 (by decide) (fun hq => ?_) (fun hq => ?_)
  · have hf := if_f hq hf
    refine lv_iload_n hx hb dX7_read_10 rfl (lv_at hl 2 rfl) ?_
    refine lv_iconst (v := 0) hx hb dX7_read_11 rfl ?_
    refine lv_bipush (v := 23) hx hb dX7_read_12 rfl ?_
    obtain ⟨x3, hc, hf⟩ := bi_some hf
    refine kSi (As := [.int a2, .int 0, .int 23]) (rest := []) (wd := (wM ad cI cZ)) X (c_X7_within (l := l) (D := D) (σ := σ2) hN hc) (cw_X7_102 X.2.2.2.2.1 ⟨Nat.le_of_ble_eq_true rfl, Nat.le_of_ble_eq_true rfl⟩) hP hS hl rfl rfl (Nat.le_of_ble_eq_true rfl) dX7_read_14 (fun H locs hP hS => ?_)
    refine lv_if_ne (tgt := 23) hx hb dX7_read_17 (by decide) (fun hq => ?_) (fun hq => ?_)
    · have hf := if_f hq hf
      refine lv_iload_n hx hb dX7_read_23 rfl (lv_at hl 2 rfl) ?_
      refine lv_istore_n (lv' := [(3, .int a2), (0, .ref (ad 0)), (1, .int a1), (2, .int a2)]) hx hb dX7_read_24 rfl hl (by decide) rfl (fun ls hl => ?_)
      refine lv_aload_n hx hb dX7_read_25 rfl (lv_at hl 1 rfl) ?_
      refine fg_X7_86 X hP dX7_read_26 ?_
      refine lv_iload_n hx hb dX7_read_29 rfl (lv_at hl 2 rfl) ?_
      obtain ⟨hi, x4, e_x4, hf⟩ := ld_some hf
      refine ldr (t0 := 0) X hP wM_26 rfl hi e_x4 dX7_read_30 ?_
      refine lv_istore (lv' := [(4, .int x4), (3, .int a2), (0, .ref (ad 0)), (1, .int a1), (2, .int a2)]) hx hb dX7_read_31 hl (by decide) rfl (fun ls hl => ?_)
      exact b_X7_read_L33 X hN _ hf hP hS (lv_sub hl [2, 3, 1, 0] rfl)
    · have hf := if_t hq hf
      refine lv_bipush (v := (-2)) hx hb dX7_read_20 rfl ?_
      exact rIe X hP hS hf dX7_read_22
  · have hf := if_t hq hf
    refine lv_iconst (v := (-1)) hx hb dX7_read_8 rfl ?_
    exact rIe X hP hS hf dX7_read_9
set_option maxHeartbeats 4000000 in
set_option maxRecDepth 100000 in
theorem c_X7_read {l : Launch} {D : va_G} {ad : Nat → Nat} {cI cZ : ClassId} (hN : nj ad 30) {σ : St} {a1 a2 : Int32} {r : Int32} {σ' : St} (hf : f_X7_read a1 a2 σ = some (r, σ')) : Met l yX7_read (.code yX7_read cX7_read 7 (some .int) :: wsL_law) rm_X7_read (va_Pc [.ref (ad 0), .int a1, .int a2] (pw D (wM ad cI cZ) [(cI, .int), (cZ, .boolean)] σ)) (qI D (wM ad cI cZ) (aw ad 30) r σ') 0 0 (aw ad 30) :=
  met_mk (by decide) rfl (Nat.le_of_ble_eq_true rfl) (fun p e s m below meth c X hP ls hl => b_X7_read X hN hf hP va_S.rf hl)
set_option maxHeartbeats 4000000 in
set_option maxRecDepth 100000 in
theorem b_X7_manyOfKind_L4 (X : cx p s m meth c args cX7_manyOfKind 4 (some .int) RX7 D [(cI, .int), (cZ, .boolean)]) (hN : nj ad 30) : ∀ (n : Nat) {σ : St} {a1 a2 a3 : Int32} {r : Int32}, f_X7_manyOfKind_L4 σ n a1 a2 a3 = some r → ∀ {H : Heap} {locs : List Loc} {ls : Array Slot}, va_P D vwCl (wM ad cI cZ σ) H → va_S (aw ad 30) s.heap H locs → lv_has ls 4 [(0, .ref (ad 0)), (1, .int a1), (2, .int a2), (3, .int a3)] → W p l e rm_X7_manyOfKind s m args below meth c H locs 0 0 (MQ below (qI D (wM ad cI cZ) (aw ad 30) r σ) args s 0 0 (aw ad 30)) (F0 m 4 ls []) := by
  intro n
  induction n with
  | zero =>
    intro σ a1 a2 a3 r hf
    rw [f_X7_manyOfKind_L4] at hf
    cases hf
  | succ n ih =>
    intro σ a1 a2 a3 r hf H locs ls hP hS hl
    obtain ⟨hx, hb, hml, hown, hts, hr, hlk, hK⟩ := id X
    rw [f_X7_manyOfKind_L4] at hf
    refine lv_iload_n hx hb dX7_manyOfKind_4 rfl (lv_at hl 3 rfl) ?_
    refine lv_aload_n hx hb dX7_manyOfKind_5 rfl (lv_at hl 0 rfl) ?_
    obtain ⟨x1, e_x1, hf⟩ := lf_some hf
    refine fg_X7_98 X hP e_x1 dX7_manyOfKind_6 ?_
    refine lv_icmp_ge (tgt := 36) hx hb dX7_manyOfKind_9 (by decide) (fun hq => ?_) (fun hq => ?_)
    · have hf := if_t hq hf
      refine lv_iload_n hx hb dX7_manyOfKind_36 rfl (lv_at hl 2 rfl) ?_
      exact rI X hP hS hf dX7_manyOfKind_37
    · have hf := if_f hq hf
      refine lv_iload_n hx hb dX7_manyOfKind_12 rfl (lv_at hl 2 rfl) ?_
      refine lv_aload_n hx hb dX7_manyOfKind_13 rfl (lv_at hl 0 rfl) ?_
      refine fg_X7_13 X hP dX7_manyOfKind_14 ?_
      refine lv_iload_n hx hb dX7_manyOfKind_17 rfl (lv_at hl 3 rfl) ?_
      obtain ⟨hi, x2, e_x2, hf⟩ := ld_some hf
      refine ldr (t0 := 0) X hP wM_2 rfl hi e_x2 dX7_manyOfKind_18 ?_
      refine lv_iload_n hx hb dX7_manyOfKind_19 rfl (lv_at hl 1 rfl) ?_
      refine lv_icmp_ne (tgt := 27) hx hb dX7_manyOfKind_20 (by decide) (fun hq => ?_) (fun hq => ?_)
      · have hf := if_f hq hf
        refine lv_iconst (v := 0) hx hb dX7_manyOfKind_27 rfl ?_
        refine lv_iadd hx hb dX7_manyOfKind_28 ?_
        refine lv_istore_n (lv' := [(2, .int (a2 + 0)), (0, .ref (ad 0)), (1, .int a1), (3, .int a3)]) hx hb dX7_manyOfKind_29 rfl hl (by decide) rfl (fun ls hl => ?_)
        refine lv_iinc (v := (a3 + 1)) (lv' := [(3, .int (a3 + 1)), (2, .int (a2 + 0)), (0, .ref (ad 0)), (1, .int a1)]) hx hb dX7_manyOfKind_30 hl (k := 3) rfl rfl (by decide) rfl (fun ls hl => ?_)
        refine lv_goto (tgt := 4) hx hb dX7_manyOfKind_33 (by decide) ?_
        exact ih hf hP hS (lv_sub hl [2, 3, 1, 0] rfl)
      · have hf := if_t hq hf
        refine lv_iconst (v := 1) hx hb dX7_manyOfKind_23 rfl ?_
        refine lv_goto (tgt := 28) hx hb dX7_manyOfKind_24 (by decide) ?_
        refine lv_iadd hx hb dX7_manyOfKind_28 ?_
        refine lv_istore_n (lv' := [(2, .int (a2 + 1)), (0, .ref (ad 0)), (1, .int a1), (3, .int a3)]) hx hb dX7_manyOfKind_29 rfl hl (by decide) rfl (fun ls hl => ?_)
        refine lv_iinc (v := (a3 + 1)) (lv' := [(3, .int (a3 + 1)), (2, .int (a2 + 1)), (0, .ref (ad 0)), (1, .int a1)]) hx hb dX7_manyOfKind_30 hl (k := 3) rfl rfl (by decide) rfl (fun ls hl => ?_)
        refine lv_goto (tgt := 4) hx hb dX7_manyOfKind_33 (by decide) ?_
        exact ih hf hP hS (lv_sub hl [2, 3, 1, 0] rfl)
set_option maxHeartbeats 4000000 in
set_option maxRecDepth 100000 in
theorem b_X7_manyOfKind (X : cx p s m meth c args cX7_manyOfKind 4 (some .int) RX7 D [(cI, .int), (cZ, .boolean)]) (hN : nj ad 30) {σ : St} {a1 : Int32} {r : Int32} (hf : f_X7_manyOfKind a1 σ = some r) {H : Heap} {locs : List Loc} {ls : Array Slot} (hP : va_P D vwCl (wM ad cI cZ σ) H) (hS : va_S (aw ad 30) s.heap H locs) (hl : lv_has ls 4 [(0, .ref (ad 0)), (1, .int a1)]) : W p l e rm_X7_manyOfKind s m args below meth c H locs 0 0 (MQ below (qI D (wM ad cI cZ) (aw ad 30) r σ) args s 0 0 (aw ad 30)) (F0 m 0 ls []) := by
  obtain ⟨hx, hb, hml, hown, hts, hr, hlk, hK⟩ := id X
  rw [f_X7_manyOfKind] at hf
  refine lv_iconst (v := 0) hx hb dX7_manyOfKind_0 rfl ?_
  refine lv_istore_n (lv' := [(2, .int 0), (0, .ref (ad 0)), (1, .int a1)]) hx hb dX7_manyOfKind_1 rfl hl (by decide) rfl (fun ls hl => ?_)
  refine lv_iconst (v := 0) hx hb dX7_manyOfKind_2 rfl ?_
  refine lv_istore_n (lv' := [(3, .int 0), (2, .int 0), (0, .ref (ad 0)), (1, .int a1)]) hx hb dX7_manyOfKind_3 rfl hl (by decide) rfl (fun ls hl => ?_)
  exact b_X7_manyOfKind_L4 X hN _ hf hP hS (lv_sub hl [2, 3, 1, 0] rfl)
set_option maxHeartbeats 4000000 in
set_option maxRecDepth 100000 in
theorem c_X7_manyOfKind {l : Launch} {D : va_G} {ad : Nat → Nat} {cI cZ : ClassId} (hN : nj ad 30) {σ : St} {a1 : Int32} {r : Int32} (hf : f_X7_manyOfKind a1 σ = some r) : Met l yX7_manyOfKind (.code yX7_manyOfKind cX7_manyOfKind 4 (some .int) :: wsL_law) rm_X7_manyOfKind (va_Pc [.ref (ad 0), .int a1] (pw D (wM ad cI cZ) [(cI, .int), (cZ, .boolean)] σ)) (qI D (wM ad cI cZ) (aw ad 30) r σ) 0 0 (aw ad 30) :=
  met_mk (by decide) rfl (Nat.le_of_ble_eq_true rfl) (fun p e s m below meth c X hP ls hl => b_X7_manyOfKind X hN hf hP va_S.rf hl)
set_option maxHeartbeats 4000000 in
set_option maxRecDepth 100000 in
theorem b_X7_manyTexts_B56 (X : cx p s m meth c args cX7_manyTexts 5 (some .int) RX7 D [(cI, .int), (cZ, .boolean)]) (hN : nj ad 30) {σ : St} {a1 a2 a3 t0 : Int32} {r : Int32} {K : Int32 → Int32 → Int32 → Option Int32} (hk : ∀ {b1 b2 b3 : Int32} {H : Heap} {locs : List Loc} {ls : Array Slot}, K b1 b2 b3 = some r → va_P D vwCl (wM ad cI cZ σ) H → va_S (aw ad 30) s.heap H locs → lv_has ls 5 [(0, .ref (ad 0)), (1, .int b1), (2, .int b2), (3, .int b3)] → W p l e rm_X7_manyTexts s m args below meth c H locs 0 0 (MQ below (qI D (wM ad cI cZ) (aw ad 30) r σ) args s 0 0 (aw ad 30)) (F0 m 4 ls [])) (hf : f_X7_manyTexts_B56 σ K a1 a2 a3 t0 = some r) {H : Heap} {locs : List Loc} {ls : Array Slot} (hP : va_P D vwCl (wM ad cI cZ σ) H) (hS : va_S (aw ad 30) s.heap H locs) (hl : lv_has ls 5 [(0, .ref (ad 0)), (1, .int a1), (2, .int a2), (3, .int a3)]) : W p l e rm_X7_manyTexts s m args below meth c H locs 0 0 (MQ below (qI D (wM ad cI cZ) (aw ad 30) r σ) args s 0 0 (aw ad 30)) (F0 m 56 ls [.int t0]) := by
  obtain ⟨hx, hb, hml, hown, hts, hr, hlk, hK⟩ := id X
  rw [f_X7_manyTexts_B56] at hf
  refine lv_istore (lv' := [(4, .int t0), (0, .ref (ad 0)), (1, .int a1), (2, .int a2), (3, .int a3)]) hx hb dX7_manyTexts_56 hl (by decide) rfl (fun ls hl => ?_)
  refine lv_iload_n hx hb dX7_manyTexts_58 rfl (lv_at hl 3 rfl) ?_
  refine lv_iload hx hb dX7_manyTexts_59 (lv_at hl 0 rfl) ?_
  refine lv_if_eq (tgt := 68) hx hb dX7_manyTexts_61 (by decide) (fun hq => ?_) (fun hq => ?_)
  · have hf := if_t hq hf
    refine lv_iconst (v := 0) hx hb dX7_manyTexts_68 rfl ?_
    refine lv_iadd hx hb dX7_manyTexts_69 ?_
    refine lv_istore_n (lv' := [(2, .int (a2 + 0)), (4, .int t0), (0, .ref (ad 0)), (1, .int a1), (3, .int a3)]) hx hb dX7_manyTexts_70 rfl hl (by decide) rfl (fun ls hl => ?_)
    refine lv_iinc (v := (a3 + 1)) (lv' := [(3, .int (a3 + 1)), (2, .int (a2 + 0)), (4, .int t0), (0, .ref (ad 0)), (1, .int a1)]) hx hb dX7_manyTexts_71 hl (k := 4) rfl rfl (by decide) rfl (fun ls hl => ?_)
    refine lv_goto (tgt := 4) hx hb dX7_manyTexts_74 (by decide) ?_
    exact hk hf hP hS (lv_sub hl [3, 4, 1, 0] rfl)
  · have hf := if_f hq hf
    refine lv_iconst (v := 1) hx hb dX7_manyTexts_64 rfl ?_
    refine lv_goto (tgt := 69) hx hb dX7_manyTexts_65 (by decide) ?_
    refine lv_iadd hx hb dX7_manyTexts_69 ?_
    refine lv_istore_n (lv' := [(2, .int (a2 + 1)), (4, .int t0), (0, .ref (ad 0)), (1, .int a1), (3, .int a3)]) hx hb dX7_manyTexts_70 rfl hl (by decide) rfl (fun ls hl => ?_)
    refine lv_iinc (v := (a3 + 1)) (lv' := [(3, .int (a3 + 1)), (2, .int (a2 + 1)), (4, .int t0), (0, .ref (ad 0)), (1, .int a1)]) hx hb dX7_manyTexts_71 hl (k := 4) rfl rfl (by decide) rfl (fun ls hl => ?_)
    refine lv_goto (tgt := 4) hx hb dX7_manyTexts_74 (by decide) ?_
    exact hk hf hP hS (lv_sub hl [3, 4, 1, 0] rfl)
set_option maxHeartbeats 4000000 in
set_option maxRecDepth 100000 in
theorem b_X7_manyTexts_B55 (X : cx p s m meth c args cX7_manyTexts 5 (some .int) RX7 D [(cI, .int), (cZ, .boolean)]) (hN : nj ad 30) {σ : St} {a1 a2 a3 : Int32} {r : Int32} {K : Int32 → Int32 → Int32 → Option Int32} (hk : ∀ {b1 b2 b3 : Int32} {H : Heap} {locs : List Loc} {ls : Array Slot}, K b1 b2 b3 = some r → va_P D vwCl (wM ad cI cZ σ) H → va_S (aw ad 30) s.heap H locs → lv_has ls 5 [(0, .ref (ad 0)), (1, .int b1), (2, .int b2), (3, .int b3)] → W p l e rm_X7_manyTexts s m args below meth c H locs 0 0 (MQ below (qI D (wM ad cI cZ) (aw ad 30) r σ) args s 0 0 (aw ad 30)) (F0 m 4 ls [])) (hf : f_X7_manyTexts_B55 σ K a1 a2 a3 = some r) {H : Heap} {locs : List Loc} {ls : Array Slot} (hP : va_P D vwCl (wM ad cI cZ σ) H) (hS : va_S (aw ad 30) s.heap H locs) (hl : lv_has ls 5 [(0, .ref (ad 0)), (1, .int a1), (2, .int a2), (3, .int a3)]) : W p l e rm_X7_manyTexts s m args below meth c H locs 0 0 (MQ below (qI D (wM ad cI cZ) (aw ad 30) r σ) args s 0 0 (aw ad 30)) (F0 m 55 ls []) := by
  obtain ⟨hx, hb, hml, hown, hts, hr, hlk, hK⟩ := id X
  rw [f_X7_manyTexts_B55] at hf
  refine lv_iconst (v := 0) hx hb dX7_manyTexts_55 rfl ?_
  exact b_X7_manyTexts_B56 X hN hk hf hP hS (lv_sub hl [0, 1, 2, 3] rfl)
set_option maxHeartbeats 4000000 in
set_option maxRecDepth 100000 in
theorem b_X7_manyTexts_B51 (X : cx p s m meth c args cX7_manyTexts 5 (some .int) RX7 D [(cI, .int), (cZ, .boolean)]) (hN : nj ad 30) {σ : St} {a1 a2 a3 : Int32} {r : Int32} {K : Int32 → Int32 → Int32 → Option Int32} (hk : ∀ {b1 b2 b3 : Int32} {H : Heap} {locs : List Loc} {ls : Array Slot}, K b1 b2 b3 = some r → va_P D vwCl (wM ad cI cZ σ) H → va_S (aw ad 30) s.heap H locs → lv_has ls 5 [(0, .ref (ad 0)), (1, .int b1), (2, .int b2), (3, .int b3)] → W p l e rm_X7_manyTexts s m args below meth c H locs 0 0 (MQ below (qI D (wM ad cI cZ) (aw ad 30) r σ) args s 0 0 (aw ad 30)) (F0 m 4 ls [])) (hf : f_X7_manyTexts_B51 σ K a1 a2 a3 = some r) {H : Heap} {locs : List Loc} {ls : Array Slot} (hP : va_P D vwCl (wM ad cI cZ σ) H) (hS : va_S (aw ad 30) s.heap H locs) (hl : lv_has ls 5 [(0, .ref (ad 0)), (1, .int a1), (2, .int a2), (3, .int a3)]) : W p l e rm_X7_manyTexts s m args below meth c H locs 0 0 (MQ below (qI D (wM ad cI cZ) (aw ad 30) r σ) args s 0 0 (aw ad 30)) (F0 m 51 ls []) := by
  obtain ⟨hx, hb, hml, hown, hts, hr, hlk, hK⟩ := id X
  rw [f_X7_manyTexts_B51] at hf
  refine lv_iconst (v := 1) hx hb dX7_manyTexts_51 rfl ?_
  refine lv_goto (tgt := 56) hx hb dX7_manyTexts_52 (by decide) ?_
  exact b_X7_manyTexts_B56 X hN hk hf hP hS (lv_sub hl [0, 1, 2, 3] rfl)
set_option maxHeartbeats 4000000 in
set_option maxRecDepth 100000 in
theorem b_X7_manyTexts_L4 (X : cx p s m meth c args cX7_manyTexts 5 (some .int) RX7 D [(cI, .int), (cZ, .boolean)]) (hN : nj ad 30) : ∀ (n : Nat) {σ : St} {a1 a2 a3 : Int32} {r : Int32}, f_X7_manyTexts_L4 σ n a1 a2 a3 = some r → ∀ {H : Heap} {locs : List Loc} {ls : Array Slot}, va_P D vwCl (wM ad cI cZ σ) H → va_S (aw ad 30) s.heap H locs → lv_has ls 5 [(0, .ref (ad 0)), (1, .int a1), (2, .int a2), (3, .int a3)] → W p l e rm_X7_manyTexts s m args below meth c H locs 0 0 (MQ below (qI D (wM ad cI cZ) (aw ad 30) r σ) args s 0 0 (aw ad 30)) (F0 m 4 ls []) := by
  intro n
  induction n with
  | zero =>
    intro σ a1 a2 a3 r hf
    rw [f_X7_manyTexts_L4] at hf
    cases hf
  | succ n ih =>
    intro σ a1 a2 a3 r hf H locs ls hP hS hl
    obtain ⟨hx, hb, hml, hown, hts, hr, hlk, hK⟩ := id X
    rw [f_X7_manyTexts_L4] at hf
    refine lv_iload_n hx hb dX7_manyTexts_4 rfl (lv_at hl 3 rfl) ?_
    refine lv_aload_n hx hb dX7_manyTexts_5 rfl (lv_at hl 0 rfl) ?_
    obtain ⟨x1, e_x1, hf⟩ := lf_some hf
    refine fg_X7_98 X hP e_x1 dX7_manyTexts_6 ?_
    refine lv_icmp_ge (tgt := 77) hx hb dX7_manyTexts_9 (by decide) (fun hq => ?_) (fun hq => ?_)
    · have hf := if_t hq hf
      refine lv_iload_n hx hb dX7_manyTexts_77 rfl (lv_at hl 2 rfl) ?_
      exact rI X hP hS hf dX7_manyTexts_78
    · have hf := if_f hq hf
      refine lv_aload_n hx hb dX7_manyTexts_12 rfl (lv_at hl 0 rfl) ?_
      refine fg_X7_13 X hP dX7_manyTexts_13 ?_
      refine lv_iload_n hx hb dX7_manyTexts_16 rfl (lv_at hl 3 rfl) ?_
      obtain ⟨hi, x2, e_x2, hf⟩ := ld_some hf
      refine ldr (t0 := 0) X hP wM_2 rfl hi e_x2 dX7_manyTexts_17 ?_
      refine lv_iconst (v := 1) hx hb dX7_manyTexts_18 rfl ?_
      refine lv_icmp_ne (tgt := 55) hx hb dX7_manyTexts_19 (by decide) (fun hq => ?_) (fun hq => ?_)
      · have hf := if_f hq hf
        exact b_X7_manyTexts_B55 X hN (fun hf hP hS hl => ih hf hP hS hl) hf hP hS (lv_sub hl [0, 1, 2, 3] rfl)
      · have hf := if_t hq hf
        refine lv_iload_n hx hb dX7_manyTexts_22 rfl (lv_at hl 1 rfl) ?_
        refine lv_if_eq (tgt := 40) hx hb dX7_manyTexts_23 (by decide) (fun hq => ?_) (fun hq => ?_)
        · have hf := if_t hq hf
          refine lv_aload_n hx hb dX7_manyTexts_40 rfl (lv_at hl 0 rfl) ?_
          refine fg_X7_55 X hP dX7_manyTexts_41 ?_
          refine lv_iload_n hx hb dX7_manyTexts_44 rfl (lv_at hl 3 rfl) ?_
          obtain ⟨hi, x3, e_x3, hf⟩ := ld_some hf
          refine ldr (t0 := 0) X hP wM_16 rfl hi e_x3 dX7_manyTexts_45 ?_
          refine lv_bipush (v := (-9)) hx hb dX7_manyTexts_46 rfl ?_
          refine lv_icmp_ne (tgt := 55) hx hb dX7_manyTexts_48 (by decide) (fun hq => ?_) (fun hq => ?_)
          · have hf := if_f hq hf
            exact b_X7_manyTexts_B55 X hN (fun hf hP hS hl => ih hf hP hS hl) hf hP hS (lv_sub hl [0, 1, 2, 3] rfl)
          · have hf := if_t hq hf
            exact b_X7_manyTexts_B51 X hN (fun hf hP hS hl => ih hf hP hS hl) hf hP hS (lv_sub hl [0, 1, 2, 3] rfl)
        · have hf := if_f hq hf
          refine lv_aload_n hx hb dX7_manyTexts_26 rfl (lv_at hl 0 rfl) ?_
          refine fg_X7_58 X hP dX7_manyTexts_27 ?_
          refine lv_iload_n hx hb dX7_manyTexts_30 rfl (lv_at hl 3 rfl) ?_
          obtain ⟨hi, x4, e_x4, hf⟩ := ld_some hf
          refine ldr (t0 := 0) X hP wM_17 rfl hi e_x4 dX7_manyTexts_31 ?_
          refine lv_bipush (v := (-9)) hx hb dX7_manyTexts_32 rfl ?_
          refine lv_icmp_eq (tgt := 55) hx hb dX7_manyTexts_34 (by decide) (fun hq => ?_) (fun hq => ?_)
          · have hf := if_t hq hf
            exact b_X7_manyTexts_B55 X hN (fun hf hP hS hl => ih hf hP hS hl) hf hP hS (lv_sub hl [0, 1, 2, 3] rfl)
          · have hf := if_f hq hf
            refine lv_goto (tgt := 51) hx hb dX7_manyTexts_37 (by decide) ?_
            exact b_X7_manyTexts_B51 X hN (fun hf hP hS hl => ih hf hP hS hl) hf hP hS (lv_sub hl [0, 1, 2, 3] rfl)
set_option maxHeartbeats 4000000 in
set_option maxRecDepth 100000 in
theorem b_X7_manyTexts (X : cx p s m meth c args cX7_manyTexts 5 (some .int) RX7 D [(cI, .int), (cZ, .boolean)]) (hN : nj ad 30) {σ : St} {a1 : Int32} {r : Int32} (hf : f_X7_manyTexts a1 σ = some r) {H : Heap} {locs : List Loc} {ls : Array Slot} (hP : va_P D vwCl (wM ad cI cZ σ) H) (hS : va_S (aw ad 30) s.heap H locs) (hl : lv_has ls 5 [(0, .ref (ad 0)), (1, .int a1)]) : W p l e rm_X7_manyTexts s m args below meth c H locs 0 0 (MQ below (qI D (wM ad cI cZ) (aw ad 30) r σ) args s 0 0 (aw ad 30)) (F0 m 0 ls []) := by
  obtain ⟨hx, hb, hml, hown, hts, hr, hlk, hK⟩ := id X
  rw [f_X7_manyTexts] at hf
  refine lv_iconst (v := 0) hx hb dX7_manyTexts_0 rfl ?_
  refine lv_istore_n (lv' := [(2, .int 0), (0, .ref (ad 0)), (1, .int a1)]) hx hb dX7_manyTexts_1 rfl hl (by decide) rfl (fun ls hl => ?_)
  refine lv_iconst (v := 0) hx hb dX7_manyTexts_2 rfl ?_
  refine lv_istore_n (lv' := [(3, .int 0), (2, .int 0), (0, .ref (ad 0)), (1, .int a1)]) hx hb dX7_manyTexts_3 rfl hl (by decide) rfl (fun ls hl => ?_)
  exact b_X7_manyTexts_L4 X hN _ hf hP hS (lv_sub hl [2, 3, 1, 0] rfl)
set_option maxHeartbeats 4000000 in
set_option maxRecDepth 100000 in
theorem c_X7_manyTexts {l : Launch} {D : va_G} {ad : Nat → Nat} {cI cZ : ClassId} (hN : nj ad 30) {σ : St} {a1 : Int32} {r : Int32} (hf : f_X7_manyTexts a1 σ = some r) : Met l yX7_manyTexts (.code yX7_manyTexts cX7_manyTexts 5 (some .int) :: wsL_law) rm_X7_manyTexts (va_Pc [.ref (ad 0), .int a1] (pw D (wM ad cI cZ) [(cI, .int), (cZ, .boolean)] σ)) (qI D (wM ad cI cZ) (aw ad 30) r σ) 0 0 (aw ad 30) :=
  met_mk (by decide) rfl (Nat.le_of_ble_eq_true rfl) (fun p e s m below meth c X hP ls hl => b_X7_manyTexts X hN hf hP va_S.rf hl)
set_option maxHeartbeats 4000000 in
set_option maxRecDepth 100000 in
theorem b_X7_manyRings_L4 (X : cx p s m meth c args cX7_manyRings 3 (some .int) RX7 D [(cI, .int), (cZ, .boolean)]) (hN : nj ad 30) : ∀ (n : Nat) {σ : St} {a1 a2 : Int32} {r : Int32}, f_X7_manyRings_L4 σ n a1 a2 = some r → ∀ {H : Heap} {locs : List Loc} {ls : Array Slot}, va_P D vwCl (wM ad cI cZ σ) H → va_S (aw ad 30) s.heap H locs → lv_has ls 3 [(0, .ref (ad 0)), (1, .int a1), (2, .int a2)] → W p l e rm_X7_manyRings s m args below meth c H locs 0 0 (MQ below (qI D (wM ad cI cZ) (aw ad 30) r σ) args s 0 0 (aw ad 30)) (F0 m 4 ls []) := by
  intro n
  induction n with
  | zero =>
    intro σ a1 a2 r hf
    rw [f_X7_manyRings_L4] at hf
    cases hf
  | succ n ih =>
    intro σ a1 a2 r hf H locs ls hP hS hl
    obtain ⟨hx, hb, hml, hown, hts, hr, hlk, hK⟩ := id X
    rw [f_X7_manyRings_L4] at hf
    refine lv_iload_n hx hb dX7_manyRings_4 rfl (lv_at hl 2 rfl) ?_
    refine lv_aload_n hx hb dX7_manyRings_5 rfl (lv_at hl 0 rfl) ?_
    obtain ⟨x1, e_x1, hf⟩ := lf_some hf
    refine fg_X7_162 X hP e_x1 dX7_manyRings_6 ?_
    refine lv_icmp_ge (tgt := 35) hx hb dX7_manyRings_9 (by decide) (fun hq => ?_) (fun hq => ?_)
    · have hf := if_t hq hf
      refine lv_iload_n hx hb dX7_manyRings_35 rfl (lv_at hl 1 rfl) ?_
      exact rI X hP hS hf dX7_manyRings_36
    · have hf := if_f hq hf
      refine lv_iload_n hx hb dX7_manyRings_12 rfl (lv_at hl 1 rfl) ?_
      refine lv_aload_n hx hb dX7_manyRings_13 rfl (lv_at hl 0 rfl) ?_
      refine fg_X7_89 X hP dX7_manyRings_14 ?_
      refine lv_iload_n hx hb dX7_manyRings_17 rfl (lv_at hl 2 rfl) ?_
      obtain ⟨hi, x2, e_x2, hf⟩ := ld_some hf
      refine ldz (t0 := 1) X hP wM_27 rfl hi e_x2 dX7_manyRings_18 ?_
      refine lv_if_eq (tgt := 26) hx hb dX7_manyRings_19 (by decide) (fun hq => ?_) (fun hq => ?_)
      · have hf := if_t hq hf
        refine lv_iconst (v := 0) hx hb dX7_manyRings_26 rfl ?_
        refine lv_iadd hx hb dX7_manyRings_27 ?_
        refine lv_istore_n (lv' := [(1, .int (a1 + 0)), (0, .ref (ad 0)), (2, .int a2)]) hx hb dX7_manyRings_28 rfl hl (by decide) rfl (fun ls hl => ?_)
        refine lv_iinc (v := (a2 + 1)) (lv' := [(2, .int (a2 + 1)), (1, .int (a1 + 0)), (0, .ref (ad 0))]) hx hb dX7_manyRings_29 hl (k := 2) rfl rfl (by decide) rfl (fun ls hl => ?_)
        refine lv_goto (tgt := 4) hx hb dX7_manyRings_32 (by decide) ?_
        exact ih hf hP hS (lv_sub hl [2, 1, 0] rfl)
      · have hf := if_f hq hf
        refine lv_iconst (v := 1) hx hb dX7_manyRings_22 rfl ?_
        refine lv_goto (tgt := 27) hx hb dX7_manyRings_23 (by decide) ?_
        refine lv_iadd hx hb dX7_manyRings_27 ?_
        refine lv_istore_n (lv' := [(1, .int (a1 + 1)), (0, .ref (ad 0)), (2, .int a2)]) hx hb dX7_manyRings_28 rfl hl (by decide) rfl (fun ls hl => ?_)
        refine lv_iinc (v := (a2 + 1)) (lv' := [(2, .int (a2 + 1)), (1, .int (a1 + 1)), (0, .ref (ad 0))]) hx hb dX7_manyRings_29 hl (k := 2) rfl rfl (by decide) rfl (fun ls hl => ?_)
        refine lv_goto (tgt := 4) hx hb dX7_manyRings_32 (by decide) ?_
        exact ih hf hP hS (lv_sub hl [2, 1, 0] rfl)
set_option maxHeartbeats 4000000 in
set_option maxRecDepth 100000 in
theorem b_X7_manyRings (X : cx p s m meth c args cX7_manyRings 3 (some .int) RX7 D [(cI, .int), (cZ, .boolean)]) (hN : nj ad 30) {σ : St} {r : Int32} (hf : f_X7_manyRings σ = some r) {H : Heap} {locs : List Loc} {ls : Array Slot} (hP : va_P D vwCl (wM ad cI cZ σ) H) (hS : va_S (aw ad 30) s.heap H locs) (hl : lv_has ls 3 [(0, .ref (ad 0))]) : W p l e rm_X7_manyRings s m args below meth c H locs 0 0 (MQ below (qI D (wM ad cI cZ) (aw ad 30) r σ) args s 0 0 (aw ad 30)) (F0 m 0 ls []) := by
  obtain ⟨hx, hb, hml, hown, hts, hr, hlk, hK⟩ := id X
  rw [f_X7_manyRings] at hf
  refine lv_iconst (v := 0) hx hb dX7_manyRings_0 rfl ?_
  refine lv_istore_n (lv' := [(1, .int 0), (0, .ref (ad 0))]) hx hb dX7_manyRings_1 rfl hl (by decide) rfl (fun ls hl => ?_)
  refine lv_iconst (v := 0) hx hb dX7_manyRings_2 rfl ?_
  refine lv_istore_n (lv' := [(2, .int 0), (1, .int 0), (0, .ref (ad 0))]) hx hb dX7_manyRings_3 rfl hl (by decide) rfl (fun ls hl => ?_)
  exact b_X7_manyRings_L4 X hN _ hf hP hS (lv_sub hl [2, 1, 0] rfl)
set_option maxHeartbeats 4000000 in
set_option maxRecDepth 100000 in
theorem c_X7_manyRings {l : Launch} {D : va_G} {ad : Nat → Nat} {cI cZ : ClassId} (hN : nj ad 30) {σ : St} {r : Int32} (hf : f_X7_manyRings σ = some r) : Met l yX7_manyRings (.code yX7_manyRings cX7_manyRings 3 (some .int) :: wsL_law) rm_X7_manyRings (va_Pc [.ref (ad 0)] (pw D (wM ad cI cZ) [(cI, .int), (cZ, .boolean)] σ)) (qI D (wM ad cI cZ) (aw ad 30) r σ) 0 0 (aw ad 30) :=
  met_mk (by decide) rfl (Nat.le_of_ble_eq_true rfl) (fun p e s m below meth c X hP ls hl => b_X7_manyRings X hN hf hP va_S.rf hl)
set_option maxHeartbeats 4000000 in
set_option maxRecDepth 100000 in
theorem b_X7_manyBroken_L4 (X : cx p s m meth c args cX7_manyBroken 3 (some .int) RX7 D [(cI, .int), (cZ, .boolean)]) (hN : nj ad 30) : ∀ (n : Nat) {σ : St} {a1 a2 : Int32} {r : Int32}, f_X7_manyBroken_L4 σ n a1 a2 = some r → ∀ {H : Heap} {locs : List Loc} {ls : Array Slot}, va_P D vwCl (wM ad cI cZ σ) H → va_S (aw ad 30) s.heap H locs → lv_has ls 3 [(0, .ref (ad 0)), (1, .int a1), (2, .int a2)] → W p l e rm_X7_manyBroken s m args below meth c H locs 0 0 (MQ below (qI D (wM ad cI cZ) (aw ad 30) r σ) args s 0 0 (aw ad 30)) (F0 m 4 ls []) := by
  intro n
  induction n with
  | zero =>
    intro σ a1 a2 r hf
    rw [f_X7_manyBroken_L4] at hf
    cases hf
  | succ n ih =>
    intro σ a1 a2 r hf H locs ls hP hS hl
    obtain ⟨hx, hb, hml, hown, hts, hr, hlk, hK⟩ := id X
    rw [f_X7_manyBroken_L4] at hf
    refine lv_iload_n hx hb dX7_manyBroken_4 rfl (lv_at hl 2 rfl) ?_
    refine lv_aload_n hx hb dX7_manyBroken_5 rfl (lv_at hl 0 rfl) ?_
    obtain ⟨x1, e_x1, hf⟩ := lf_some hf
    refine fg_X7_153 X hP e_x1 dX7_manyBroken_6 ?_
    refine lv_icmp_ge (tgt := 34) hx hb dX7_manyBroken_9 (by decide) (fun hq => ?_) (fun hq => ?_)
    · have hf := if_t hq hf
      refine lv_iload_n hx hb dX7_manyBroken_34 rfl (lv_at hl 1 rfl) ?_
      exact rI X hP hS hf dX7_manyBroken_35
    · have hf := if_f hq hf
      refine lv_iload_n hx hb dX7_manyBroken_12 rfl (lv_at hl 1 rfl) ?_
      refine lv_aload_n hx hb dX7_manyBroken_13 rfl (lv_at hl 0 rfl) ?_
      refine lv_iload_n hx hb dX7_manyBroken_14 rfl (lv_at hl 2 rfl) ?_
      obtain ⟨x2, hc, hf⟩ := bi_some hf
      refine kVi (As := [.int a2]) (rest := [.int a1]) (wd := (wM ad cI cZ)) (q0 := 0) (ci := 7) X (c_X7_isBroken (l := l) (D := D) (σ := σ) hN hc) (cw_X7_191 X.2.2.2.2.1 ⟨Nat.le_of_ble_eq_true rfl, Nat.le_of_ble_eq_true rfl⟩) rfl rfl hP hS hl rfl rfl (Nat.le_of_ble_eq_true rfl) dX7_manyBroken_15 (fun H locs hP hS => ?_)
      refine lv_if_eq (tgt := 25) hx hb dX7_manyBroken_18 (by decide) (fun hq => ?_) (fun hq => ?_)
      · have hf := if_t hq hf
        refine lv_iconst (v := 0) hx hb dX7_manyBroken_25 rfl ?_
        refine lv_iadd hx hb dX7_manyBroken_26 ?_
        refine lv_istore_n (lv' := [(1, .int (a1 + 0)), (0, .ref (ad 0)), (2, .int a2)]) hx hb dX7_manyBroken_27 rfl hl (by decide) rfl (fun ls hl => ?_)
        refine lv_iinc (v := (a2 + 1)) (lv' := [(2, .int (a2 + 1)), (1, .int (a1 + 0)), (0, .ref (ad 0))]) hx hb dX7_manyBroken_28 hl (k := 2) rfl rfl (by decide) rfl (fun ls hl => ?_)
        refine lv_goto (tgt := 4) hx hb dX7_manyBroken_31 (by decide) ?_
        exact ih hf hP hS (lv_sub hl [2, 1, 0] rfl)
      · have hf := if_f hq hf
        refine lv_iconst (v := 1) hx hb dX7_manyBroken_21 rfl ?_
        refine lv_goto (tgt := 26) hx hb dX7_manyBroken_22 (by decide) ?_
        refine lv_iadd hx hb dX7_manyBroken_26 ?_
        refine lv_istore_n (lv' := [(1, .int (a1 + 1)), (0, .ref (ad 0)), (2, .int a2)]) hx hb dX7_manyBroken_27 rfl hl (by decide) rfl (fun ls hl => ?_)
        refine lv_iinc (v := (a2 + 1)) (lv' := [(2, .int (a2 + 1)), (1, .int (a1 + 1)), (0, .ref (ad 0))]) hx hb dX7_manyBroken_28 hl (k := 2) rfl rfl (by decide) rfl (fun ls hl => ?_)
        refine lv_goto (tgt := 4) hx hb dX7_manyBroken_31 (by decide) ?_
        exact ih hf hP hS (lv_sub hl [2, 1, 0] rfl)
set_option maxHeartbeats 4000000 in
set_option maxRecDepth 100000 in
theorem b_X7_manyBroken (X : cx p s m meth c args cX7_manyBroken 3 (some .int) RX7 D [(cI, .int), (cZ, .boolean)]) (hN : nj ad 30) {σ : St} {r : Int32} (hf : f_X7_manyBroken σ = some r) {H : Heap} {locs : List Loc} {ls : Array Slot} (hP : va_P D vwCl (wM ad cI cZ σ) H) (hS : va_S (aw ad 30) s.heap H locs) (hl : lv_has ls 3 [(0, .ref (ad 0))]) : W p l e rm_X7_manyBroken s m args below meth c H locs 0 0 (MQ below (qI D (wM ad cI cZ) (aw ad 30) r σ) args s 0 0 (aw ad 30)) (F0 m 0 ls []) := by
  obtain ⟨hx, hb, hml, hown, hts, hr, hlk, hK⟩ := id X
  rw [f_X7_manyBroken] at hf
  refine lv_iconst (v := 0) hx hb dX7_manyBroken_0 rfl ?_
  refine lv_istore_n (lv' := [(1, .int 0), (0, .ref (ad 0))]) hx hb dX7_manyBroken_1 rfl hl (by decide) rfl (fun ls hl => ?_)
  refine lv_iconst (v := 0) hx hb dX7_manyBroken_2 rfl ?_
  refine lv_istore_n (lv' := [(2, .int 0), (1, .int 0), (0, .ref (ad 0))]) hx hb dX7_manyBroken_3 rfl hl (by decide) rfl (fun ls hl => ?_)
  exact b_X7_manyBroken_L4 X hN _ hf hP hS (lv_sub hl [2, 1, 0] rfl)
set_option maxHeartbeats 4000000 in
set_option maxRecDepth 100000 in
theorem c_X7_manyBroken {l : Launch} {D : va_G} {ad : Nat → Nat} {cI cZ : ClassId} (hN : nj ad 30) {σ : St} {r : Int32} (hf : f_X7_manyBroken σ = some r) : Met l yX7_manyBroken (.code yX7_manyBroken cX7_manyBroken 3 (some .int) :: wsL_law) rm_X7_manyBroken (va_Pc [.ref (ad 0)] (pw D (wM ad cI cZ) [(cI, .int), (cZ, .boolean)] σ)) (qI D (wM ad cI cZ) (aw ad 30) r σ) 0 0 (aw ad 30) :=
  met_mk (by decide) rfl (Nat.le_of_ble_eq_true rfl) (fun p e s m below meth c X hP ls hl => b_X7_manyBroken X hN hf hP va_S.rf hl)
set_option maxHeartbeats 4000000 in
set_option maxRecDepth 100000 in
theorem b_X7_manyIdle_B58 (X : cx p s m meth c args cX7_manyIdle 4 (some .int) RX7 D [(cI, .int), (cZ, .boolean)]) (hN : nj ad 30) {σ : St} {a1 a2 t0 : Int32} {r : Int32} {K : Int32 → Int32 → Option Int32} (hk : ∀ {b1 b2 : Int32} {H : Heap} {locs : List Loc} {ls : Array Slot}, K b1 b2 = some r → va_P D vwCl (wM ad cI cZ σ) H → va_S (aw ad 30) s.heap H locs → lv_has ls 4 [(0, .ref (ad 0)), (1, .int b1), (2, .int b2)] → W p l e rm_X7_manyIdle s m args below meth c H locs 0 0 (MQ below (qI D (wM ad cI cZ) (aw ad 30) r σ) args s 0 0 (aw ad 30)) (F0 m 4 ls [])) (hf : f_X7_manyIdle_B58 σ K a1 a2 t0 = some r) {H : Heap} {locs : List Loc} {ls : Array Slot} (hP : va_P D vwCl (wM ad cI cZ σ) H) (hS : va_S (aw ad 30) s.heap H locs) (hl : lv_has ls 4 [(0, .ref (ad 0)), (1, .int a1), (2, .int a2)]) : W p l e rm_X7_manyIdle s m args below meth c H locs 0 0 (MQ below (qI D (wM ad cI cZ) (aw ad 30) r σ) args s 0 0 (aw ad 30)) (F0 m 58 ls [.int t0]) := by
  obtain ⟨hx, hb, hml, hown, hts, hr, hlk, hK⟩ := id X
  rw [f_X7_manyIdle_B58] at hf
  refine lv_istore_n (lv' := [(3, .int t0), (0, .ref (ad 0)), (1, .int a1), (2, .int a2)]) hx hb dX7_manyIdle_58 rfl hl (by decide) rfl (fun ls hl => ?_)
  refine lv_iload_n hx hb dX7_manyIdle_59 rfl (lv_at hl 2 rfl) ?_
  refine lv_iload_n hx hb dX7_manyIdle_60 rfl (lv_at hl 0 rfl) ?_
  refine lv_if_eq (tgt := 68) hx hb dX7_manyIdle_61 (by decide) (fun hq => ?_) (fun hq => ?_)
  · have hf := if_t hq hf
    refine lv_iconst (v := 0) hx hb dX7_manyIdle_68 rfl ?_
    refine lv_iadd hx hb dX7_manyIdle_69 ?_
    refine lv_istore_n (lv' := [(1, .int (a1 + 0)), (3, .int t0), (0, .ref (ad 0)), (2, .int a2)]) hx hb dX7_manyIdle_70 rfl hl (by decide) rfl (fun ls hl => ?_)
    refine lv_iinc (v := (a2 + 1)) (lv' := [(2, .int (a2 + 1)), (1, .int (a1 + 0)), (3, .int t0), (0, .ref (ad 0))]) hx hb dX7_manyIdle_71 hl (k := 3) rfl rfl (by decide) rfl (fun ls hl => ?_)
    refine lv_goto (tgt := 4) hx hb dX7_manyIdle_74 (by decide) ?_
    exact hk hf hP hS (lv_sub hl [3, 1, 0] rfl)
  · have hf := if_f hq hf
    refine lv_iconst (v := 1) hx hb dX7_manyIdle_64 rfl ?_
    refine lv_goto (tgt := 69) hx hb dX7_manyIdle_65 (by decide) ?_
    refine lv_iadd hx hb dX7_manyIdle_69 ?_
    refine lv_istore_n (lv' := [(1, .int (a1 + 1)), (3, .int t0), (0, .ref (ad 0)), (2, .int a2)]) hx hb dX7_manyIdle_70 rfl hl (by decide) rfl (fun ls hl => ?_)
    refine lv_iinc (v := (a2 + 1)) (lv' := [(2, .int (a2 + 1)), (1, .int (a1 + 1)), (3, .int t0), (0, .ref (ad 0))]) hx hb dX7_manyIdle_71 hl (k := 3) rfl rfl (by decide) rfl (fun ls hl => ?_)
    refine lv_goto (tgt := 4) hx hb dX7_manyIdle_74 (by decide) ?_
    exact hk hf hP hS (lv_sub hl [3, 1, 0] rfl)
set_option maxHeartbeats 4000000 in
set_option maxRecDepth 100000 in
theorem b_X7_manyIdle_B57 (X : cx p s m meth c args cX7_manyIdle 4 (some .int) RX7 D [(cI, .int), (cZ, .boolean)]) (hN : nj ad 30) {σ : St} {a1 a2 : Int32} {r : Int32} {K : Int32 → Int32 → Option Int32} (hk : ∀ {b1 b2 : Int32} {H : Heap} {locs : List Loc} {ls : Array Slot}, K b1 b2 = some r → va_P D vwCl (wM ad cI cZ σ) H → va_S (aw ad 30) s.heap H locs → lv_has ls 4 [(0, .ref (ad 0)), (1, .int b1), (2, .int b2)] → W p l e rm_X7_manyIdle s m args below meth c H locs 0 0 (MQ below (qI D (wM ad cI cZ) (aw ad 30) r σ) args s 0 0 (aw ad 30)) (F0 m 4 ls [])) (hf : f_X7_manyIdle_B57 σ K a1 a2 = some r) {H : Heap} {locs : List Loc} {ls : Array Slot} (hP : va_P D vwCl (wM ad cI cZ σ) H) (hS : va_S (aw ad 30) s.heap H locs) (hl : lv_has ls 4 [(0, .ref (ad 0)), (1, .int a1), (2, .int a2)]) : W p l e rm_X7_manyIdle s m args below meth c H locs 0 0 (MQ below (qI D (wM ad cI cZ) (aw ad 30) r σ) args s 0 0 (aw ad 30)) (F0 m 57 ls []) := by
  obtain ⟨hx, hb, hml, hown, hts, hr, hlk, hK⟩ := id X
  rw [f_X7_manyIdle_B57] at hf
  refine lv_iconst (v := 0) hx hb dX7_manyIdle_57 rfl ?_
  exact b_X7_manyIdle_B58 X hN hk hf hP hS (lv_sub hl [0, 1, 2] rfl)
set_option maxHeartbeats 4000000 in
set_option maxRecDepth 100000 in
theorem b_X7_manyIdle_L4 (X : cx p s m meth c args cX7_manyIdle 4 (some .int) RX7 D [(cI, .int), (cZ, .boolean)]) (hN : nj ad 30) : ∀ (n : Nat) {σ : St} {a1 a2 : Int32} {r : Int32}, f_X7_manyIdle_L4 σ n a1 a2 = some r → ∀ {H : Heap} {locs : List Loc} {ls : Array Slot}, va_P D vwCl (wM ad cI cZ σ) H → va_S (aw ad 30) s.heap H locs → lv_has ls 4 [(0, .ref (ad 0)), (1, .int a1), (2, .int a2)] → W p l e rm_X7_manyIdle s m args below meth c H locs 0 0 (MQ below (qI D (wM ad cI cZ) (aw ad 30) r σ) args s 0 0 (aw ad 30)) (F0 m 4 ls []) := by
  intro n
  induction n with
  | zero =>
    intro σ a1 a2 r hf
    rw [f_X7_manyIdle_L4] at hf
    cases hf
  | succ n ih =>
    intro σ a1 a2 r hf H locs ls hP hS hl
    obtain ⟨hx, hb, hml, hown, hts, hr, hlk, hK⟩ := id X
    rw [f_X7_manyIdle_L4] at hf
    refine lv_iload_n hx hb dX7_manyIdle_4 rfl (lv_at hl 2 rfl) ?_
    refine lv_aload_n hx hb dX7_manyIdle_5 rfl (lv_at hl 0 rfl) ?_
    obtain ⟨x1, e_x1, hf⟩ := lf_some hf
    refine fg_X7_98 X hP e_x1 dX7_manyIdle_6 ?_
    refine lv_icmp_ge (tgt := 77) hx hb dX7_manyIdle_9 (by decide) (fun hq => ?_) (fun hq => ?_)
    · have hf := if_t hq hf
      refine lv_iload_n hx hb dX7_manyIdle_77 rfl (lv_at hl 1 rfl) ?_
      exact rI X hP hS hf dX7_manyIdle_78
    · have hf := if_f hq hf
      refine lv_aload_n hx hb dX7_manyIdle_12 rfl (lv_at hl 0 rfl) ?_
      refine fg_X7_13 X hP dX7_manyIdle_13 ?_
      refine lv_iload_n hx hb dX7_manyIdle_16 rfl (lv_at hl 2 rfl) ?_
      obtain ⟨hi, x2, e_x2, hf⟩ := ld_some hf
      refine ldr (t0 := 0) X hP wM_2 rfl hi e_x2 dX7_manyIdle_17 ?_
      refine lv_iconst (v := 2) hx hb dX7_manyIdle_18 rfl ?_
      refine lv_icmp_eq (tgt := 57) hx hb dX7_manyIdle_19 (by decide) (fun hq => ?_) (fun hq => ?_)
      · have hf := if_t hq hf
        exact b_X7_manyIdle_B57 X hN (fun hf hP hS hl => ih hf hP hS hl) hf hP hS (lv_sub hl [0, 1, 2] rfl)
      · have hf := if_f hq hf
        refine lv_aload_n hx hb dX7_manyIdle_22 rfl (lv_at hl 0 rfl) ?_
        refine fg_X7_31 X hP dX7_manyIdle_23 ?_
        refine lv_iconst (v := 2) hx hb dX7_manyIdle_26 rfl ?_
        refine lv_iload_n hx hb dX7_manyIdle_27 rfl (lv_at hl 2 rfl) ?_
        refine lv_imul hx hb dX7_manyIdle_28 ?_
        refine lv_iconst (v := 1) hx hb dX7_manyIdle_29 rfl ?_
        refine lv_iadd hx hb dX7_manyIdle_30 ?_
        obtain ⟨hi, x3, e_x3, hf⟩ := ld_some hf
        refine ldr (t0 := 0) X hP wM_8 rfl hi e_x3 dX7_manyIdle_31 ?_
        refine lv_bipush (v := (-9)) hx hb dX7_manyIdle_32 rfl ?_
        refine lv_icmp_eq (tgt := 57) hx hb dX7_manyIdle_34 (by decide) (fun hq => ?_) (fun hq => ?_)
        · have hf := if_t hq hf
          exact b_X7_manyIdle_B57 X hN (fun hf hP hS hl => ih hf hP hS hl) hf hP hS (lv_sub hl [0, 1, 2] rfl)
        · have hf := if_f hq hf
          refine lv_aload_n hx hb dX7_manyIdle_37 rfl (lv_at hl 0 rfl) ?_
          refine fg_X7_83 X hP dX7_manyIdle_38 ?_
          refine lv_aload_n hx hb dX7_manyIdle_41 rfl (lv_at hl 0 rfl) ?_
          refine fg_X7_70 X hP dX7_manyIdle_42 ?_
          refine lv_iload_n hx hb dX7_manyIdle_45 rfl (lv_at hl 2 rfl) ?_
          obtain ⟨hi, x4, e_x4, hf⟩ := ld_some hf
          refine ldr (t0 := 0) X hP wM_21 rfl hi e_x4 dX7_manyIdle_46 ?_
          obtain ⟨hi, x5, e_x5, hf⟩ := ld_some hf
          refine ldr (t0 := 0) X hP wM_25 rfl hi e_x5 dX7_manyIdle_47 ?_
          refine lv_bipush (v := (-9)) hx hb dX7_manyIdle_48 rfl ?_
          refine lv_icmp_ne (tgt := 57) hx hb dX7_manyIdle_50 (by decide) (fun hq => ?_) (fun hq => ?_)
          · have hf := if_f hq hf
            exact b_X7_manyIdle_B57 X hN (fun hf hP hS hl => ih hf hP hS hl) hf hP hS (lv_sub hl [0, 1, 2] rfl)
          · have hf := if_t hq hf
            refine lv_iconst (v := 1) hx hb dX7_manyIdle_53 rfl ?_
            refine lv_goto (tgt := 58) hx hb dX7_manyIdle_54 (by decide) ?_
            exact b_X7_manyIdle_B58 X hN (fun hf hP hS hl => ih hf hP hS hl) hf hP hS (lv_sub hl [0, 1, 2] rfl)
set_option maxHeartbeats 4000000 in
set_option maxRecDepth 100000 in
theorem b_X7_manyIdle (X : cx p s m meth c args cX7_manyIdle 4 (some .int) RX7 D [(cI, .int), (cZ, .boolean)]) (hN : nj ad 30) {σ : St} {r : Int32} (hf : f_X7_manyIdle σ = some r) {H : Heap} {locs : List Loc} {ls : Array Slot} (hP : va_P D vwCl (wM ad cI cZ σ) H) (hS : va_S (aw ad 30) s.heap H locs) (hl : lv_has ls 4 [(0, .ref (ad 0))]) : W p l e rm_X7_manyIdle s m args below meth c H locs 0 0 (MQ below (qI D (wM ad cI cZ) (aw ad 30) r σ) args s 0 0 (aw ad 30)) (F0 m 0 ls []) := by
  obtain ⟨hx, hb, hml, hown, hts, hr, hlk, hK⟩ := id X
  rw [f_X7_manyIdle] at hf
  refine lv_iconst (v := 0) hx hb dX7_manyIdle_0 rfl ?_
  refine lv_istore_n (lv' := [(1, .int 0), (0, .ref (ad 0))]) hx hb dX7_manyIdle_1 rfl hl (by decide) rfl (fun ls hl => ?_)
  refine lv_iconst (v := 0) hx hb dX7_manyIdle_2 rfl ?_
  refine lv_istore_n (lv' := [(2, .int 0), (1, .int 0), (0, .ref (ad 0))]) hx hb dX7_manyIdle_3 rfl hl (by decide) rfl (fun ls hl => ?_)
  exact b_X7_manyIdle_L4 X hN _ hf hP hS (lv_sub hl [2, 1, 0] rfl)
set_option maxHeartbeats 4000000 in
set_option maxRecDepth 100000 in
theorem c_X7_manyIdle {l : Launch} {D : va_G} {ad : Nat → Nat} {cI cZ : ClassId} (hN : nj ad 30) {σ : St} {r : Int32} (hf : f_X7_manyIdle σ = some r) : Met l yX7_manyIdle (.code yX7_manyIdle cX7_manyIdle 4 (some .int) :: wsL_law) rm_X7_manyIdle (va_Pc [.ref (ad 0)] (pw D (wM ad cI cZ) [(cI, .int), (cZ, .boolean)] σ)) (qI D (wM ad cI cZ) (aw ad 30) r σ) 0 0 (aw ad 30) :=
  met_mk (by decide) rfl (Nat.le_of_ble_eq_true rfl) (fun p e s m below meth c X hP ls hl => b_X7_manyIdle X hN hf hP va_S.rf hl)
set_option maxHeartbeats 4000000 in
set_option maxRecDepth 100000 in
theorem b_X7_manyLost_B38 (X : cx p s m meth c args cX7_manyLost 3 (some .int) RX7 D [(cI, .int), (cZ, .boolean)]) (hN : nj ad 30) {σ : St} {a2 t0 : Int32} {r : Int32} {K : Int32 → Int32 → Option Int32} (hk : ∀ {b1 b2 : Int32} {H : Heap} {locs : List Loc} {ls : Array Slot}, K b1 b2 = some r → va_P D vwCl (wM ad cI cZ σ) H → va_S (aw ad 30) s.heap H locs → lv_has ls 3 [(0, .ref (ad 0)), (1, .int b1), (2, .int b2)] → W p l e rm_X7_manyLost s m args below meth c H locs 0 0 (MQ below (qI D (wM ad cI cZ) (aw ad 30) r σ) args s 0 0 (aw ad 30)) (F0 m 4 ls [])) (hf : f_X7_manyLost_B38 σ K a2 t0 = some r) {H : Heap} {locs : List Loc} {ls : Array Slot} (hP : va_P D vwCl (wM ad cI cZ σ) H) (hS : va_S (aw ad 30) s.heap H locs) (hl : lv_has ls 3 [(0, .ref (ad 0)), (2, .int a2)]) : W p l e rm_X7_manyLost s m args below meth c H locs 0 0 (MQ below (qI D (wM ad cI cZ) (aw ad 30) r σ) args s 0 0 (aw ad 30)) (F0 m 38 ls [.int t0]) := by
  obtain ⟨hx, hb, hml, hown, hts, hr, hlk, hK⟩ := id X
  rw [f_X7_manyLost_B38] at hf
  refine lv_iconst (v := 0) hx hb dX7_manyLost_38 rfl ?_
  refine lv_iadd hx hb dX7_manyLost_39 ?_
  refine lv_istore_n (lv' := [(1, .int (t0 + 0)), (0, .ref (ad 0)), (2, .int a2)]) hx hb dX7_manyLost_40 rfl hl (by decide) rfl (fun ls hl => ?_)
  refine lv_iinc (v := (a2 + 1)) (lv' := [(2, .int (a2 + 1)), (1, .int (t0 + 0)), (0, .ref (ad 0))]) hx hb dX7_manyLost_41 hl (k := 2) rfl rfl (by decide) rfl (fun ls hl => ?_)
  refine lv_goto (tgt := 4) hx hb dX7_manyLost_44 (by decide) ?_
  exact hk hf hP hS (lv_sub hl [2, 1, 0] rfl)
set_option maxHeartbeats 4000000 in
set_option maxRecDepth 100000 in
theorem b_X7_manyLost_L4 (X : cx p s m meth c args cX7_manyLost 3 (some .int) RX7 D [(cI, .int), (cZ, .boolean)]) (hN : nj ad 30) : ∀ (n : Nat) {σ : St} {a1 a2 : Int32} {r : Int32}, f_X7_manyLost_L4 σ n a1 a2 = some r → ∀ {H : Heap} {locs : List Loc} {ls : Array Slot}, va_P D vwCl (wM ad cI cZ σ) H → va_S (aw ad 30) s.heap H locs → lv_has ls 3 [(0, .ref (ad 0)), (1, .int a1), (2, .int a2)] → W p l e rm_X7_manyLost s m args below meth c H locs 0 0 (MQ below (qI D (wM ad cI cZ) (aw ad 30) r σ) args s 0 0 (aw ad 30)) (F0 m 4 ls []) := by
  intro n
  induction n with
  | zero =>
    intro σ a1 a2 r hf
    rw [f_X7_manyLost_L4] at hf
    cases hf
  | succ n ih =>
    intro σ a1 a2 r hf H locs ls hP hS hl
    obtain ⟨hx, hb, hml, hown, hts, hr, hlk, hK⟩ := id X
    rw [f_X7_manyLost_L4] at hf
    refine lv_iload_n hx hb dX7_manyLost_4 rfl (lv_at hl 2 rfl) ?_
    refine lv_aload_n hx hb dX7_manyLost_5 rfl (lv_at hl 0 rfl) ?_
    obtain ⟨x1, e_x1, hf⟩ := lf_some hf
    refine fg_X7_98 X hP e_x1 dX7_manyLost_6 ?_
    refine lv_icmp_ge (tgt := 47) hx hb dX7_manyLost_9 (by decide) (fun hq => ?_) (fun hq => ?_)
    · have hf := if_t hq hf
      refine lv_iload_n hx hb dX7_manyLost_47 rfl (lv_at hl 1 rfl) ?_
      exact rI X hP hS hf dX7_manyLost_48
    · have hf := if_f hq hf
      refine lv_iload_n hx hb dX7_manyLost_12 rfl (lv_at hl 1 rfl) ?_
      refine lv_aload_n hx hb dX7_manyLost_13 rfl (lv_at hl 0 rfl) ?_
      refine fg_X7_13 X hP dX7_manyLost_14 ?_
      refine lv_iload_n hx hb dX7_manyLost_17 rfl (lv_at hl 2 rfl) ?_
      obtain ⟨hi, x2, e_x2, hf⟩ := ld_some hf
      refine ldr (t0 := 0) X hP wM_2 rfl hi e_x2 dX7_manyLost_18 ?_
      refine lv_iconst (v := 2) hx hb dX7_manyLost_19 rfl ?_
      refine lv_icmp_ne (tgt := 38) hx hb dX7_manyLost_20 (by decide) (fun hq => ?_) (fun hq => ?_)
      · have hf := if_f hq hf
        exact b_X7_manyLost_B38 X hN (fun hf hP hS hl => ih hf hP hS hl) hf hP hS (lv_sub hl [0, 2] rfl)
      · have hf := if_t hq hf
        refine lv_aload_n hx hb dX7_manyLost_23 rfl (lv_at hl 0 rfl) ?_
        refine fg_X7_52 X hP dX7_manyLost_24 ?_
        refine lv_iload_n hx hb dX7_manyLost_27 rfl (lv_at hl 2 rfl) ?_
        obtain ⟨hi, x3, e_x3, hf⟩ := ld_some hf
        refine ldr (t0 := 0) X hP wM_15 rfl hi e_x3 dX7_manyLost_28 ?_
        refine lv_bipush (v := (-9)) hx hb dX7_manyLost_29 rfl ?_
        refine lv_icmp_ne (tgt := 38) hx hb dX7_manyLost_31 (by decide) (fun hq => ?_) (fun hq => ?_)
        · have hf := if_f hq hf
          exact b_X7_manyLost_B38 X hN (fun hf hP hS hl => ih hf hP hS hl) hf hP hS (lv_sub hl [0, 2] rfl)
        · have hf := if_t hq hf
          refine lv_iconst (v := 1) hx hb dX7_manyLost_34 rfl ?_
          refine lv_goto (tgt := 39) hx hb dX7_manyLost_35 (by decide) ?_
          refine lv_iadd hx hb dX7_manyLost_39 ?_
          refine lv_istore_n (lv' := [(1, .int (a1 + 1)), (0, .ref (ad 0)), (2, .int a2)]) hx hb dX7_manyLost_40 rfl hl (by decide) rfl (fun ls hl => ?_)
          refine lv_iinc (v := (a2 + 1)) (lv' := [(2, .int (a2 + 1)), (1, .int (a1 + 1)), (0, .ref (ad 0))]) hx hb dX7_manyLost_41 hl (k := 2) rfl rfl (by decide) rfl (fun ls hl => ?_)
          refine lv_goto (tgt := 4) hx hb dX7_manyLost_44 (by decide) ?_
          exact ih hf hP hS (lv_sub hl [2, 1, 0] rfl)
set_option maxHeartbeats 4000000 in
set_option maxRecDepth 100000 in
theorem b_X7_manyLost (X : cx p s m meth c args cX7_manyLost 3 (some .int) RX7 D [(cI, .int), (cZ, .boolean)]) (hN : nj ad 30) {σ : St} {r : Int32} (hf : f_X7_manyLost σ = some r) {H : Heap} {locs : List Loc} {ls : Array Slot} (hP : va_P D vwCl (wM ad cI cZ σ) H) (hS : va_S (aw ad 30) s.heap H locs) (hl : lv_has ls 3 [(0, .ref (ad 0))]) : W p l e rm_X7_manyLost s m args below meth c H locs 0 0 (MQ below (qI D (wM ad cI cZ) (aw ad 30) r σ) args s 0 0 (aw ad 30)) (F0 m 0 ls []) := by
  obtain ⟨hx, hb, hml, hown, hts, hr, hlk, hK⟩ := id X
  rw [f_X7_manyLost] at hf
  refine lv_iconst (v := 0) hx hb dX7_manyLost_0 rfl ?_
  refine lv_istore_n (lv' := [(1, .int 0), (0, .ref (ad 0))]) hx hb dX7_manyLost_1 rfl hl (by decide) rfl (fun ls hl => ?_)
  refine lv_iconst (v := 0) hx hb dX7_manyLost_2 rfl ?_
  refine lv_istore_n (lv' := [(2, .int 0), (1, .int 0), (0, .ref (ad 0))]) hx hb dX7_manyLost_3 rfl hl (by decide) rfl (fun ls hl => ?_)
  exact b_X7_manyLost_L4 X hN _ hf hP hS (lv_sub hl [2, 1, 0] rfl)
set_option maxHeartbeats 4000000 in
set_option maxRecDepth 100000 in
theorem c_X7_manyLost {l : Launch} {D : va_G} {ad : Nat → Nat} {cI cZ : ClassId} (hN : nj ad 30) {σ : St} {r : Int32} (hf : f_X7_manyLost σ = some r) : Met l yX7_manyLost (.code yX7_manyLost cX7_manyLost 3 (some .int) :: wsL_law) rm_X7_manyLost (va_Pc [.ref (ad 0)] (pw D (wM ad cI cZ) [(cI, .int), (cZ, .boolean)] σ)) (qI D (wM ad cI cZ) (aw ad 30) r σ) 0 0 (aw ad 30) :=
  met_mk (by decide) rfl (Nat.le_of_ble_eq_true rfl) (fun p e s m below meth c X hP ls hl => b_X7_manyLost X hN hf hP va_S.rf hl)
set_option maxHeartbeats 4000000 in
set_option maxRecDepth 100000 in
theorem b_X7_many (X : cx p s m meth c args cX7_many 2 (some .int) RX7 D [(cI, .int), (cZ, .boolean)]) (hN : nj ad 30) {σ : St} {a1 : Int32} {r : Int32} {σ' : St} (hf : f_X7_many a1 σ = some (r, σ')) {H : Heap} {locs : List Loc} {ls : Array Slot} (hP : va_P D vwCl (wM ad cI cZ σ) H) (hS : va_S (aw ad 30) s.heap H locs) (hl : lv_has ls 2 [(0, .ref (ad 0)), (1, .int a1)]) : W p l e rm_X7_many s m args below meth c H locs 0 0 (MQ below (qI D (wM ad cI cZ) (aw ad 30) r σ') args s 0 0 (aw ad 30)) (F0 m 0 ls []) := by
  obtain ⟨hx, hb, hml, hown, hts, hr, hlk, hK⟩ := id X
  rw [f_X7_many] at hf
  refine lv_aload_n hx hb dX7_many_0 rfl (lv_at hl 0 rfl) ?_
  obtain ⟨σ1, hc, hf⟩ := bs_some hf
  refine kVv (As := []) (rest := []) (wd := (wM ad cI cZ)) (q0 := 0) (ci := 7) X (c_X7_findArticles (l := l) (D := D) (σ := σ) hN hc) (cw_X7_178 X.2.2.2.2.1 ⟨Nat.le_of_ble_eq_true rfl, Nat.le_of_ble_eq_true rfl⟩) rfl rfl hP hS hl rfl rfl (Nat.le_of_ble_eq_true rfl) dX7_many_1 (fun H locs hP hS => ?_)
  refine lv_iload_n hx hb dX7_many_4 rfl (lv_at hl 1 rfl) ?_
  by_cases q0 : a1 = 0
  · have hf := if_t q0 hf
    refine lv_tableIn (off := 63) (tgt := 68) hx hb dX7_many_5 (by rw [q0]; decide) (by rw [q0]; decide) (by rw [q0]; rfl) (by decide) ?_
    refine lv_aload_n hx hb dX7_many_68 rfl (lv_at hl 0 rfl) ?_
    obtain ⟨x2, e_x2, hf⟩ := lf_some hf
    refine fg_X7_98 X hP e_x2 dX7_many_69 ?_
    exact rIe X hP hS hf dX7_many_72
  · have hf := if_f q0 hf
    by_cases q1 : a1 = 1
    · have hf := if_t q1 hf
      refine lv_tableIn (off := 68) (tgt := 73) hx hb dX7_many_5 (by rw [q1]; decide) (by rw [q1]; decide) (by rw [q1]; rfl) (by decide) ?_
      refine lv_aload_n hx hb dX7_many_73 rfl (lv_at hl 0 rfl) ?_
      obtain ⟨x3, e_x3, hf⟩ := lf_some hf
      refine fg_X7_114 X hP e_x3 dX7_many_74 ?_
      exact rIe X hP hS hf dX7_many_77
    · have hf := if_f q1 hf
      by_cases q2 : a1 = 2
      · have hf := if_t q2 hf
        refine lv_tableIn (off := 73) (tgt := 78) hx hb dX7_many_5 (by rw [q2]; decide) (by rw [q2]; decide) (by rw [q2]; rfl) (by decide) ?_
        refine lv_aload_n hx hb dX7_many_78 rfl (lv_at hl 0 rfl) ?_
        refine lv_iconst (v := 0) hx hb dX7_many_79 rfl ?_
        obtain ⟨x4, hc, hf⟩ := bi_some hf
        refine kVi (As := [.int 0]) (rest := []) (wd := (wM ad cI cZ)) (q0 := 0) (ci := 7) X (c_X7_manyOfKind (l := l) (D := D) (σ := σ1) hN hc) (cw_X7_203 X.2.2.2.2.1 ⟨Nat.le_of_ble_eq_true rfl, Nat.le_of_ble_eq_true rfl⟩) rfl rfl hP hS hl rfl rfl (Nat.le_of_ble_eq_true rfl) dX7_many_80 (fun H locs hP hS => ?_)
        exact rIe X hP hS hf dX7_many_83
      · have hf := if_f q2 hf
        by_cases q3 : a1 = 3
        · have hf := if_t q3 hf
          refine lv_tableIn (off := 79) (tgt := 84) hx hb dX7_many_5 (by rw [q3]; decide) (by rw [q3]; decide) (by rw [q3]; rfl) (by decide) ?_
          refine lv_aload_n hx hb dX7_many_84 rfl (lv_at hl 0 rfl) ?_
          refine lv_iconst (v := 1) hx hb dX7_many_85 rfl ?_
          obtain ⟨x5, hc, hf⟩ := bi_some hf
          refine kVi (As := [.int 1]) (rest := []) (wd := (wM ad cI cZ)) (q0 := 0) (ci := 7) X (c_X7_manyOfKind (l := l) (D := D) (σ := σ1) hN hc) (cw_X7_203 X.2.2.2.2.1 ⟨Nat.le_of_ble_eq_true rfl, Nat.le_of_ble_eq_true rfl⟩) rfl rfl hP hS hl rfl rfl (Nat.le_of_ble_eq_true rfl) dX7_many_86 (fun H locs hP hS => ?_)
          exact rIe X hP hS hf dX7_many_89
        · have hf := if_f q3 hf
          by_cases q4 : a1 = 4
          · have hf := if_t q4 hf
            refine lv_tableIn (off := 85) (tgt := 90) hx hb dX7_many_5 (by rw [q4]; decide) (by rw [q4]; decide) (by rw [q4]; rfl) (by decide) ?_
            refine lv_aload_n hx hb dX7_many_90 rfl (lv_at hl 0 rfl) ?_
            obtain ⟨x6, e_x6, hf⟩ := lf_some hf
            refine fg_X7_153 X hP e_x6 dX7_many_91 ?_
            exact rIe X hP hS hf dX7_many_94
          · have hf := if_f q4 hf
            by_cases q5 : a1 = 5
            · have hf := if_t q5 hf
              refine lv_tableIn (off := 90) (tgt := 95) hx hb dX7_many_5 (by rw [q5]; decide) (by rw [q5]; decide) (by rw [q5]; rfl) (by decide) ?_
              refine lv_aload_n hx hb dX7_many_95 rfl (lv_at hl 0 rfl) ?_
              refine lv_iconst (v := 1) hx hb dX7_many_96 rfl ?_
              obtain ⟨x7, hc, hf⟩ := bi_some hf
              refine kVi (As := [.int 1]) (rest := []) (wd := (wM ad cI cZ)) (q0 := 0) (ci := 7) X (c_X7_manyTexts (l := l) (D := D) (σ := σ1) hN hc) (cw_X7_206 X.2.2.2.2.1 ⟨Nat.le_of_ble_eq_true rfl, Nat.le_of_ble_eq_true rfl⟩) rfl rfl hP hS hl rfl rfl (Nat.le_of_ble_eq_true rfl) dX7_many_97 (fun H locs hP hS => ?_)
              exact rIe X hP hS hf dX7_many_100
            · have hf := if_f q5 hf
              by_cases q6 : a1 = 6
              · have hf := if_t q6 hf
                refine lv_tableIn (off := 96) (tgt := 101) hx hb dX7_many_5 (by rw [q6]; decide) (by rw [q6]; decide) (by rw [q6]; rfl) (by decide) ?_
                refine lv_aload_n hx hb dX7_many_101 rfl (lv_at hl 0 rfl) ?_
                refine lv_iconst (v := 0) hx hb dX7_many_102 rfl ?_
                obtain ⟨x8, hc, hf⟩ := bi_some hf
                refine kVi (As := [.int 0]) (rest := []) (wd := (wM ad cI cZ)) (q0 := 0) (ci := 7) X (c_X7_manyTexts (l := l) (D := D) (σ := σ1) hN hc) (cw_X7_206 X.2.2.2.2.1 ⟨Nat.le_of_ble_eq_true rfl, Nat.le_of_ble_eq_true rfl⟩) rfl rfl hP hS hl rfl rfl (Nat.le_of_ble_eq_true rfl) dX7_many_103 (fun H locs hP hS => ?_)
                exact rIe X hP hS hf dX7_many_106
              · have hf := if_f q6 hf
                by_cases q7 : a1 = 7
                · have hf := if_t q7 hf
                  refine lv_tableIn (off := 102) (tgt := 107) hx hb dX7_many_5 (by rw [q7]; decide) (by rw [q7]; decide) (by rw [q7]; rfl) (by decide) ?_
                  refine lv_aload_n hx hb dX7_many_107 rfl (lv_at hl 0 rfl) ?_
                  obtain ⟨x9, e_x9, hf⟩ := lf_some hf
                  refine fg_X7_162 X hP e_x9 dX7_many_108 ?_
                  exact rIe X hP hS hf dX7_many_111
                · have hf := if_f q7 hf
                  by_cases q8 : a1 = 8
                  · have hf := if_t q8 hf
                    refine lv_tableIn (off := 107) (tgt := 112) hx hb dX7_many_5 (by rw [q8]; decide) (by rw [q8]; decide) (by rw [q8]; rfl) (by decide) ?_
                    refine lv_aload_n hx hb dX7_many_112 rfl (lv_at hl 0 rfl) ?_
                    obtain ⟨x10, hc, hf⟩ := bi_some hf
                    refine kVi (As := []) (rest := []) (wd := (wM ad cI cZ)) (q0 := 0) (ci := 7) X (c_X7_manyRings (l := l) (D := D) (σ := σ1) hN hc) (cw_X7_210 X.2.2.2.2.1 ⟨Nat.le_of_ble_eq_true rfl, Nat.le_of_ble_eq_true rfl⟩) rfl rfl hP hS hl rfl rfl (Nat.le_of_ble_eq_true rfl) dX7_many_113 (fun H locs hP hS => ?_)
                    exact rIe X hP hS hf dX7_many_116
                  · have hf := if_f q8 hf
                    by_cases q9 : a1 = 9
                    · have hf := if_t q9 hf
                      refine lv_tableIn (off := 112) (tgt := 117) hx hb dX7_many_5 (by rw [q9]; decide) (by rw [q9]; decide) (by rw [q9]; rfl) (by decide) ?_
                      refine lv_aload_n hx hb dX7_many_117 rfl (lv_at hl 0 rfl) ?_
                      obtain ⟨x11, hc, hf⟩ := bi_some hf
                      refine kVi (As := []) (rest := []) (wd := (wM ad cI cZ)) (q0 := 0) (ci := 7) X (c_X7_manyBroken (l := l) (D := D) (σ := σ1) hN hc) (cw_X7_214 X.2.2.2.2.1 ⟨Nat.le_of_ble_eq_true rfl, Nat.le_of_ble_eq_true rfl⟩) rfl rfl hP hS hl rfl rfl (Nat.le_of_ble_eq_true rfl) dX7_many_118 (fun H locs hP hS => ?_)
                      exact rIe X hP hS hf dX7_many_121
                    · have hf := if_f q9 hf
                      by_cases q10 : a1 = 10
                      · have hf := if_t q10 hf
                        refine lv_tableIn (off := 117) (tgt := 122) hx hb dX7_many_5 (by rw [q10]; decide) (by rw [q10]; decide) (by rw [q10]; rfl) (by decide) ?_
                        refine lv_aload_n hx hb dX7_many_122 rfl (lv_at hl 0 rfl) ?_
                        obtain ⟨x12, hc, hf⟩ := bi_some hf
                        refine kVi (As := []) (rest := []) (wd := (wM ad cI cZ)) (q0 := 0) (ci := 7) X (c_X7_manyIdle (l := l) (D := D) (σ := σ1) hN hc) (cw_X7_217 X.2.2.2.2.1 ⟨Nat.le_of_ble_eq_true rfl, Nat.le_of_ble_eq_true rfl⟩) rfl rfl hP hS hl rfl rfl (Nat.le_of_ble_eq_true rfl) dX7_many_123 (fun H locs hP hS => ?_)
                        exact rIe X hP hS hf dX7_many_126
                      · have hf := if_f q10 hf
                        by_cases q11 : a1 = 11
                        · have hf := if_t q11 hf
                          refine lv_tableIn (off := 122) (tgt := 127) hx hb dX7_many_5 (by rw [q11]; decide) (by rw [q11]; decide) (by rw [q11]; rfl) (by decide) ?_
                          refine lv_aload_n hx hb dX7_many_127 rfl (lv_at hl 0 rfl) ?_
                          obtain ⟨x13, hc, hf⟩ := bi_some hf
                          refine kVi (As := []) (rest := []) (wd := (wM ad cI cZ)) (q0 := 0) (ci := 7) X (c_X7_manyLost (l := l) (D := D) (σ := σ1) hN hc) (cw_X7_220 X.2.2.2.2.1 ⟨Nat.le_of_ble_eq_true rfl, Nat.le_of_ble_eq_true rfl⟩) rfl rfl hP hS hl rfl rfl (Nat.le_of_ble_eq_true rfl) dX7_many_128 (fun H locs hP hS => ?_)
                          exact rIe X hP hS hf dX7_many_131
                        · have hf := if_f q11 hf
                          refine lv_tableOut (tgt := 132) hx hb dX7_many_5 (sw_out 11 (by decide) (fun j hj => ?_)) (by decide) ?_
                          · match j, hj with
                            | 0, _ => exact q0
                            | 1, _ => exact q1
                            | 2, _ => exact q2
                            | 3, _ => exact q3
                            | 4, _ => exact q4
                            | 5, _ => exact q5
                            | 6, _ => exact q6
                            | 7, _ => exact q7
                            | 8, _ => exact q8
                            | 9, _ => exact q9
                            | 10, _ => exact q10
                            | 11, _ => exact q11
                            | j + 12, hj => exact absurd hj (by omega)
                          · refine lv_bipush (v := (-2)) hx hb dX7_many_132 rfl ?_
                            exact rIe X hP hS hf dX7_many_134
set_option maxHeartbeats 4000000 in
set_option maxRecDepth 100000 in
theorem c_X7_many {l : Launch} {D : va_G} {ad : Nat → Nat} {cI cZ : ClassId} (hN : nj ad 30) {σ : St} {a1 : Int32} {r : Int32} {σ' : St} (hf : f_X7_many a1 σ = some (r, σ')) : Met l yX7_many (.code yX7_many cX7_many 2 (some .int) :: wsL_law) rm_X7_many (va_Pc [.ref (ad 0), .int a1] (pw D (wM ad cI cZ) [(cI, .int), (cZ, .boolean)] σ)) (qI D (wM ad cI cZ) (aw ad 30) r σ') 0 0 (aw ad 30) :=
  met_mk (by decide) rfl (Nat.le_of_ble_eq_true rfl) (fun p e s m below meth c X hP ls hl => b_X7_many X hN hf hP va_S.rf hl)
end WALK
