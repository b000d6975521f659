section WALK
variable {p : Program} {l : Launch} {e : Env} {s : State} {m : MethodId} {args : Array Value} {below : List Frame} {meth : Method} {c : Code} {D : va_G} {ad : Nat → Nat} {cI cZ : ClassId}
set_option maxHeartbeats 4000000 in
set_option maxRecDepth 100000 in
theorem b_X5_append (X : cx p s m meth c args cX5_append 2 none RX5 D [(cI, .int)]) (hN : nj ad 34) {σ : St} {a1 : Int32} {σ' : St} (hf : f_X5_append a1 σ = some σ') {H : Heap} {locs : List Loc} {ls : Array Slot} (hP : va_P D vwCl (wC ad cI σ) H) (hS : va_S (aw ad 34) s.heap H locs) (hl : lv_has ls 2 [(0, .ref (ad 5)), (1, .int a1)]) : W p l e rm_X5_append s m args below meth c H locs 0 0 (MQ below (qV D (wC ad cI) (aw ad 34) σ') args s 0 0 (aw ad 34)) (F0 m 0 ls []) := by
  obtain ⟨hx, hb, hml, hown, hts, hr, hlk, hK⟩ := id X
  rw [f_X5_append] at hf
  refine lv_aload_n hx hb dX5_append_0 rfl (lv_at hl 0 rfl) ?_
  refine fg_X5_27 X hP dX5_append_1 ?_
  refine lv_aload_n hx hb dX5_append_4 rfl (lv_at hl 0 rfl) ?_
  obtain ⟨x1, e_x1, hf⟩ := lf_some hf
  refine fg_X5_42 X hP e_x1 dX5_append_5 ?_
  refine lv_iload_n hx hb dX5_append_8 rfl (lv_at hl 1 rfl) ?_
  obtain ⟨hi, σ2, e_σ2, hf⟩ := sd_some hf
  refine str (t0 := 0) X hP (wC_D hN) hS wC_26 wC_s26 rfl hi e_σ2 dX5_append_9 (fun H locs hP hS => ?_)
  refine lv_aload_n hx hb dX5_append_10 rfl (lv_at hl 0 rfl) ?_
  refine lv_dup hx hb dX5_append_11 rfl ?_
  obtain ⟨x3, e_x3, hf⟩ := lf_some hf
  refine fg_X5_42 X hP e_x3 dX5_append_12 ?_
  refine lv_iconst (v := 1) hx hb dX5_append_15 rfl ?_
  refine lv_iadd hx hb dX5_append_16 ?_
  obtain ⟨σ4, e_σ4, hf⟩ := sf_some hf
  refine fp_X5_42 X hN hP hS e_σ4 dX5_append_17 (fun H locs hP hS => ?_)
  exact rVe X hP hS hf dX5_append_20
set_option maxHeartbeats 4000000 in
set_option maxRecDepth 100000 in
theorem c_X5_append {l : Launch} {D : va_G} {ad : Nat → Nat} {cI : ClassId} (hN : nj ad 34) {σ : St} {a1 : Int32} {σ' : St} (hf : f_X5_append a1 σ = some σ') : Met l yX5_append (.code yX5_append cX5_append 2 none :: wsL_law) rm_X5_append (va_Pc [.ref (ad 5), .int a1] (pw D (wC ad cI) [(cI, .int)] σ)) (qV D (wC ad cI) (aw ad 34) σ') 0 0 (aw ad 34) :=
  met_mk (by decide) rfl (Nat.le_of_ble_eq_true rfl) (fun p e s m below meth c X hP ls hl => b_X5_append X hN hf hP va_S.rf hl)
set_option maxHeartbeats 4000000 in
set_option maxRecDepth 100000 in
theorem b_X5_joinNext_B31 (X : cx p s m meth c args cX5_joinNext 3 (some .boolean) RX5 D [(cI, .int)]) (hN : nj ad 34) {σ : St} {a1 t0 : Int32} {r : Int32} {σ' : St} {K : Int32 → St → Option (Int32 × St)} (hk : ∀ {σ : St} {b1 : Int32} {H : Heap} {locs : List Loc} {ls : Array Slot}, K b1 σ = some (r, σ') → va_P D vwCl (wC ad cI σ) H → va_S (aw ad 34) s.heap H locs → lv_has ls 3 [(0, .ref (ad 5)), (1, .int b1)] → W p l e rm_X5_joinNext s m args below meth c H locs 0 0 (MQ below (qI D (wC ad cI) (aw ad 34) r σ') args s 0 0 (aw ad 34)) (F0 m 2 ls [])) (hf : f_X5_joinNext_B31 K a1 t0 σ = some (r, σ')) {H : Heap} {locs : List Loc} {ls : Array Slot} (hP : va_P D vwCl (wC ad cI σ) H) (hS : va_S (aw ad 34) s.heap H locs) (hl : lv_has ls 3 [(0, .ref (ad 5)), (1, .int a1)]) : W p l e rm_X5_joinNext s m args below meth c H locs 0 0 (MQ below (qI D (wC ad cI) (aw ad 34) r σ') args s 0 0 (aw ad 34)) (F0 m 31 ls [.int t0]) := by
  obtain ⟨hx, hb, hml, hown, hts, hr, hlk, hK⟩ := id X
  rw [f_X5_joinNext_B31] at hf
  refine lv_istore_n (lv' := [(2, .int t0), (0, .ref (ad 5)), (1, .int a1)]) hx hb dX5_joinNext_31 rfl hl (by decide) rfl (fun ls hl => ?_)
  refine lv_iload_n hx hb dX5_joinNext_32 rfl (lv_at hl 0 rfl) ?_
  refine lv_bipush (v := (-9)) hx hb dX5_joinNext_33 rfl ?_
  refine lv_icmp_eq (tgt := 64) hx hb dX5_joinNext_35 (by decide) (fun hq => ?_) (fun hq => ?_)
  · have hf := if_t hq hf
    refine lv_iinc (v := (a1 + 1)) (lv' := [(1, .int (a1 + 1)), (2, .int t0), (0, .ref (ad 5))]) hx hb dX5_joinNext_64 hl (k := 2) rfl rfl (by decide) rfl (fun ls hl => ?_)
    refine lv_goto (tgt := 2) hx hb dX5_joinNext_67 (by decide) ?_
    exact hk hf hP hS (lv_sub hl [2, 0] rfl)
  · have hf := if_f hq hf
    refine lv_aload_n hx hb dX5_joinNext_38 rfl (lv_at hl 1 rfl) ?_
    refine fg_X5_15 X hP dX5_joinNext_39 ?_
    refine lv_iload_n hx hb dX5_joinNext_42 rfl (lv_at hl 2 rfl) ?_
    refine lv_iload_n hx hb dX5_joinNext_43 rfl (lv_at hl 0 rfl) ?_
    obtain ⟨hi, σ1, e_σ1, hf⟩ := sd_some hf
    refine str (t0 := 0) X hP (wC_D hN) hS wC_22 wC_s22 rfl hi e_σ1 dX5_joinNext_44 (fun H locs hP hS => ?_)
    refine lv_aload_n hx hb dX5_joinNext_45 rfl (lv_at hl 1 rfl) ?_
    refine fg_X5_18 X hP dX5_joinNext_46 ?_
    refine lv_iload_n hx hb dX5_joinNext_49 rfl (lv_at hl 2 rfl) ?_
    refine lv_aload_n hx hb dX5_joinNext_50 rfl (lv_at hl 1 rfl) ?_
    refine fg_X5_18 X hP dX5_joinNext_51 ?_
    refine lv_iload_n hx hb dX5_joinNext_54 rfl (lv_at hl 0 rfl) ?_
    obtain ⟨hi, x2, e_x2, hf⟩ := ld_some hf
    refine ldr (t0 := 0) X hP wC_23 rfl hi e_x2 dX5_joinNext_55 ?_
    obtain ⟨hi, σ3, e_σ3, hf⟩ := sd_some hf
    refine str (t0 := 0) X hP (wC_D hN) hS wC_23 wC_s23 rfl hi e_σ3 dX5_joinNext_56 (fun H locs hP hS => ?_)
    refine lv_aload_n hx hb dX5_joinNext_57 rfl (lv_at hl 1 rfl) ?_
    refine lv_iload_n hx hb dX5_joinNext_58 rfl (lv_at hl 2 rfl) ?_
    obtain ⟨σ4, hc, hf⟩ := bs_some hf
    refine kVv (As := [.int a1]) (rest := []) (wd := (wC ad cI)) (q0 := 5) (ci := 5) X (c_X5_append (l := l) (D := D) (σ := σ3) hN hc) (cw_X5_72 X.2.2.2.2.1 ⟨Nat.le_of_ble_eq_true rfl, Nat.le_of_ble_eq_true rfl⟩) rfl rfl hP hS hl rfl rfl (Nat.le_of_ble_eq_true rfl) dX5_joinNext_59 (fun H locs hP hS => ?_)
    refine lv_iconst (v := 1) hx hb dX5_joinNext_62 rfl ?_
    exact rZe X hP hS hf dX5_joinNext_63
set_option maxHeartbeats 4000000 in
set_option maxRecDepth 100000 in
theorem b_X5_joinNext_L2 (X : cx p s m meth c args cX5_joinNext 3 (some .boolean) RX5 D [(cI, .int)]) (hN : nj ad 34) : ∀ (n : Nat) {σ : St} {a1 : Int32} {r : Int32} {σ' : St}, f_X5_joinNext_L2 n a1 σ = some (r, σ') → ∀ {H : Heap} {locs : List Loc} {ls : Array Slot}, va_P D vwCl (wC ad cI σ) H → va_S (aw ad 34) s.heap H locs → lv_has ls 3 [(0, .ref (ad 5)), (1, .int a1)] → W p l e rm_X5_joinNext s m args below meth c H locs 0 0 (MQ below (qI D (wC ad cI) (aw ad 34) r σ') args s 0 0 (aw ad 34)) (F0 m 2 ls []) := by
  intro n
  induction n with
  | zero =>
    intro σ a1 r σ' hf
    rw [f_X5_joinNext_L2] at hf
    cases hf
  | succ n ih =>
    intro σ a1 r σ' hf H locs ls hP hS hl
    obtain ⟨hx, hb, hml, hown, hts, hr, hlk, hK⟩ := id X
    rw [f_X5_joinNext_L2] at hf
    refine lv_iload_n hx hb dX5_joinNext_2 rfl (lv_at hl 1 rfl) ?_
    refine lv_aload_n hx hb dX5_joinNext_3 rfl (lv_at hl 0 rfl) ?_
    refine fg_X5_30 X hP dX5_joinNext_4 ?_
    obtain ⟨x1, e_x1, hf⟩ := lf_some hf
    refine fg_X5_46 X hP e_x1 dX5_joinNext_7 ?_
    refine lv_icmp_ge (tgt := 70) hx hb dX5_joinNext_10 (by decide) (fun hq => ?_) (fun hq => ?_)
    · have hf := if_t hq hf
      refine lv_iconst (v := 0) hx hb dX5_joinNext_70 rfl ?_
      exact rZe X hP hS hf dX5_joinNext_71
    · have hf := if_f hq hf
      refine lv_aload_n hx hb dX5_joinNext_13 rfl (lv_at hl 0 rfl) ?_
      refine lv_iload_n hx hb dX5_joinNext_14 rfl (lv_at hl 1 rfl) ?_
      obtain ⟨x2, hc, hf⟩ := bi_some hf
      refine kVi (As := [.int a1]) (rest := []) (wd := (wC ad cI)) (q0 := 5) (ci := 5) X (c_X5_isWithoutStory (l := l) (D := D) (σ := σ) hN hc) (cw_X5_68 X.2.2.2.2.1 ⟨Nat.le_of_ble_eq_true rfl, Nat.le_of_ble_eq_true rfl⟩) rfl rfl hP hS hl rfl rfl (Nat.le_of_ble_eq_true rfl) dX5_joinNext_15 (fun H locs hP hS => ?_)
      refine lv_if_eq (tgt := 29) hx hb dX5_joinNext_18 (by decide) (fun hq => ?_) (fun hq => ?_)
      · have hf := if_t hq hf
        refine lv_bipush (v := (-9)) hx hb dX5_joinNext_29 rfl ?_
        exact b_X5_joinNext_B31 X hN (fun hf hP hS hl => ih hf hP hS hl) hf hP hS (lv_sub hl [0, 1] rfl)
      · have hf := if_f hq hf
        refine lv_aload_n hx hb dX5_joinNext_21 rfl (lv_at hl 0 rfl) ?_
        refine lv_iload_n hx hb dX5_joinNext_22 rfl (lv_at hl 1 rfl) ?_
        obtain ⟨x3, hc, hf⟩ := bi_some hf
        refine kVi (As := [.int a1]) (rest := []) (wd := (wC ad cI)) (q0 := 5) (ci := 5) X (c_X5_takerFor (l := l) (D := D) (σ := σ) hN hc) (cw_X5_85 X.2.2.2.2.1 ⟨Nat.le_of_ble_eq_true rfl, Nat.le_of_ble_eq_true rfl⟩) rfl rfl hP hS hl rfl rfl (Nat.le_of_ble_eq_true rfl) dX5_joinNext_23 (fun H locs hP hS => ?_)
        refine lv_goto (tgt := 31) hx hb dX5_joinNext_26 (by decide) ?_
        exact b_X5_joinNext_B31 X hN (fun hf hP hS hl => ih hf hP hS hl) hf hP hS (lv_sub hl [0, 1] rfl)
set_option maxHeartbeats 4000000 in
set_option maxRecDepth 100000 in
theorem b_X5_joinNext (X : cx p s m meth c args cX5_joinNext 3 (some .boolean) RX5 D [(cI, .int)]) (hN : nj ad 34) {σ : St} {r : Int32} {σ' : St} (hf : f_X5_joinNext σ = some (r, σ')) {H : Heap} {locs : List Loc} {ls : Array Slot} (hP : va_P D vwCl (wC ad cI σ) H) (hS : va_S (aw ad 34) s.heap H locs) (hl : lv_has ls 3 [(0, .ref (ad 5))]) : W p l e rm_X5_joinNext s m args below meth c H locs 0 0 (MQ below (qI D (wC ad cI) (aw ad 34) r σ') args s 0 0 (aw ad 34)) (F0 m 0 ls []) := by
  obtain ⟨hx, hb, hml, hown, hts, hr, hlk, hK⟩ := id X
  rw [f_X5_joinNext] at hf
  refine lv_iconst (v := 0) hx hb dX5_joinNext_0 rfl ?_
  refine lv_istore_n (lv' := [(1, .int 0), (0, .ref (ad 5))]) hx hb dX5_joinNext_1 rfl hl (by decide) rfl (fun ls hl => ?_)
  exact b_X5_joinNext_L2 X hN _ hf hP hS (lv_sub hl [1, 0] rfl)
set_option maxHeartbeats 4000000 in
set_option maxRecDepth 100000 in
theorem c_X5_joinNext {l : Launch} {D : va_G} {ad : Nat → Nat} {cI : ClassId} (hN : nj ad 34) {σ : St} {r : Int32} {σ' : St} (hf : f_X5_joinNext σ = some (r, σ')) : Met l yX5_joinNext (.code yX5_joinNext cX5_joinNext 3 (some .boolean) :: wsL_law) rm_X5_joinNext (va_Pc [.ref (ad 5)] (pw D (wC ad cI) [(cI, .int)] σ)) (qI D (wC ad cI) (aw ad 34) r σ') 0 0 (aw ad 34) :=
  met_mk (by decide) rfl (Nat.le_of_ble_eq_true rfl) (fun p e s m below meth c X hP ls hl => b_X5_joinNext X hN hf hP va_S.rf hl)
set_option maxHeartbeats 4000000 in
set_option maxRecDepth 100000 in
theorem b_X5_giveNumbers_B109 (X : cx p s m meth c args cX5_giveNumbers 2 none RX5 D [(cI, .int)]) (hN : nj ad 34) {σ : St} {a1 t0 t1 : Int32} {σ' : St} {K : Int32 → St → Option St} (hk : ∀ {σ : St} {b1 : Int32} {H : Heap} {locs : List Loc} {ls : Array Slot}, K b1 σ = some σ' → va_P D vwCl (wC ad cI σ) H → va_S (aw ad 34) s.heap H locs → lv_has ls 2 [(0, .ref (ad 5)), (1, .int b1)] → W p l e rm_X5_giveNumbers s m args below meth c H locs 0 0 (MQ below (qV D (wC ad cI) (aw ad 34) σ') args s 0 0 (aw ad 34)) (F0 m 66 ls [])) (hf : f_X5_giveNumbers_B109 K a1 t0 t1 σ = some σ') {H : Heap} {locs : List Loc} {ls : Array Slot} (hP : va_P D vwCl (wC ad cI σ) H) (hS : va_S (aw ad 34) s.heap H locs) (hl : lv_has ls 2 [(0, .ref (ad 5)), (1, .int a1)]) : W p l e rm_X5_giveNumbers s m args below meth c H locs 0 0 (MQ below (qV D (wC ad cI) (aw ad 34) σ') args s 0 0 (aw ad 34)) (F0 m 109 ls [.int t0, .int t1, .ref (ad 24)]) := by
  obtain ⟨hx, hb, hml, hown, hts, hr, hlk, hK⟩ := id X
  rw [f_X5_giveNumbers_B109] at hf
  obtain ⟨hi, σ1, e_σ1, hf⟩ := sd_some hf
  refine str (t0 := 0) X hP (wC_D hN) hS wC_24 wC_s24 rfl hi e_σ1 dX5_giveNumbers_109 (fun H locs hP hS => ?_)
  refine lv_iinc (v := (a1 + 1)) (lv' := [(1, .int (a1 + 1)), (0, .ref (ad 5))]) hx hb dX5_giveNumbers_110 hl (k := 1) rfl rfl (by decide) rfl (fun ls hl => ?_)
  refine lv_goto (tgt := 66) hx hb dX5_giveNumbers_113 (by decide) ?_
  exact hk hf hP hS (lv_sub hl [1, 0] rfl)
set_option maxHeartbeats 4000000 in
set_option maxRecDepth 100000 in
theorem b_X5_giveNumbers_L66 (X : cx p s m meth c args cX5_giveNumbers 2 none RX5 D [(cI, .int)]) (hN : nj ad 34) : ∀ (n : Nat) {σ : St} {a1 : Int32} {σ' : St}, f_X5_giveNumbers_L66 n a1 σ = some σ' → ∀ {H : Heap} {locs : List Loc} {ls : Array Slot}, va_P D vwCl (wC ad cI σ) H → va_S (aw ad 34) s.heap H locs → lv_has ls 2 [(0, .ref (ad 5)), (1, .int a1)] → W p l e rm_X5_giveNumbers s m args below meth c H locs 0 0 (MQ below (qV D (wC ad cI) (aw ad 34) σ') args s 0 0 (aw ad 34)) (F0 m 66 ls []) := by
  intro n
  induction n with
  | zero =>
    intro σ a1 σ' hf
    rw [f_X5_giveNumbers_L66] at hf
    cases hf
  | succ n ih =>
    intro σ a1 σ' hf H locs ls hP hS hl
    obtain ⟨hx, hb, hml, hown, hts, hr, hlk, hK⟩ := id X
    rw [f_X5_giveNumbers_L66] at hf
    refine lv_iload_n hx hb dX5_giveNumbers_66 rfl (lv_at hl 1 rfl) ?_
    refine lv_aload_n hx hb dX5_giveNumbers_67 rfl (lv_at hl 0 rfl) ?_
    refine fg_X5_30 X hP dX5_giveNumbers_68 ?_
    obtain ⟨x1, e_x1, hf⟩ := lf_some hf
    refine fg_X5_46 X hP e_x1 dX5_giveNumbers_71 ?_
    refine lv_icmp_ge (tgt := 116) hx hb dX5_giveNumbers_74 (by decide) (fun hq => ?_) (fun hq => ?_)
    · have hf := if_t hq hf
      exact rVe X hP hS hf dX5_giveNumbers_116
    · have hf := if_f hq hf
      refine lv_aload_n hx hb dX5_giveNumbers_77 rfl (lv_at hl 0 rfl) ?_
      refine fg_X5_21 X hP dX5_giveNumbers_78 ?_
      refine lv_iload_n hx hb dX5_giveNumbers_81 rfl (lv_at hl 1 rfl) ?_
      refine lv_aload_n hx hb dX5_giveNumbers_82 rfl (lv_at hl 0 rfl) ?_
      refine fg_X5_18 X hP dX5_giveNumbers_83 ?_
      refine lv_iload_n hx hb dX5_giveNumbers_86 rfl (lv_at hl 1 rfl) ?_
      obtain ⟨hi, x2, e_x2, hf⟩ := ld_some hf
      refine ldr (t0 := 0) X hP wC_23 rfl hi e_x2 dX5_giveNumbers_87 ?_
      refine lv_bipush (v := (-9)) hx hb dX5_giveNumbers_88 rfl ?_
      refine lv_icmp_ne (tgt := 98) hx hb dX5_giveNumbers_90 (by decide) (fun hq => ?_) (fun hq => ?_)
      · have hf := if_f hq hf
        refine lv_aload_n hx hb dX5_giveNumbers_98 rfl (lv_at hl 0 rfl) ?_
        refine fg_X5_21 X hP dX5_giveNumbers_99 ?_
        refine lv_aload_n hx hb dX5_giveNumbers_102 rfl (lv_at hl 0 rfl) ?_
        refine fg_X5_18 X hP dX5_giveNumbers_103 ?_
        refine lv_iload_n hx hb dX5_giveNumbers_106 rfl (lv_at hl 1 rfl) ?_
        obtain ⟨hi, x3, e_x3, hf⟩ := ld_some hf
        refine ldr (t0 := 0) X hP wC_23 rfl hi e_x3 dX5_giveNumbers_107 ?_
        obtain ⟨hi, x4, e_x4, hf⟩ := ld_some hf
        refine ldr (t0 := 0) X hP wC_24 rfl hi e_x4 dX5_giveNumbers_108 ?_
        exact b_X5_giveNumbers_B109 X hN (fun hf hP hS hl => ih hf hP hS hl) hf hP hS (lv_sub hl [0, 1] rfl)
      · have hf := if_t hq hf
        refine lv_bipush (v := (-9)) hx hb dX5_giveNumbers_93 rfl ?_
        refine lv_goto (tgt := 109) hx hb dX5_giveNumbers_95 (by decide) ?_
        exact b_X5_giveNumbers_B109 X hN (fun hf hP hS hl => ih hf hP hS hl) hf hP hS (lv_sub hl [0, 1] rfl)
set_option maxHeartbeats 4000000 in
set_option maxRecDepth 100000 in
theorem b_X5_giveNumbers_L7 (X : cx p s m meth c args cX5_giveNumbers 2 none RX5 D [(cI, .int)]) (hN : nj ad 34) : ∀ (n : Nat) {σ : St} {a1 : Int32} {σ' : St}, f_X5_giveNumbers_L7 n a1 σ = some σ' → ∀ {H : Heap} {locs : List Loc} {ls : Array Slot}, va_P D vwCl (wC ad cI σ) H → va_S (aw ad 34) s.heap H locs → lv_has ls 2 [(0, .ref (ad 5)), (1, .int a1)] → W p l e rm_X5_giveNumbers s m args below meth c H locs 0 0 (MQ below (qV D (wC ad cI) (aw ad 34) σ') args s 0 0 (aw ad 34)) (F0 m 7 ls []) := by
  intro n
  induction n with
  | zero =>
    intro σ a1 σ' hf
    rw [f_X5_giveNumbers_L7] at hf
    cases hf
  | succ n ih =>
    intro σ a1 σ' hf H locs ls hP hS hl
    obtain ⟨hx, hb, hml, hown, hts, hr, hlk, hK⟩ := id X
    rw [f_X5_giveNumbers_L7] at hf
    refine lv_iload_n hx hb dX5_giveNumbers_7 rfl (lv_at hl 1 rfl) ?_
    refine lv_aload_n hx hb dX5_giveNumbers_8 rfl (lv_at hl 0 rfl) ?_
    refine fg_X5_30 X hP dX5_giveNumbers_9 ?_
    obtain ⟨x1, e_x1, hf⟩ := lf_some hf
    refine fg_X5_46 X hP e_x1 dX5_giveNumbers_12 ?_
    refine lv_icmp_ge (tgt := 64) hx hb dX5_giveNumbers_15 (by decide) (fun hq => ?_) (fun hq => ?_)
    · have hf := if_t hq hf
      refine lv_iconst (v := 0) hx hb dX5_giveNumbers_64 rfl ?_
      refine lv_istore_n (lv' := [(1, .int 0), (0, .ref (ad 5))]) hx hb dX5_giveNumbers_65 rfl hl (by decide) rfl (fun ls hl => ?_)
      exact b_X5_giveNumbers_L66 X hN _ hf hP hS (lv_sub hl [1, 0] rfl)
    · have hf := if_f hq hf
      refine lv_aload_n hx hb dX5_giveNumbers_18 rfl (lv_at hl 0 rfl) ?_
      refine fg_X5_18 X hP dX5_giveNumbers_19 ?_
      refine lv_iload_n hx hb dX5_giveNumbers_22 rfl (lv_at hl 1 rfl) ?_
      obtain ⟨hi, x2, e_x2, hf⟩ := ld_some hf
      refine ldr (t0 := 0) X hP wC_23 rfl hi e_x2 dX5_giveNumbers_23 ?_
      refine lv_iload_n hx hb dX5_giveNumbers_24 rfl (lv_at hl 1 rfl) ?_
      refine lv_icmp_ne (tgt := 58) hx hb dX5_giveNumbers_25 (by decide) (fun hq => ?_) (fun hq => ?_)
      · have hf := if_f hq hf
        refine lv_iinc (v := (a1 + 1)) (lv' := [(1, .int (a1 + 1)), (0, .ref (ad 5))]) hx hb dX5_giveNumbers_58 hl (k := 1) rfl rfl (by decide) rfl (fun ls hl => ?_)
        refine lv_goto (tgt := 7) hx hb dX5_giveNumbers_61 (by decide) ?_
        exact ih hf hP hS (lv_sub hl [1, 0] rfl)
      · have hf := if_t hq hf
        refine lv_aload_n hx hb dX5_giveNumbers_28 rfl (lv_at hl 0 rfl) ?_
        refine fg_X5_24 X hP dX5_giveNumbers_29 ?_
        refine lv_aload_n hx hb dX5_giveNumbers_32 rfl (lv_at hl 0 rfl) ?_
        obtain ⟨x3, e_x3, hf⟩ := lf_some hf
        refine fg_X5_121 X hP e_x3 dX5_giveNumbers_33 ?_
        refine lv_iload_n hx hb dX5_giveNumbers_36 rfl (lv_at hl 1 rfl) ?_
        obtain ⟨hi, σ4, e_σ4, hf⟩ := sd_some hf
        refine str (t0 := 0) X hP (wC_D hN) hS wC_25 wC_s25 rfl hi e_σ4 dX5_giveNumbers_37 (fun H locs hP hS => ?_)
        refine lv_aload_n hx hb dX5_giveNumbers_38 rfl (lv_at hl 0 rfl) ?_
        refine fg_X5_21 X hP dX5_giveNumbers_39 ?_
        refine lv_iload_n hx hb dX5_giveNumbers_42 rfl (lv_at hl 1 rfl) ?_
        refine lv_aload_n hx hb dX5_giveNumbers_43 rfl (lv_at hl 0 rfl) ?_
        obtain ⟨x5, e_x5, hf⟩ := lf_some hf
        refine fg_X5_121 X hP e_x5 dX5_giveNumbers_44 ?_
        obtain ⟨hi, σ6, e_σ6, hf⟩ := sd_some hf
        refine str (t0 := 0) X hP (wC_D hN) hS wC_24 wC_s24 rfl hi e_σ6 dX5_giveNumbers_47 (fun H locs hP hS => ?_)
        refine lv_aload_n hx hb dX5_giveNumbers_48 rfl (lv_at hl 0 rfl) ?_
        refine lv_dup hx hb dX5_giveNumbers_49 rfl ?_
        obtain ⟨x7, e_x7, hf⟩ := lf_some hf
        refine fg_X5_121 X hP e_x7 dX5_giveNumbers_50 ?_
        refine lv_iconst (v := 1) hx hb dX5_giveNumbers_53 rfl ?_
        refine lv_iadd hx hb dX5_giveNumbers_54 ?_
        obtain ⟨σ8, e_σ8, hf⟩ := sf_some hf
        refine fp_X5_121 X hN hP hS e_σ8 dX5_giveNumbers_55 (fun H locs hP hS => ?_)
        refine lv_iinc (v := (a1 + 1)) (lv' := [(1, .int (a1 + 1)), (0, .ref (ad 5))]) hx hb dX5_giveNumbers_58 hl (k := 1) rfl rfl (by decide) rfl (fun ls hl => ?_)
        refine lv_goto (tgt := 7) hx hb dX5_giveNumbers_61 (by decide) ?_
        exact ih hf hP hS (lv_sub hl [1, 0] rfl)
set_option maxHeartbeats 4000000 in
set_option maxRecDepth 100000 in
theorem b_X5_giveNumbers (X : cx p s m meth c args cX5_giveNumbers 2 none RX5 D [(cI, .int)]) (hN : nj ad 34) {σ : St} {σ' : St} (hf : f_X5_giveNumbers σ = some σ') {H : Heap} {locs : List Loc} {ls : Array Slot} (hP : va_P D vwCl (wC ad cI σ) H) (hS : va_S (aw ad 34) s.heap H locs) (hl : lv_has ls 2 [(0, .ref (ad 5))]) : W p l e rm_X5_giveNumbers s m args below meth c H locs 0 0 (MQ below (qV D (wC ad cI) (aw ad 34) σ') args s 0 0 (aw ad 34)) (F0 m 0 ls []) := by
  obtain ⟨hx, hb, hml, hown, hts, hr, hlk, hK⟩ := id X
  rw [f_X5_giveNumbers] at hf
  refine lv_aload_n hx hb dX5_giveNumbers_0 rfl (lv_at hl 0 rfl) ?_
  refine lv_iconst (v := 0) hx hb dX5_giveNumbers_1 rfl ?_
  obtain ⟨σ1, e_σ1, hf⟩ := sf_some hf
  refine fp_X5_121 X hN hP hS e_σ1 dX5_giveNumbers_2 (fun H locs hP hS => ?_)
  refine lv_iconst (v := 0) hx hb dX5_giveNumbers_5 rfl ?_
  refine lv_istore_n (lv' := [(1, .int 0), (0, .ref (ad 5))]) hx hb dX5_giveNumbers_6 rfl hl (by decide) rfl (fun ls hl => ?_)
  exact b_X5_giveNumbers_L7 X hN _ hf hP hS (lv_sub hl [1, 0] rfl)
set_option maxHeartbeats 4000000 in
set_option maxRecDepth 100000 in
theorem c_X5_giveNumbers {l : Launch} {D : va_G} {ad : Nat → Nat} {cI : ClassId} (hN : nj ad 34) {σ : St} {σ' : St} (hf : f_X5_giveNumbers σ = some σ') : Met l yX5_giveNumbers (.code yX5_giveNumbers cX5_giveNumbers 2 none :: wsL_law) rm_X5_giveNumbers (va_Pc [.ref (ad 5)] (pw D (wC ad cI) [(cI, .int)] σ)) (qV D (wC ad cI) (aw ad 34) σ') 0 0 (aw ad 34) :=
  met_mk (by decide) rfl (Nat.le_of_ble_eq_true rfl) (fun p e s m below meth c X hP ls hl => b_X5_giveNumbers X hN hf hP va_S.rf hl)
set_option maxHeartbeats 4000000 in
set_option maxRecDepth 100000 in
theorem b_X5_build_L88 (X : cx p s m meth c args cX5_build 3 none RX5 D [(cI, .int)]) (hN : nj ad 34) : ∀ (n : Nat) {σ : St} {a2 : Int32} {σ' : St}, f_X5_build_L88 n a2 σ = some σ' → ∀ {H : Heap} {locs : List Loc} {ls : Array Slot}, va_P D vwCl (wC ad cI σ) H → va_S (aw ad 34) s.heap H locs → lv_has ls 3 [(0, .ref (ad 5)), (2, .int a2)] → W p l e rm_X5_build s m args below meth c H locs 0 0 (MQ below (qV D (wC ad cI) (aw ad 34) σ') args s 0 0 (aw ad 34)) (F0 m 88 ls []) := by
  intro n
  induction n with
  | zero =>
    intro σ a2 σ' hf
    rw [f_X5_build_L88] at hf
    cases hf
  | succ n ih =>
    intro σ a2 σ' hf H locs ls hP hS hl
    obtain ⟨hx, hb, hml, hown, hts, hr, hlk, hK⟩ := id X
    rw [f_X5_build_L88] at hf
    refine lv_iload_n hx hb dX5_build_88 rfl (lv_at hl 1 rfl) ?_
    refine lv_aload_n hx hb dX5_build_89 rfl (lv_at hl 0 rfl) ?_
    refine fg_X5_30 X hP dX5_build_90 ?_
    obtain ⟨x1, e_x1, hf⟩ := lf_some hf
    refine fg_X5_46 X hP e_x1 dX5_build_93 ?_
    refine lv_icmp_ge (tgt := 125) hx hb dX5_build_96 (by decide) (fun hq => ?_) (fun hq => ?_)
    · have hf := if_t hq hf
      refine lv_aload_n hx hb dX5_build_125 rfl (lv_at hl 0 rfl) ?_
      obtain ⟨σ2, hc, hf⟩ := bs_some hf
      refine kVv (As := []) (rest := []) (wd := (wC ad cI)) (q0 := 5) (ci := 5) X (c_X5_giveNumbers (l := l) (D := D) (σ := σ) hN hc) (cw_X5_75 X.2.2.2.2.1 ⟨Nat.le_of_ble_eq_true rfl, Nat.le_of_ble_eq_true rfl⟩) rfl rfl hP hS hl rfl rfl (Nat.le_of_ble_eq_true rfl) dX5_build_126 (fun H locs hP hS => ?_)
      exact rVe X hP hS hf dX5_build_129
    · have hf := if_f hq hf
      refine lv_aload_n hx hb dX5_build_99 rfl (lv_at hl 0 rfl) ?_
      refine lv_iload_n hx hb dX5_build_100 rfl (lv_at hl 1 rfl) ?_
      obtain ⟨x3, hc, hf⟩ := bi_some hf
      refine kVi (As := [.int a2]) (rest := []) (wd := (wC ad cI)) (q0 := 5) (ci := 5) X (c_X5_isWithoutStory (l := l) (D := D) (σ := σ) hN hc) (cw_X5_68 X.2.2.2.2.1 ⟨Nat.le_of_ble_eq_true rfl, Nat.le_of_ble_eq_true rfl⟩) rfl rfl hP hS hl rfl rfl (Nat.le_of_ble_eq_true rfl) dX5_build_101 (fun H locs hP hS => ?_)
      refine lv_if_eq (tgt := 119) hx hb dX5_build_104 (by decide) (fun hq => ?_) (fun hq => ?_)
      · have hf := if_t hq hf
        refine lv_iinc (v := (a2 + 1)) (lv' := [(2, .int (a2 + 1)), (0, .ref (ad 5))]) hx hb dX5_build_119 hl (k := 1) rfl rfl (by decide) rfl (fun ls hl => ?_)
        refine lv_goto (tgt := 88) hx hb dX5_build_122 (by decide) ?_
        exact ih hf hP hS (lv_sub hl [1, 0] rfl)
      · have hf := if_f hq hf
        refine lv_aload_n hx hb dX5_build_107 rfl (lv_at hl 0 rfl) ?_
        refine fg_X5_18 X hP dX5_build_108 ?_
        refine lv_iload_n hx hb dX5_build_111 rfl (lv_at hl 1 rfl) ?_
        refine lv_iload_n hx hb dX5_build_112 rfl (lv_at hl 1 rfl) ?_
        obtain ⟨hi, σ4, e_σ4, hf⟩ := sd_some hf
        refine str (t0 := 0) X hP (wC_D hN) hS wC_23 wC_s23 rfl hi e_σ4 dX5_build_113 (fun H locs hP hS => ?_)
        refine lv_aload_n hx hb dX5_build_114 rfl (lv_at hl 0 rfl) ?_
        refine lv_iload_n hx hb dX5_build_115 rfl (lv_at hl 1 rfl) ?_
        obtain ⟨σ5, hc, hf⟩ := bs_some hf
        refine kVv (As := [.int a2]) (rest := []) (wd := (wC ad cI)) (q0 := 5) (ci := 5) X (c_X5_append (l := l) (D := D) (σ := σ4) hN hc) (cw_X5_72 X.2.2.2.2.1 ⟨Nat.le_of_ble_eq_true rfl, Nat.le_of_ble_eq_true rfl⟩) rfl rfl hP hS hl rfl rfl (Nat.le_of_ble_eq_true rfl) dX5_build_116 (fun H locs hP hS => ?_)
        refine lv_iinc (v := (a2 + 1)) (lv' := [(2, .int (a2 + 1)), (0, .ref (ad 5))]) hx hb dX5_build_119 hl (k := 1) rfl rfl (by decide) rfl (fun ls hl => ?_)
        refine lv_goto (tgt := 88) hx hb dX5_build_122 (by decide) ?_
        exact ih hf hP hS (lv_sub hl [1, 0] rfl)
set_option maxHeartbeats 4000000 in
set_option maxRecDepth 100000 in
theorem b_X5_build_L62 (X : cx p s m meth c args cX5_build 3 none RX5 D [(cI, .int)]) (hN : nj ad 34) : ∀ (n : Nat) {σ : St} {a1 : Int32} {σ' : St}, f_X5_build_L62 n a1 σ = some σ' → ∀ {H : Heap} {locs : List Loc} {ls : Array Slot}, va_P D vwCl (wC ad cI σ) H → va_S (aw ad 34) s.heap H locs → lv_has ls 3 [(0, .ref (ad 5)), (1, .int a1)] → W p l e rm_X5_build s m args below meth c H locs 0 0 (MQ below (qV D (wC ad cI) (aw ad 34) σ') args s 0 0 (aw ad 34)) (F0 m 62 ls []) := by
  intro n
  induction n with
  | zero =>
    intro σ a1 σ' hf
    rw [f_X5_build_L62] at hf
    cases hf
  | succ n ih =>
    intro σ a1 σ' hf H locs ls hP hS hl
    obtain ⟨hx, hb, hml, hown, hts, hr, hlk, hK⟩ := id X
    rw [f_X5_build_L62] at hf
    refine lv_iload_n hx hb dX5_build_62 rfl (lv_at hl 1 rfl) ?_
    refine lv_aload_n hx hb dX5_build_63 rfl (lv_at hl 0 rfl) ?_
    refine fg_X5_30 X hP dX5_build_64 ?_
    obtain ⟨x1, e_x1, hf⟩ := lf_some hf
    refine fg_X5_46 X hP e_x1 dX5_build_67 ?_
    refine lv_icmp_ge (tgt := 86) hx hb dX5_build_70 (by decide) (fun hq => ?_) (fun hq => ?_)
    · have hf := if_t hq hf
      refine lv_iconst (v := 0) hx hb dX5_build_86 rfl ?_
      refine lv_istore_n (lv' := [(2, .int 0), (0, .ref (ad 5)), (1, .int a1)]) hx hb dX5_build_87 rfl hl (by decide) rfl (fun ls hl => ?_)
      exact b_X5_build_L88 X hN _ hf hP hS (lv_sub hl [1, 0] rfl)
    · have hf := if_f hq hf
      refine lv_aload_n hx hb dX5_build_73 rfl (lv_at hl 0 rfl) ?_
      obtain ⟨x2, σ3, hc, hf⟩ := bp_some hf
      refine kVi (As := []) (rest := []) (wd := (wC ad cI)) (q0 := 5) (ci := 5) X (c_X5_joinNext (l := l) (D := D) (σ := σ) hN hc) (cw_X5_64 X.2.2.2.2.1 ⟨Nat.le_of_ble_eq_true rfl, Nat.le_of_ble_eq_true rfl⟩) rfl rfl hP hS hl rfl rfl (Nat.le_of_ble_eq_true rfl) dX5_build_74 (fun H locs hP hS => ?_)
      refine lv_if_eq (tgt := 86) hx hb dX5_build_77 (by decide) (fun hq => ?_) (fun hq => ?_)
      · have hf := if_t hq hf
        refine lv_iconst (v := 0) hx hb dX5_build_86 rfl ?_
        refine lv_istore_n (lv' := [(2, .int 0), (0, .ref (ad 5)), (1, .int a1)]) hx hb dX5_build_87 rfl hl (by decide) rfl (fun ls hl => ?_)
        exact b_X5_build_L88 X hN _ hf hP hS (lv_sub hl [1, 0] rfl)
      · have hf := if_f hq hf
        refine lv_iinc (v := (a1 + 1)) (lv' := [(1, .int (a1 + 1)), (0, .ref (ad 5))]) hx hb dX5_build_80 hl (k := 1) rfl rfl (by decide) rfl (fun ls hl => ?_)
        refine lv_goto (tgt := 62) hx hb dX5_build_83 (by decide) ?_
        exact ih hf hP hS (lv_sub hl [1, 0] rfl)
set_option maxHeartbeats 4000000 in
set_option maxRecDepth 100000 in
theorem b_X5_build_B48 (X : cx p s m meth c args cX5_build 3 none RX5 D [(cI, .int)]) (hN : nj ad 34) {σ : St} {a1 t0 t1 : Int32} {σ' : St} {K : Int32 → St → Option St} (hk : ∀ {σ : St} {b1 : Int32} {H : Heap} {locs : List Loc} {ls : Array Slot}, K b1 σ = some σ' → va_P D vwCl (wC ad cI σ) H → va_S (aw ad 34) s.heap H locs → lv_has ls 3 [(0, .ref (ad 5)), (1, .int b1)] → W p l e rm_X5_build s m args below meth c H locs 0 0 (MQ below (qV D (wC ad cI) (aw ad 34) σ') args s 0 0 (aw ad 34)) (F0 m 7 ls [])) (hf : f_X5_build_B48 K a1 t0 t1 σ = some σ') {H : Heap} {locs : List Loc} {ls : Array Slot} (hP : va_P D vwCl (wC ad cI σ) H) (hS : va_S (aw ad 34) s.heap H locs) (hl : lv_has ls 3 [(0, .ref (ad 5)), (1, .int a1)]) : W p l e rm_X5_build s m args below meth c H locs 0 0 (MQ below (qV D (wC ad cI) (aw ad 34) σ') args s 0 0 (aw ad 34)) (F0 m 48 ls [.int t0, .int t1, .ref (ad 21)]) := by
  obtain ⟨hx, hb, hml, hown, hts, hr, hlk, hK⟩ := id X
  rw [f_X5_build_B48] at hf
  obtain ⟨hi, σ1, e_σ1, hf⟩ := sd_some hf
  refine str (t0 := 0) X hP (wC_D hN) hS wC_21 wC_s21 rfl hi e_σ1 dX5_build_48 (fun H locs hP hS => ?_)
  refine lv_aload_n hx hb dX5_build_49 rfl (lv_at hl 0 rfl) ?_
  refine lv_iload_n hx hb dX5_build_50 rfl (lv_at hl 1 rfl) ?_
  obtain ⟨σ2, hc, hf⟩ := bs_some hf
  refine kVv (As := [.int a1]) (rest := []) (wd := (wC ad cI)) (q0 := 5) (ci := 5) X (c_X5_putUnderHead (l := l) (D := D) (σ := σ1) hN hc) (cw_X5_60 X.2.2.2.2.1 ⟨Nat.le_of_ble_eq_true rfl, Nat.le_of_ble_eq_true rfl⟩) rfl rfl hP hS hl rfl rfl (Nat.le_of_ble_eq_true rfl) dX5_build_51 (fun H locs hP hS => ?_)
  refine lv_iinc (v := (a1 + 1)) (lv' := [(1, .int (a1 + 1)), (0, .ref (ad 5))]) hx hb dX5_build_54 hl (k := 1) rfl rfl (by decide) rfl (fun ls hl => ?_)
  refine lv_goto (tgt := 7) hx hb dX5_build_57 (by decide) ?_
  exact hk hf hP hS (lv_sub hl [1, 0] rfl)
set_option maxHeartbeats 4000000 in
set_option maxRecDepth 100000 in
theorem b_X5_build_L7 (X : cx p s m meth c args cX5_build 3 none RX5 D [(cI, .int)]) (hN : nj ad 34) : ∀ (n : Nat) {σ : St} {a1 : Int32} {σ' : St}, f_X5_build_L7 n a1 σ = some σ' → ∀ {H : Heap} {locs : List Loc} {ls : Array Slot}, va_P D vwCl (wC ad cI σ) H → va_S (aw ad 34) s.heap H locs → lv_has ls 3 [(0, .ref (ad 5)), (1, .int a1)] → W p l e rm_X5_build s m args below meth c H locs 0 0 (MQ below (qV D (wC ad cI) (aw ad 34) σ') args s 0 0 (aw ad 34)) (F0 m 7 ls []) := by
  intro n
  induction n with
  | zero =>
    intro σ a1 σ' hf
    rw [f_X5_build_L7] at hf
    cases hf
  | succ n ih =>
    intro σ a1 σ' hf H locs ls hP hS hl
    obtain ⟨hx, hb, hml, hown, hts, hr, hlk, hK⟩ := id X
    rw [f_X5_build_L7] at hf
    refine lv_iload_n hx hb dX5_build_7 rfl (lv_at hl 1 rfl) ?_
    refine lv_aload_n hx hb dX5_build_8 rfl (lv_at hl 0 rfl) ?_
    refine fg_X5_30 X hP dX5_build_9 ?_
    obtain ⟨x1, e_x1, hf⟩ := lf_some hf
    refine fg_X5_46 X hP e_x1 dX5_build_12 ?_
    refine lv_icmp_ge (tgt := 60) hx hb dX5_build_15 (by decide) (fun hq => ?_) (fun hq => ?_)
    · have hf := if_t hq hf
      refine lv_iconst (v := 0) hx hb dX5_build_60 rfl ?_
      refine lv_istore_n (lv' := [(1, .int 0), (0, .ref (ad 5))]) hx hb dX5_build_61 rfl hl (by decide) rfl (fun ls hl => ?_)
      exact b_X5_build_L62 X hN _ hf hP hS (lv_sub hl [1, 0] rfl)
    · have hf := if_f hq hf
      refine lv_aload_n hx hb dX5_build_18 rfl (lv_at hl 0 rfl) ?_
      refine fg_X5_9 X hP dX5_build_19 ?_
      refine lv_iload_n hx hb dX5_build_22 rfl (lv_at hl 1 rfl) ?_
      refine lv_aload_n hx hb dX5_build_23 rfl (lv_at hl 0 rfl) ?_
      refine fg_X5_30 X hP dX5_build_24 ?_
      refine fg_X5_51 X hP dX5_build_27 ?_
      refine lv_iload_n hx hb dX5_build_30 rfl (lv_at hl 1 rfl) ?_
      obtain ⟨hi, x2, e_x2, hf⟩ := ld_some hf
      refine ldr (t0 := 0) X hP wC_8 rfl hi e_x2 dX5_build_31 ?_
      refine lv_if_ne (tgt := 40) hx hb dX5_build_32 (by decide) (fun hq => ?_) (fun hq => ?_)
      · have hf := if_f hq hf
        refine lv_aload_n hx hb dX5_build_40 rfl (lv_at hl 0 rfl) ?_
        refine fg_X5_38 X hP dX5_build_41 ?_
        refine lv_iload_n hx hb dX5_build_44 rfl (lv_at hl 1 rfl) ?_
        obtain ⟨x3, hc, hf⟩ := bi_some hf
        refine kVi (As := [.int a1]) (rest := [.int a1, .ref (ad 21)]) (wd := (wC ad cI)) (q0 := 4) (ci := 4) X (c_X4_headOver (l := l) (D := D) (σ := σ) hN hc) (cw_X5_54 X.2.2.2.2.1 ⟨Nat.le_of_ble_eq_true rfl, Nat.le_of_ble_eq_true rfl⟩) rfl rfl hP hS hl rfl rfl (Nat.le_of_ble_eq_true rfl) dX5_build_45 (fun H locs hP hS => ?_)
        exact b_X5_build_B48 X hN (fun hf hP hS hl => ih hf hP hS hl) hf hP hS (lv_sub hl [0, 1] rfl)
      · have hf := if_t hq hf
        refine lv_bipush (v := (-9)) hx hb dX5_build_35 rfl ?_
        refine lv_goto (tgt := 48) hx hb dX5_build_37 (by decide) ?_
        exact b_X5_build_B48 X hN (fun hf hP hS hl => ih hf hP hS hl) hf hP hS (lv_sub hl [0, 1] rfl)
set_option maxHeartbeats 4000000 in
set_option maxRecDepth 100000 in
theorem b_X5_build (X : cx p s m meth c args cX5_build 3 none RX5 D [(cI, .int)]) (hN : nj ad 34) {σ : St} {σ' : St} (hf : f_X5_build σ = some σ') {H : Heap} {locs : List Loc} {ls : Array Slot} (hP : va_P D vwCl (wC ad cI σ) H) (hS : va_S (aw ad 34) s.heap H locs) (hl : lv_has ls 3 [(0, .ref (ad 5))]) : W p l e rm_X5_build s m args below meth c H locs 0 0 (MQ below (qV D (wC ad cI) (aw ad 34) σ') args s 0 0 (aw ad 34)) (F0 m 0 ls []) := by
  obtain ⟨hx, hb, hml, hown, hts, hr, hlk, hK⟩ := id X
  rw [f_X5_build] at hf
  refine lv_aload_n hx hb dX5_build_0 rfl (lv_at hl 0 rfl) ?_
  refine lv_iconst (v := 0) hx hb dX5_build_1 rfl ?_
  obtain ⟨σ1, e_σ1, hf⟩ := sf_some hf
  refine fp_X5_42 X hN hP hS e_σ1 dX5_build_2 (fun H locs hP hS => ?_)
  refine lv_iconst (v := 0) hx hb dX5_build_5 rfl ?_
  refine lv_istore_n (lv' := [(1, .int 0), (0, .ref (ad 5))]) hx hb dX5_build_6 rfl hl (by decide) rfl (fun ls hl => ?_)
  exact b_X5_build_L7 X hN _ hf hP hS (lv_sub hl [1, 0] rfl)
set_option maxHeartbeats 4000000 in
set_option maxRecDepth 100000 in
theorem c_X5_build {l : Launch} {D : va_G} {ad : Nat → Nat} {cI : ClassId} (hN : nj ad 34) {σ : St} {σ' : St} (hf : f_X5_build σ = some σ') : Met l yX5_build (.code yX5_build cX5_build 3 none :: wsL_law) rm_X5_build (va_Pc [.ref (ad 5)] (pw D (wC ad cI) [(cI, .int)] σ)) (qV D (wC ad cI) (aw ad 34) σ') 0 0 (aw ad 34) :=
  met_mk (by decide) rfl (Nat.le_of_ble_eq_true rfl) (fun p e s m below meth c X hP ls hl => b_X5_build X hN hf hP va_S.rf hl)
set_option maxHeartbeats 4000000 in
set_option maxRecDepth 100000 in
theorem b_X5_has (X : cx p s m meth c args cX5_has 2 (some .boolean) RX5 D [(cI, .int)]) (hN : nj ad 34) {σ : St} {a1 : Int32} {r : Int32} (hf : f_X5_has a1 σ = some r) {H : Heap} {locs : List Loc} {ls : Array Slot} (hP : va_P D vwCl (wC ad cI σ) H) (hS : va_S (aw ad 34) s.heap H locs) (hl : lv_has ls 2 [(0, .ref (ad 5)), (1, .int a1)]) : W p l e rm_X5_has s m args below meth c H locs 0 0 (MQ below (qI D (wC ad cI) (aw ad 34) r σ) args s 0 0 (aw ad 34)) (F0 m 0 ls []) := by
  obtain ⟨hx, hb, hml, hown, hts, hr, hlk, hK⟩ := id X
  rw [f_X5_has] at hf
  refine lv_iload_n hx hb dX5_has_0 rfl (lv_at hl 1 rfl) ?_
  refine lv_if_lt (tgt := 16) hx hb dX5_has_1 (by decide) (fun hq => ?_) (fun hq => ?_)
  · have hf := if_t hq hf
    refine lv_iconst (v := 0) hx hb dX5_has_16 rfl ?_
    exact rZ X hP hS hf dX5_has_17
  · have hf := if_f hq hf
    refine lv_iload_n hx hb dX5_has_4 rfl (lv_at hl 1 rfl) ?_
    refine lv_aload_n hx hb dX5_has_5 rfl (lv_at hl 0 rfl) ?_
    obtain ⟨x1, e_x1, hf⟩ := lf_some hf
    refine fg_X5_121 X hP e_x1 dX5_has_6 ?_
    refine lv_icmp_ge (tgt := 16) hx hb dX5_has_9 (by decide) (fun hq => ?_) (fun hq => ?_)
    · have hf := if_t hq hf
      refine lv_iconst (v := 0) hx hb dX5_has_16 rfl ?_
      exact rZ X hP hS hf dX5_has_17
    · have hf := if_f hq hf
      refine lv_iconst (v := 1) hx hb dX5_has_12 rfl ?_
      refine lv_goto (tgt := 17) hx hb dX5_has_13 (by decide) ?_
      exact rZ X hP hS hf dX5_has_17
set_option maxHeartbeats 4000000 in
set_option maxRecDepth 100000 in
theorem c_X5_has {l : Launch} {D : va_G} {ad : Nat → Nat} {cI : ClassId} (hN : nj ad 34) {σ : St} {a1 : Int32} {r : Int32} (hf : f_X5_has a1 σ = some r) : Met l yX5_has (.code yX5_has cX5_has 2 (some .boolean) :: wsL_law) rm_X5_has (va_Pc [.ref (ad 5), .int a1] (pw D (wC ad cI) [(cI, .int)] σ)) (qI D (wC ad cI) (aw ad 34) r σ) 0 0 (aw ad 34) :=
  met_mk (by decide) rfl (Nat.le_of_ble_eq_true rfl) (fun p e s m below meth c X hP ls hl => b_X5_has X hN hf hP va_S.rf hl)
set_option maxHeartbeats 4000000 in
set_option maxRecDepth 100000 in
theorem b_X5_wordsOf_L4 (X : cx p s m meth c args cX5_wordsOf 4 (some .int) RX5 D [(cI, .int)]) (hN : nj ad 34) : ∀ (n : Nat) {σ : St} {a1 a2 a3 : Int32} {r : Int32}, f_X5_wordsOf_L4 σ n a1 a2 a3 = some r → ∀ {H : Heap} {locs : List Loc} {ls : Array Slot}, va_P D vwCl (wC ad cI σ) H → va_S (aw ad 34) s.heap H locs → lv_has ls 4 [(0, .ref (ad 5)), (1, .int a1), (2, .int a2), (3, .int a3)] → W p l e rm_X5_wordsOf s m args below meth c H locs 0 0 (MQ below (qI D (wC ad cI) (aw ad 34) r σ) args s 0 0 (aw ad 34)) (F0 m 4 ls []) := by
  intro n
  induction n with
  | zero =>
    intro σ a1 a2 a3 r hf
    rw [f_X5_wordsOf_L4] at hf
    cases hf
  | succ n ih =>
    intro σ a1 a2 a3 r hf H locs ls hP hS hl
    obtain ⟨hx, hb, hml, hown, hts, hr, hlk, hK⟩ := id X
    rw [f_X5_wordsOf_L4] at hf
    refine lv_iload_n hx hb dX5_wordsOf_4 rfl (lv_at hl 3 rfl) ?_
    refine lv_aload_n hx hb dX5_wordsOf_5 rfl (lv_at hl 0 rfl) ?_
    obtain ⟨x1, e_x1, hf⟩ := lf_some hf
    refine fg_X5_42 X hP e_x1 dX5_wordsOf_6 ?_
    refine lv_icmp_ge (tgt := 50) hx hb dX5_wordsOf_9 (by decide) (fun hq => ?_) (fun hq => ?_)
    · have hf := if_t hq hf
      refine lv_iload_n hx hb dX5_wordsOf_50 rfl (lv_at hl 2 rfl) ?_
      exact rI X hP hS hf dX5_wordsOf_51
    · have hf := if_f hq hf
      refine lv_aload_n hx hb dX5_wordsOf_12 rfl (lv_at hl 0 rfl) ?_
      refine fg_X5_21 X hP dX5_wordsOf_13 ?_
      refine lv_aload_n hx hb dX5_wordsOf_16 rfl (lv_at hl 0 rfl) ?_
      refine fg_X5_27 X hP dX5_wordsOf_17 ?_
      refine lv_iload_n hx hb dX5_wordsOf_20 rfl (lv_at hl 3 rfl) ?_
      obtain ⟨hi, x2, e_x2, hf⟩ := ld_some hf
      refine ldr (t0 := 0) X hP wC_26 rfl hi e_x2 dX5_wordsOf_21 ?_
      obtain ⟨hi, x3, e_x3, hf⟩ := ld_some hf
      refine ldr (t0 := 0) X hP wC_24 rfl hi e_x3 dX5_wordsOf_22 ?_
      refine lv_iload_n hx hb dX5_wordsOf_23 rfl (lv_at hl 1 rfl) ?_
      refine lv_icmp_ne (tgt := 44) hx hb dX5_wordsOf_24 (by decide) (fun hq => ?_) (fun hq => ?_)
      · have hf := if_f hq hf
        refine lv_iinc (v := (a3 + 1)) (lv' := [(3, .int (a3 + 1)), (0, .ref (ad 5)), (1, .int a1), (2, .int a2)]) hx hb dX5_wordsOf_44 hl (k := 3) rfl rfl (by decide) rfl (fun ls hl => ?_)
        refine lv_goto (tgt := 4) hx hb dX5_wordsOf_47 (by decide) ?_
        exact ih hf hP hS (lv_sub hl [1, 2, 3, 0] rfl)
      · have hf := if_t hq hf
        refine lv_iload_n hx hb dX5_wordsOf_27 rfl (lv_at hl 2 rfl) ?_
        refine lv_aload_n hx hb dX5_wordsOf_28 rfl (lv_at hl 0 rfl) ?_
        refine fg_X5_30 X hP dX5_wordsOf_29 ?_
        refine fg_X5_122 X hP dX5_wordsOf_32 ?_
        refine lv_aload_n hx hb dX5_wordsOf_35 rfl (lv_at hl 0 rfl) ?_
        refine fg_X5_27 X hP dX5_wordsOf_36 ?_
        refine lv_iload_n hx hb dX5_wordsOf_39 rfl (lv_at hl 3 rfl) ?_
        obtain ⟨hi, x4, e_x4, hf⟩ := ld_some hf
        refine ldr (t0 := 0) X hP wC_26 rfl hi e_x4 dX5_wordsOf_40 ?_
        obtain ⟨hi, x5, e_x5, hf⟩ := ld_some hf
        refine ldr (t0 := 0) X hP wC_13 rfl hi e_x5 dX5_wordsOf_41 ?_
        refine lv_iadd hx hb dX5_wordsOf_42 ?_
        refine lv_istore_n (lv' := [(2, .int (a2 + x5)), (0, .ref (ad 5)), (1, .int a1), (3, .int a3)]) hx hb dX5_wordsOf_43 rfl hl (by decide) rfl (fun ls hl => ?_)
        refine lv_iinc (v := (a3 + 1)) (lv' := [(3, .int (a3 + 1)), (2, .int (a2 + x5)), (0, .ref (ad 5)), (1, .int a1)]) hx hb dX5_wordsOf_44 hl (k := 3) rfl rfl (by decide) rfl (fun ls hl => ?_)
        refine lv_goto (tgt := 4) hx hb dX5_wordsOf_47 (by decide) ?_
        exact ih hf hP hS (lv_sub hl [2, 3, 1, 0] rfl)
set_option maxHeartbeats 4000000 in
set_option maxRecDepth 100000 in
theorem b_X5_wordsOf (X : cx p s m meth c args cX5_wordsOf 4 (some .int) RX5 D [(cI, .int)]) (hN : nj ad 34) {σ : St} {a1 : Int32} {r : Int32} (hf : f_X5_wordsOf a1 σ = some r) {H : Heap} {locs : List Loc} {ls : Array Slot} (hP : va_P D vwCl (wC ad cI σ) H) (hS : va_S (aw ad 34) s.heap H locs) (hl : lv_has ls 4 [(0, .ref (ad 5)), (1, .int a1)]) : W p l e rm_X5_wordsOf s m args below meth c H locs 0 0 (MQ below (qI D (wC ad cI) (aw ad 34) r σ) args s 0 0 (aw ad 34)) (F0 m 0 ls []) := by
  obtain ⟨hx, hb, hml, hown, hts, hr, hlk, hK⟩ := id X
  rw [f_X5_wordsOf] at hf
  refine lv_iconst (v := 0) hx hb dX5_wordsOf_0 rfl ?_
  refine lv_istore_n (lv' := [(2, .int 0), (0, .ref (ad 5)), (1, .int a1)]) hx hb dX5_wordsOf_1 rfl hl (by decide) rfl (fun ls hl => ?_)
  refine lv_iconst (v := 0) hx hb dX5_wordsOf_2 rfl ?_
  refine lv_istore_n (lv' := [(3, .int 0), (2, .int 0), (0, .ref (ad 5)), (1, .int a1)]) hx hb dX5_wordsOf_3 rfl hl (by decide) rfl (fun ls hl => ?_)
  exact b_X5_wordsOf_L4 X hN _ hf hP hS (lv_sub hl [2, 3, 1, 0] rfl)
set_option maxHeartbeats 4000000 in
set_option maxRecDepth 100000 in
theorem c_X5_wordsOf {l : Launch} {D : va_G} {ad : Nat → Nat} {cI : ClassId} (hN : nj ad 34) {σ : St} {a1 : Int32} {r : Int32} (hf : f_X5_wordsOf a1 σ = some r) : Met l yX5_wordsOf (.code yX5_wordsOf cX5_wordsOf 4 (some .int) :: wsL_law) rm_X5_wordsOf (va_Pc [.ref (ad 5), .int a1] (pw D (wC ad cI) [(cI, .int)] σ)) (qI D (wC ad cI) (aw ad 34) r σ) 0 0 (aw ad 34) :=
  met_mk (by decide) rfl (Nat.le_of_ble_eq_true rfl) (fun p e s m below meth c X hP ls hl => b_X5_wordsOf X hN hf hP va_S.rf hl)
set_option maxHeartbeats 4000000 in
set_option maxRecDepth 100000 in
theorem b_X5_picturesOf_L4 (X : cx p s m meth c args cX5_picturesOf 4 (some .int) RX5 D [(cI, .int)]) (hN : nj ad 34) : ∀ (n : Nat) {σ : St} {a1 a2 a3 : Int32} {r : Int32}, f_X5_picturesOf_L4 σ n a1 a2 a3 = some r → ∀ {H : Heap} {locs : List Loc} {ls : Array Slot}, va_P D vwCl (wC ad cI σ) H → va_S (aw ad 34) s.heap H locs → lv_has ls 4 [(0, .ref (ad 5)), (1, .int a1), (2, .int a2), (3, .int a3)] → W p l e rm_X5_picturesOf s m args below meth c H locs 0 0 (MQ below (qI D (wC ad cI) (aw ad 34) r σ) args s 0 0 (aw ad 34)) (F0 m 4 ls []) := by
  intro n
  induction n with
  | zero =>
    intro σ a1 a2 a3 r hf
    rw [f_X5_picturesOf_L4] at hf
    cases hf
  | succ n ih =>
    intro σ a1 a2 a3 r hf H locs ls hP hS hl
    obtain ⟨hx, hb, hml, hown, hts, hr, hlk, hK⟩ := id X
    rw [f_X5_picturesOf_L4] at hf
    refine lv_iload_n hx hb dX5_picturesOf_4 rfl (lv_at hl 3 rfl) ?_
    refine lv_aload_n hx hb dX5_picturesOf_5 rfl (lv_at hl 0 rfl) ?_
    refine fg_X5_30 X hP dX5_picturesOf_6 ?_
    obtain ⟨x1, e_x1, hf⟩ := lf_some hf
    refine fg_X5_46 X hP e_x1 dX5_picturesOf_9 ?_
    refine lv_icmp_ge (tgt := 47) hx hb dX5_picturesOf_12 (by decide) (fun hq => ?_) (fun hq => ?_)
    · have hf := if_t hq hf
      refine lv_iload_n hx hb dX5_picturesOf_47 rfl (lv_at hl 2 rfl) ?_
      exact rI X hP hS hf dX5_picturesOf_48
    · have hf := if_f hq hf
      refine lv_aload_n hx hb dX5_picturesOf_15 rfl (lv_at hl 0 rfl) ?_
      refine fg_X5_30 X hP dX5_picturesOf_16 ?_
      refine fg_X5_51 X hP dX5_picturesOf_19 ?_
      refine lv_iload_n hx hb dX5_picturesOf_22 rfl (lv_at hl 3 rfl) ?_
      obtain ⟨hi, x2, e_x2, hf⟩ := ld_some hf
      refine ldr (t0 := 0) X hP wC_8 rfl hi e_x2 dX5_picturesOf_23 ?_
      refine lv_iconst (v := 2) hx hb dX5_picturesOf_24 rfl ?_
      refine lv_icmp_ne (tgt := 41) hx hb dX5_picturesOf_25 (by decide) (fun hq => ?_) (fun hq => ?_)
      · have hf := if_f hq hf
        refine lv_iinc (v := (a3 + 1)) (lv' := [(3, .int (a3 + 1)), (0, .ref (ad 5)), (1, .int a1), (2, .int a2)]) hx hb dX5_picturesOf_41 hl (k := 3) rfl rfl (by decide) rfl (fun ls hl => ?_)
        refine lv_goto (tgt := 4) hx hb dX5_picturesOf_44 (by decide) ?_
        exact ih hf hP hS (lv_sub hl [1, 2, 3, 0] rfl)
      · have hf := if_t hq hf
        refine lv_aload_n hx hb dX5_picturesOf_28 rfl (lv_at hl 0 rfl) ?_
        refine fg_X5_21 X hP dX5_picturesOf_29 ?_
        refine lv_iload_n hx hb dX5_picturesOf_32 rfl (lv_at hl 3 rfl) ?_
        obtain ⟨hi, x3, e_x3, hf⟩ := ld_some hf
        refine ldr (t0 := 0) X hP wC_24 rfl hi e_x3 dX5_picturesOf_33 ?_
        refine lv_iload_n hx hb dX5_picturesOf_34 rfl (lv_at hl 1 rfl) ?_
        refine lv_icmp_ne (tgt := 41) hx hb dX5_picturesOf_35 (by decide) (fun hq => ?_) (fun hq => ?_)
        · have hf := if_f hq hf
          refine lv_iinc (v := (a3 + 1)) (lv' := [(3, .int (a3 + 1)), (0, .ref (ad 5)), (1, .int a1), (2, .int a2)]) hx hb dX5_picturesOf_41 hl (k := 3) rfl rfl (by decide) rfl (fun ls hl => ?_)
          refine lv_goto (tgt := 4) hx hb dX5_picturesOf_44 (by decide) ?_
          exact ih hf hP hS (lv_sub hl [1, 2, 3, 0] rfl)
        · have hf := if_t hq hf
          refine lv_iinc (v := (a2 + 1)) (lv' := [(2, .int (a2 + 1)), (0, .ref (ad 5)), (1, .int a1), (3, .int a3)]) hx hb dX5_picturesOf_38 hl (k := 2) rfl rfl (by decide) rfl (fun ls hl => ?_)
          refine lv_iinc (v := (a3 + 1)) (lv' := [(3, .int (a3 + 1)), (2, .int (a2 + 1)), (0, .ref (ad 5)), (1, .int a1)]) hx hb dX5_picturesOf_41 hl (k := 3) rfl rfl (by decide) rfl (fun ls hl => ?_)
          refine lv_goto (tgt := 4) hx hb dX5_picturesOf_44 (by decide) ?_
          exact ih hf hP hS (lv_sub hl [2, 3, 1, 0] rfl)
set_option maxHeartbeats 4000000 in
set_option maxRecDepth 100000 in
theorem b_X5_picturesOf (X : cx p s m meth c args cX5_picturesOf 4 (some .int) RX5 D [(cI, .int)]) (hN : nj ad 34) {σ : St} {a1 : Int32} {r : Int32} (hf : f_X5_picturesOf a1 σ = some r) {H : Heap} {locs : List Loc} {ls : Array Slot} (hP : va_P D vwCl (wC ad cI σ) H) (hS : va_S (aw ad 34) s.heap H locs) (hl : lv_has ls 4 [(0, .ref (ad 5)), (1, .int a1)]) : W p l e rm_X5_picturesOf s m args below meth c H locs 0 0 (MQ below (qI D (wC ad cI) (aw ad 34) r σ) args s 0 0 (aw ad 34)) (F0 m 0 ls []) := by
  obtain ⟨hx, hb, hml, hown, hts, hr, hlk, hK⟩ := id X
  rw [f_X5_picturesOf] at hf
  refine lv_iconst (v := 0) hx hb dX5_picturesOf_0 rfl ?_
  refine lv_istore_n (lv' := [(2, .int 0), (0, .ref (ad 5)), (1, .int a1)]) hx hb dX5_picturesOf_1 rfl hl (by decide) rfl (fun ls hl => ?_)
  refine lv_iconst (v := 0) hx hb dX5_picturesOf_2 rfl ?_
  refine lv_istore_n (lv' := [(3, .int 0), (2, .int 0), (0, .ref (ad 5)), (1, .int a1)]) hx hb dX5_picturesOf_3 rfl hl (by decide) rfl (fun ls hl => ?_)
  exact b_X5_picturesOf_L4 X hN _ hf hP hS (lv_sub hl [2, 3, 1, 0] rfl)
set_option maxHeartbeats 4000000 in
set_option maxRecDepth 100000 in
theorem c_X5_picturesOf {l : Launch} {D : va_G} {ad : Nat → Nat} {cI : ClassId} (hN : nj ad 34) {σ : St} {a1 : Int32} {r : Int32} (hf : f_X5_picturesOf a1 σ = some r) : Met l yX5_picturesOf (.code yX5_picturesOf cX5_picturesOf 4 (some .int) :: wsL_law) rm_X5_picturesOf (va_Pc [.ref (ad 5), .int a1] (pw D (wC ad cI) [(cI, .int)] σ)) (qI D (wC ad cI) (aw ad 34) r σ) 0 0 (aw ad 34) :=
  met_mk (by decide) rfl (Nat.le_of_ble_eq_true rfl) (fun p e s m below meth c X hP ls hl => b_X5_picturesOf X hN hf hP va_S.rf hl)
set_option maxHeartbeats 4000000 in
set_option maxRecDepth 100000 in
theorem b_X5_joinedOf_L4 (X : cx p s m meth c args cX5_joinedOf 4 (some .int) RX5 D [(cI, .int)]) (hN : nj ad 34) : ∀ (n : Nat) {σ : St} {a1 a2 a3 : Int32} {r : Int32}, f_X5_joinedOf_L4 σ n a1 a2 a3 = some r → ∀ {H : Heap} {locs : List Loc} {ls : Array Slot}, va_P D vwCl (wC ad cI σ) H → va_S (aw ad 34) s.heap H locs → lv_has ls 4 [(0, .ref (ad 5)), (1, .int a1), (2, .int a2), (3, .int a3)] → W p l e rm_X5_joinedOf s m args below meth c H locs 0 0 (MQ below (qI D (wC ad cI) (aw ad 34) r σ) args s 0 0 (aw ad 34)) (F0 m 4 ls []) := by
  intro n
  induction n with
  | zero =>
    intro σ a1 a2 a3 r hf
    rw [f_X5_joinedOf_L4] at hf
    cases hf
  | succ n ih =>
    intro σ a1 a2 a3 r hf H locs ls hP hS hl
    obtain ⟨hx, hb, hml, hown, hts, hr, hlk, hK⟩ := id X
    rw [f_X5_joinedOf_L4] at hf
    refine lv_iload_n hx hb dX5_joinedOf_4 rfl (lv_at hl 3 rfl) ?_
    refine lv_aload_n hx hb dX5_joinedOf_5 rfl (lv_at hl 0 rfl) ?_
    refine fg_X5_30 X hP dX5_joinedOf_6 ?_
    obtain ⟨x1, e_x1, hf⟩ := lf_some hf
    refine fg_X5_46 X hP e_x1 dX5_joinedOf_9 ?_
    refine lv_icmp_ge (tgt := 45) hx hb dX5_joinedOf_12 (by decide) (fun hq => ?_) (fun hq => ?_)
    · have hf := if_t hq hf
      refine lv_iload_n hx hb dX5_joinedOf_45 rfl (lv_at hl 2 rfl) ?_
      exact rI X hP hS hf dX5_joinedOf_46
    · have hf := if_f hq hf
      refine lv_aload_n hx hb dX5_joinedOf_15 rfl (lv_at hl 0 rfl) ?_
      refine fg_X5_15 X hP dX5_joinedOf_16 ?_
      refine lv_iload_n hx hb dX5_joinedOf_19 rfl (lv_at hl 3 rfl) ?_
      obtain ⟨hi, x2, e_x2, hf⟩ := ld_some hf
      refine ldr (t0 := 0) X hP wC_22 rfl hi e_x2 dX5_joinedOf_20 ?_
      refine lv_bipush (v := (-9)) hx hb dX5_joinedOf_21 rfl ?_
      refine lv_icmp_eq (tgt := 39) hx hb dX5_joinedOf_23 (by decide) (fun hq => ?_) (fun hq => ?_)
      · have hf := if_t hq hf
        refine lv_iinc (v := (a3 + 1)) (lv' := [(3, .int (a3 + 1)), (0, .ref (ad 5)), (1, .int a1), (2, .int a2)]) hx hb dX5_joinedOf_39 hl (k := 3) rfl rfl (by decide) rfl (fun ls hl => ?_)
        refine lv_goto (tgt := 4) hx hb dX5_joinedOf_42 (by decide) ?_
        exact ih hf hP hS (lv_sub hl [1, 2, 3, 0] rfl)
      · have hf := if_f hq hf
        refine lv_aload_n hx hb dX5_joinedOf_26 rfl (lv_at hl 0 rfl) ?_
        refine fg_X5_21 X hP dX5_joinedOf_27 ?_
        refine lv_iload_n hx hb dX5_joinedOf_30 rfl (lv_at hl 3 rfl) ?_
        obtain ⟨hi, x3, e_x3, hf⟩ := ld_some hf
        refine ldr (t0 := 0) X hP wC_24 rfl hi e_x3 dX5_joinedOf_31 ?_
        refine lv_iload_n hx hb dX5_joinedOf_32 rfl (lv_at hl 1 rfl) ?_
        refine lv_icmp_ne (tgt := 39) hx hb dX5_joinedOf_33 (by decide) (fun hq => ?_) (fun hq => ?_)
        · have hf := if_f hq hf
          refine lv_iinc (v := (a3 + 1)) (lv' := [(3, .int (a3 + 1)), (0, .ref (ad 5)), (1, .int a1), (2, .int a2)]) hx hb dX5_joinedOf_39 hl (k := 3) rfl rfl (by decide) rfl (fun ls hl => ?_)
          refine lv_goto (tgt := 4) hx hb dX5_joinedOf_42 (by decide) ?_
          exact ih hf hP hS (lv_sub hl [1, 2, 3, 0] rfl)
        · have hf := if_t hq hf
          refine lv_iinc (v := (a2 + 1)) (lv' := [(2, .int (a2 + 1)), (0, .ref (ad 5)), (1, .int a1), (3, .int a3)]) hx hb dX5_joinedOf_36 hl (k := 2) rfl rfl (by decide) rfl (fun ls hl => ?_)
          refine lv_iinc (v := (a3 + 1)) (lv' := [(3, .int (a3 + 1)), (2, .int (a2 + 1)), (0, .ref (ad 5)), (1, .int a1)]) hx hb dX5_joinedOf_39 hl (k := 3) rfl rfl (by decide) rfl (fun ls hl => ?_)
          refine lv_goto (tgt := 4) hx hb dX5_joinedOf_42 (by decide) ?_
          exact ih hf hP hS (lv_sub hl [2, 3, 1, 0] rfl)
set_option maxHeartbeats 4000000 in
set_option maxRecDepth 100000 in
theorem b_X5_joinedOf (X : cx p s m meth c args cX5_joinedOf 4 (some .int) RX5 D [(cI, .int)]) (hN : nj ad 34) {σ : St} {a1 : Int32} {r : Int32} (hf : f_X5_joinedOf a1 σ = some r) {H : Heap} {locs : List Loc} {ls : Array Slot} (hP : va_P D vwCl (wC ad cI σ) H) (hS : va_S (aw ad 34) s.heap H locs) (hl : lv_has ls 4 [(0, .ref (ad 5)), (1, .int a1)]) : W p l e rm_X5_joinedOf s m args below meth c H locs 0 0 (MQ below (qI D (wC ad cI) (aw ad 34) r σ) args s 0 0 (aw ad 34)) (F0 m 0 ls []) := by
  obtain ⟨hx, hb, hml, hown, hts, hr, hlk, hK⟩ := id X
  rw [f_X5_joinedOf] at hf
  refine lv_iconst (v := 0) hx hb dX5_joinedOf_0 rfl ?_
  refine lv_istore_n (lv' := [(2, .int 0), (0, .ref (ad 5)), (1, .int a1)]) hx hb dX5_joinedOf_1 rfl hl (by decide) rfl (fun ls hl => ?_)
  refine lv_iconst (v := 0) hx hb dX5_joinedOf_2 rfl ?_
  refine lv_istore_n (lv' := [(3, .int 0), (2, .int 0), (0, .ref (ad 5)), (1, .int a1)]) hx hb dX5_joinedOf_3 rfl hl (by decide) rfl (fun ls hl => ?_)
  exact b_X5_joinedOf_L4 X hN _ hf hP hS (lv_sub hl [2, 3, 1, 0] rfl)
set_option maxHeartbeats 4000000 in
set_option maxRecDepth 100000 in
theorem c_X5_joinedOf {l : Launch} {D : va_G} {ad : Nat → Nat} {cI : ClassId} (hN : nj ad 34) {σ : St} {a1 : Int32} {r : Int32} (hf : f_X5_joinedOf a1 σ = some r) : Met l yX5_joinedOf (.code yX5_joinedOf cX5_joinedOf 4 (some .int) :: wsL_law) rm_X5_joinedOf (va_Pc [.ref (ad 5), .int a1] (pw D (wC ad cI) [(cI, .int)] σ)) (qI D (wC ad cI) (aw ad 34) r σ) 0 0 (aw ad 34) :=
  met_mk (by decide) rfl (Nat.le_of_ble_eq_true rfl) (fun p e s m below meth c X hP ls hl => b_X5_joinedOf X hN hf hP va_S.rf hl)
set_option maxHeartbeats 4000000 in
set_option maxRecDepth 100000 in
theorem b_X5_manyJoined_L4 (X : cx p s m meth c args cX5_manyJoined 3 (some .int) RX5 D [(cI, .int)]) (hN : nj ad 34) : ∀ (n : Nat) {σ : St} {a1 a2 : Int32} {r : Int32}, f_X5_manyJoined_L4 σ n a1 a2 = some r → ∀ {H : Heap} {locs : List Loc} {ls : Array Slot}, va_P D vwCl (wC ad cI σ) H → va_S (aw ad 34) s.heap H locs → lv_has ls 3 [(0, .ref (ad 5)), (1, .int a1), (2, .int a2)] → W p l e rm_X5_manyJoined s m args below meth c H locs 0 0 (MQ below (qI D (wC ad cI) (aw ad 34) r σ) args s 0 0 (aw ad 34)) (F0 m 4 ls []) := by
  intro n
  induction n with
  | zero =>
    intro σ a1 a2 r hf
    rw [f_X5_manyJoined_L4] at hf
    cases hf
  | succ n ih =>
    intro σ a1 a2 r hf H locs ls hP hS hl
    obtain ⟨hx, hb, hml, hown, hts, hr, hlk, hK⟩ := id X
    rw [f_X5_manyJoined_L4] at hf
    refine lv_iload_n hx hb dX5_manyJoined_4 rfl (lv_at hl 2 rfl) ?_
    refine lv_aload_n hx hb dX5_manyJoined_5 rfl (lv_at hl 0 rfl) ?_
    refine fg_X5_30 X hP dX5_manyJoined_6 ?_
    obtain ⟨x1, e_x1, hf⟩ := lf_some hf
    refine fg_X5_46 X hP e_x1 dX5_manyJoined_9 ?_
    refine lv_icmp_ge (tgt := 35) hx hb dX5_manyJoined_12 (by decide) (fun hq => ?_) (fun hq => ?_)
    · have hf := if_t hq hf
      refine lv_iload_n hx hb dX5_manyJoined_35 rfl (lv_at hl 1 rfl) ?_
      exact rI X hP hS hf dX5_manyJoined_36
    · have hf := if_f hq hf
      refine lv_aload_n hx hb dX5_manyJoined_15 rfl (lv_at hl 0 rfl) ?_
      refine fg_X5_15 X hP dX5_manyJoined_16 ?_
      refine lv_iload_n hx hb dX5_manyJoined_19 rfl (lv_at hl 2 rfl) ?_
      obtain ⟨hi, x2, e_x2, hf⟩ := ld_some hf
      refine ldr (t0 := 0) X hP wC_22 rfl hi e_x2 dX5_manyJoined_20 ?_
      refine lv_bipush (v := (-9)) hx hb dX5_manyJoined_21 rfl ?_
      refine lv_icmp_eq (tgt := 29) hx hb dX5_manyJoined_23 (by decide) (fun hq => ?_) (fun hq => ?_)
      · have hf := if_t hq hf
        refine lv_iinc (v := (a2 + 1)) (lv' := [(2, .int (a2 + 1)), (0, .ref (ad 5)), (1, .int a1)]) hx hb dX5_manyJoined_29 hl (k := 2) rfl rfl (by decide) rfl (fun ls hl => ?_)
        refine lv_goto (tgt := 4) hx hb dX5_manyJoined_32 (by decide) ?_
        exact ih hf hP hS (lv_sub hl [1, 2, 0] rfl)
      · have hf := if_f hq hf
        refine lv_iinc (v := (a1 + 1)) (lv' := [(1, .int (a1 + 1)), (0, .ref (ad 5)), (2, .int a2)]) hx hb dX5_manyJoined_26 hl (k := 1) rfl rfl (by decide) rfl (fun ls hl => ?_)
        refine lv_iinc (v := (a2 + 1)) (lv' := [(2, .int (a2 + 1)), (1, .int (a1 + 1)), (0, .ref (ad 5))]) hx hb dX5_manyJoined_29 hl (k := 2) rfl rfl (by decide) rfl (fun ls hl => ?_)
        refine lv_goto (tgt := 4) hx hb dX5_manyJoined_32 (by decide) ?_
        exact ih hf hP hS (lv_sub hl [2, 1, 0] rfl)
set_option maxHeartbeats 4000000 in
set_option maxRecDepth 100000 in
theorem b_X5_manyJoined (X : cx p s m meth c args cX5_manyJoined 3 (some .int) RX5 D [(cI, .int)]) (hN : nj ad 34) {σ : St} {r : Int32} (hf : f_X5_manyJoined σ = some r) {H : Heap} {locs : List Loc} {ls : Array Slot} (hP : va_P D vwCl (wC ad cI σ) H) (hS : va_S (aw ad 34) s.heap H locs) (hl : lv_has ls 3 [(0, .ref (ad 5))]) : W p l e rm_X5_manyJoined s m args below meth c H locs 0 0 (MQ below (qI D (wC ad cI) (aw ad 34) r σ) args s 0 0 (aw ad 34)) (F0 m 0 ls []) := by
  obtain ⟨hx, hb, hml, hown, hts, hr, hlk, hK⟩ := id X
  rw [f_X5_manyJoined] at hf
  refine lv_iconst (v := 0) hx hb dX5_manyJoined_0 rfl ?_
  refine lv_istore_n (lv' := [(1, .int 0), (0, .ref (ad 5))]) hx hb dX5_manyJoined_1 rfl hl (by decide) rfl (fun ls hl => ?_)
  refine lv_iconst (v := 0) hx hb dX5_manyJoined_2 rfl ?_
  refine lv_istore_n (lv' := [(2, .int 0), (1, .int 0), (0, .ref (ad 5))]) hx hb dX5_manyJoined_3 rfl hl (by decide) rfl (fun ls hl => ?_)
  exact b_X5_manyJoined_L4 X hN _ hf hP hS (lv_sub hl [2, 1, 0] rfl)
set_option maxHeartbeats 4000000 in
set_option maxRecDepth 100000 in
theorem c_X5_manyJoined {l : Launch} {D : va_G} {ad : Nat → Nat} {cI : ClassId} (hN : nj ad 34) {σ : St} {r : Int32} (hf : f_X5_manyJoined σ = some r) : Met l yX5_manyJoined (.code yX5_manyJoined cX5_manyJoined 3 (some .int) :: wsL_law) rm_X5_manyJoined (va_Pc [.ref (ad 5)] (pw D (wC ad cI) [(cI, .int)] σ)) (qI D (wC ad cI) (aw ad 34) r σ) 0 0 (aw ad 34) :=
  met_mk (by decide) rfl (Nat.le_of_ble_eq_true rfl) (fun p e s m below meth c X hP ls hl => b_X5_manyJoined X hN hf hP va_S.rf hl)
set_option maxHeartbeats 4000000 in
set_option maxRecDepth 100000 in
theorem b_X5_manyLeftOver (X : cx p s m meth c args cX5_manyLeftOver 1 (some .int) RX5 D [(cI, .int)]) (hN : nj ad 34) {σ : St} {r : Int32} (hf : f_X5_manyLeftOver σ = some r) {H : Heap} {locs : List Loc} {ls : Array Slot} (hP : va_P D vwCl (wC ad cI σ) H) (hS : va_S (aw ad 34) s.heap H locs) (hl : lv_has ls 1 [(0, .ref (ad 5))]) : W p l e rm_X5_manyLeftOver s m args below meth c H locs 0 0 (MQ below (qI D (wC ad cI) (aw ad 34) r σ) args s 0 0 (aw ad 34)) (F0 m 0 ls []) := by
  obtain ⟨hx, hb, hml, hown, hts, hr, hlk, hK⟩ := id X
  rw [f_X5_manyLeftOver] at hf
  refine lv_aload_n hx hb dX5_manyLeftOver_0 rfl (lv_at hl 0 rfl) ?_
  obtain ⟨x1, e_x1, hf⟩ := lf_some hf
  refine fg_X5_121 X hP e_x1 dX5_manyLeftOver_1 ?_
  refine lv_aload_n hx hb dX5_manyLeftOver_4 rfl (lv_at hl 0 rfl) ?_
  refine fg_X5_30 X hP dX5_manyLeftOver_5 ?_
  refine lv_iconst (v := 0) hx hb dX5_manyLeftOver_8 rfl ?_
  obtain ⟨x2, hc, hf⟩ := bi_some hf
  refine kVi (As := [.int 0]) (rest := [.int x1]) (wd := (wC ad cI)) (q0 := 1) (ci := 1) X (c_X1_manyOf (l := l) (D := D) (σ := σ) hN hc) (cw_X5_125 X.2.2.2.2.1 ⟨Nat.le_of_ble_eq_true rfl, Nat.le_of_ble_eq_true rfl⟩) rfl rfl hP hS hl rfl rfl (Nat.le_of_ble_eq_true rfl) dX5_manyLeftOver_9 (fun H locs hP hS => ?_)
  refine lv_isub hx hb dX5_manyLeftOver_12 ?_
  exact rI X hP hS hf dX5_manyLeftOver_13
set_option maxHeartbeats 4000000 in
set_option maxRecDepth 100000 in
theorem c_X5_manyLeftOver {l : Launch} {D : va_G} {ad : Nat → Nat} {cI : ClassId} (hN : nj ad 34) {σ : St} {r : Int32} (hf : f_X5_manyLeftOver σ = some r) : Met l yX5_manyLeftOver (.code yX5_manyLeftOver cX5_manyLeftOver 1 (some .int) :: wsL_law) rm_X5_manyLeftOver (va_Pc [.ref (ad 5)] (pw D (wC ad cI) [(cI, .int)] σ)) (qI D (wC ad cI) (aw ad 34) r σ) 0 0 (aw ad 34) :=
  met_mk (by decide) rfl (Nat.le_of_ble_eq_true rfl) (fun p e s m below meth c X hP ls hl => b_X5_manyLeftOver X hN hf hP va_S.rf hl)
set_option maxHeartbeats 4000000 in
set_option maxRecDepth 100000 in
theorem b_X5_manyLoosePictures_L4 (X : cx p s m meth c args cX5_manyLoosePictures 3 (some .int) RX5 D [(cI, .int)]) (hN : nj ad 34) : ∀ (n : Nat) {σ : St} {a1 a2 : Int32} {r : Int32}, f_X5_manyLoosePictures_L4 σ n a1 a2 = some r → ∀ {H : Heap} {locs : List Loc} {ls : Array Slot}, va_P D vwCl (wC ad cI σ) H → va_S (aw ad 34) s.heap H locs → lv_has ls 3 [(0, .ref (ad 5)), (1, .int a1), (2, .int a2)] → W p l e rm_X5_manyLoosePictures s m args below meth c H locs 0 0 (MQ below (qI D (wC ad cI) (aw ad 34) r σ) args s 0 0 (aw ad 34)) (F0 m 4 ls []) := by
  intro n
  induction n with
  | zero =>
    intro σ a1 a2 r hf
    rw [f_X5_manyLoosePictures_L4] at hf
    cases hf
  | succ n ih =>
    intro σ a1 a2 r hf H locs ls hP hS hl
    obtain ⟨hx, hb, hml, hown, hts, hr, hlk, hK⟩ := id X
    rw [f_X5_manyLoosePictures_L4] at hf
    refine lv_iload_n hx hb dX5_manyLoosePictures_4 rfl (lv_at hl 2 rfl) ?_
    refine lv_aload_n hx hb dX5_manyLoosePictures_5 rfl (lv_at hl 0 rfl) ?_
    refine fg_X5_30 X hP dX5_manyLoosePictures_6 ?_
    obtain ⟨x1, e_x1, hf⟩ := lf_some hf
    refine fg_X5_46 X hP e_x1 dX5_manyLoosePictures_9 ?_
    refine lv_icmp_ge (tgt := 48) hx hb dX5_manyLoosePictures_12 (by decide) (fun hq => ?_) (fun hq => ?_)
    · have hf := if_t hq hf
      refine lv_iload_n hx hb dX5_manyLoosePictures_48 rfl (lv_at hl 1 rfl) ?_
      exact rI X hP hS hf dX5_manyLoosePictures_49
    · have hf := if_f hq hf
      refine lv_aload_n hx hb dX5_manyLoosePictures_15 rfl (lv_at hl 0 rfl) ?_
      refine fg_X5_30 X hP dX5_manyLoosePictures_16 ?_
      refine fg_X5_51 X hP dX5_manyLoosePictures_19 ?_
      refine lv_iload_n hx hb dX5_manyLoosePictures_22 rfl (lv_at hl 2 rfl) ?_
      obtain ⟨hi, x2, e_x2, hf⟩ := ld_some hf
      refine ldr (t0 := 0) X hP wC_8 rfl hi e_x2 dX5_manyLoosePictures_23 ?_
      refine lv_iconst (v := 2) hx hb dX5_manyLoosePictures_24 rfl ?_
      refine lv_icmp_ne (tgt := 42) hx hb dX5_manyLoosePictures_25 (by decide) (fun hq => ?_) (fun hq => ?_)
      · have hf := if_f hq hf
        refine lv_iinc (v := (a2 + 1)) (lv' := [(2, .int (a2 + 1)), (0, .ref (ad 5)), (1, .int a1)]) hx hb dX5_manyLoosePictures_42 hl (k := 2) rfl rfl (by decide) rfl (fun ls hl => ?_)
        refine lv_goto (tgt := 4) hx hb dX5_manyLoosePictures_45 (by decide) ?_
        exact ih hf hP hS (lv_sub hl [1, 2, 0] rfl)
      · have hf := if_t hq hf
        refine lv_aload_n hx hb dX5_manyLoosePictures_28 rfl (lv_at hl 0 rfl) ?_
        refine fg_X5_9 X hP dX5_manyLoosePictures_29 ?_
        refine lv_iload_n hx hb dX5_manyLoosePictures_32 rfl (lv_at hl 2 rfl) ?_
        obtain ⟨hi, x3, e_x3, hf⟩ := ld_some hf
        refine ldr (t0 := 0) X hP wC_21 rfl hi e_x3 dX5_manyLoosePictures_33 ?_
        refine lv_bipush (v := (-9)) hx hb dX5_manyLoosePictures_34 rfl ?_
        refine lv_icmp_ne (tgt := 42) hx hb dX5_manyLoosePictures_36 (by decide) (fun hq => ?_) (fun hq => ?_)
        · have hf := if_f hq hf
          refine lv_iinc (v := (a2 + 1)) (lv' := [(2, .int (a2 + 1)), (0, .ref (ad 5)), (1, .int a1)]) hx hb dX5_manyLoosePictures_42 hl (k := 2) rfl rfl (by decide) rfl (fun ls hl => ?_)
          refine lv_goto (tgt := 4) hx hb dX5_manyLoosePictures_45 (by decide) ?_
          exact ih hf hP hS (lv_sub hl [1, 2, 0] rfl)
        · have hf := if_t hq hf
          refine lv_iinc (v := (a1 + 1)) (lv' := [(1, .int (a1 + 1)), (0, .ref (ad 5)), (2, .int a2)]) hx hb dX5_manyLoosePictures_39 hl (k := 1) rfl rfl (by decide) rfl (fun ls hl => ?_)
          refine lv_iinc (v := (a2 + 1)) (lv' := [(2, .int (a2 + 1)), (1, .int (a1 + 1)), (0, .ref (ad 5))]) hx hb dX5_manyLoosePictures_42 hl (k := 2) rfl rfl (by decide) rfl (fun ls hl => ?_)
          refine lv_goto (tgt := 4) hx hb dX5_manyLoosePictures_45 (by decide) ?_
          exact ih hf hP hS (lv_sub hl [2, 1, 0] rfl)
set_option maxHeartbeats 4000000 in
set_option maxRecDepth 100000 in
theorem b_X5_manyLoosePictures (X : cx p s m meth c args cX5_manyLoosePictures 3 (some .int) RX5 D [(cI, .int)]) (hN : nj ad 34) {σ : St} {r : Int32} (hf : f_X5_manyLoosePictures σ = some r) {H : Heap} {locs : List Loc} {ls : Array Slot} (hP : va_P D vwCl (wC ad cI σ) H) (hS : va_S (aw ad 34) s.heap H locs) (hl : lv_has ls 3 [(0, .ref (ad 5))]) : W p l e rm_X5_manyLoosePictures s m args below meth c H locs 0 0 (MQ below (qI D (wC ad cI) (aw ad 34) r σ) args s 0 0 (aw ad 34)) (F0 m 0 ls []) := by
  obtain ⟨hx, hb, hml, hown, hts, hr, hlk, hK⟩ := id X
  rw [f_X5_manyLoosePictures] at hf
  refine lv_iconst (v := 0) hx hb dX5_manyLoosePictures_0 rfl ?_
  refine lv_istore_n (lv' := [(1, .int 0), (0, .ref (ad 5))]) hx hb dX5_manyLoosePictures_1 rfl hl (by decide) rfl (fun ls hl => ?_)
  refine lv_iconst (v := 0) hx hb dX5_manyLoosePictures_2 rfl ?_
  refine lv_istore_n (lv' := [(2, .int 0), (1, .int 0), (0, .ref (ad 5))]) hx hb dX5_manyLoosePictures_3 rfl hl (by decide) rfl (fun ls hl => ?_)
  exact b_X5_manyLoosePictures_L4 X hN _ hf hP hS (lv_sub hl [2, 1, 0] rfl)
set_option maxHeartbeats 4000000 in
set_option maxRecDepth 100000 in
theorem c_X5_manyLoosePictures {l : Launch} {D : va_G} {ad : Nat → Nat} {cI : ClassId} (hN : nj ad 34) {σ : St} {r : Int32} (hf : f_X5_manyLoosePictures σ = some r) : Met l yX5_manyLoosePictures (.code yX5_manyLoosePictures cX5_manyLoosePictures 3 (some .int) :: wsL_law) rm_X5_manyLoosePictures (va_Pc [.ref (ad 5)] (pw D (wC ad cI) [(cI, .int)] σ)) (qI D (wC ad cI) (aw ad 34) r σ) 0 0 (aw ad 34) :=
  met_mk (by decide) rfl (Nat.le_of_ble_eq_true rfl) (fun p e s m below meth c X hP ls hl => b_X5_manyLoosePictures X hN hf hP va_S.rf hl)
set_option maxHeartbeats 4000000 in
set_option maxRecDepth 100000 in
theorem b_X6_isBelow (X : cx p s m meth c args cX6_isBelow 2 (some .boolean) RX6 D [(cI, .int)]) (hN : nj ad 34) {σ : St} {a0 a1 : Int32} {r : Int32} (hf : f_X6_isBelow a0 a1 = some r) {H : Heap} {locs : List Loc} {ls : Array Slot} (hP : va_P D vwCl (wC ad cI σ) H) (hS : va_S (aw ad 34) s.heap H locs) (hl : lv_has ls 2 [(0, .int a0), (1, .int a1)]) : W p l e rm_X6_isBelow s m args below meth c H locs 0 0 (MQ below (qI D (wC ad cI) (aw ad 34) r σ) args s 0 0 (aw ad 34)) (F0 m 0 ls []) := by
  obtain ⟨hx, hb, hml, hown, hts, hr, hlk, hK⟩ := id X
  rw [f_X6_isBelow] at hf
  refine lv_iload_n hx hb dX6_isBelow_0 rfl (lv_at hl 0 rfl) ?_
  refine lv_if_lt (tgt := 13) hx hb dX6_isBelow_1 (by decide) (fun hq => ?_) (fun hq => ?_)
  · have hf := if_t hq hf
    refine lv_iconst (v := 0) hx hb dX6_isBelow_13 rfl ?_
    exact rZ X hP hS hf dX6_isBelow_14
  · have hf := if_f hq hf
    refine lv_iload_n hx hb dX6_isBelow_4 rfl (lv_at hl 0 rfl) ?_
    refine lv_iload_n hx hb dX6_isBelow_5 rfl (lv_at hl 1 rfl) ?_
    refine lv_icmp_ge (tgt := 13) hx hb dX6_isBelow_6 (by decide) (fun hq => ?_) (fun hq => ?_)
    · have hf := if_t hq hf
      refine lv_iconst (v := 0) hx hb dX6_isBelow_13 rfl ?_
      exact rZ X hP hS hf dX6_isBelow_14
    · have hf := if_f hq hf
      refine lv_iconst (v := 1) hx hb dX6_isBelow_9 rfl ?_
      refine lv_goto (tgt := 14) hx hb dX6_isBelow_10 (by decide) ?_
      exact rZ X hP hS hf dX6_isBelow_14
set_option maxHeartbeats 4000000 in
set_option maxRecDepth 100000 in
theorem c_X6_isBelow {l : Launch} {D : va_G} {ad : Nat → Nat} {cI : ClassId} (hN : nj ad 34) {σ : St} {a0 a1 : Int32} {r : Int32} (hf : f_X6_isBelow a0 a1 = some r) : Met l yX6_isBelow (.code yX6_isBelow cX6_isBelow 2 (some .boolean) :: wsL_law) rm_X6_isBelow (va_Pc [.int a0, .int a1] (pw D (wC ad cI) [(cI, .int)] σ)) (qI D (wC ad cI) (aw ad 34) r σ) 0 0 (aw ad 34) :=
  met_mk (by decide) rfl (Nat.le_of_ble_eq_true rfl) (fun p e s m below meth c X hP ls hl => b_X6_isBelow X hN hf hP va_S.rf hl)
set_option maxHeartbeats 4000000 in
set_option maxRecDepth 100000 in
theorem b_X6_isSpan (X : cx p s m meth c args cX6_isSpan 3 (some .boolean) RX6 D [(cI, .int)]) (hN : nj ad 34) {σ : St} {a0 a1 a2 : Int32} {r : Int32} (hf : f_X6_isSpan a0 a1 a2 = some r) {H : Heap} {locs : List Loc} {ls : Array Slot} (hP : va_P D vwCl (wC ad cI σ) H) (hS : va_S (aw ad 34) s.heap H locs) (hl : lv_has ls 3 [(0, .int a0), (1, .int a1), (2, .int a2)]) : W p l e rm_X6_isSpan s m args below meth c H locs 0 0 (MQ below (qI D (wC ad cI) (aw ad 34) r σ) args s 0 0 (aw ad 34)) (F0 m 0 ls []) := by
  obtain ⟨hx, hb, hml, hown, hts, hr, hlk, hK⟩ := id X
  rw [f_X6_isSpan] at hf
  refine lv_iload_n hx hb dX6_isSpan_0 rfl (lv_at hl 0 rfl) ?_
  refine lv_if_lt (tgt := 18) hx hb dX6_isSpan_1 (by decide) (fun hq => ?_) (fun hq => ?_)
  · have hf := if_t hq hf
    refine lv_iconst (v := 0) hx hb dX6_isSpan_18 rfl ?_
    exact rZ X hP hS hf dX6_isSpan_19
  · have hf := if_f hq hf
    refine lv_iload_n hx hb dX6_isSpan_4 rfl (lv_at hl 0 rfl) ?_
    refine lv_iload_n hx hb dX6_isSpan_5 rfl (lv_at hl 1 rfl) ?_
    refine lv_icmp_gt (tgt := 18) hx hb dX6_isSpan_6 (by decide) (fun hq => ?_) (fun hq => ?_)
    · have hf := if_t hq hf
      refine lv_iconst (v := 0) hx hb dX6_isSpan_18 rfl ?_
      exact rZ X hP hS hf dX6_isSpan_19
    · have hf := if_f hq hf
      refine lv_iload_n hx hb dX6_isSpan_9 rfl (lv_at hl 1 rfl) ?_
      refine lv_iload_n hx hb dX6_isSpan_10 rfl (lv_at hl 2 rfl) ?_
      refine lv_icmp_ge (tgt := 18) hx hb dX6_isSpan_11 (by decide) (fun hq => ?_) (fun hq => ?_)
      · have hf := if_t hq hf
        refine lv_iconst (v := 0) hx hb dX6_isSpan_18 rfl ?_
        exact rZ X hP hS hf dX6_isSpan_19
      · have hf := if_f hq hf
        refine lv_iconst (v := 1) hx hb dX6_isSpan_14 rfl ?_
        refine lv_goto (tgt := 19) hx hb dX6_isSpan_15 (by decide) ?_
        exact rZ X hP hS hf dX6_isSpan_19
set_option maxHeartbeats 4000000 in
set_option maxRecDepth 100000 in
theorem c_X6_isSpan {l : Launch} {D : va_G} {ad : Nat → Nat} {cI : ClassId} (hN : nj ad 34) {σ : St} {a0 a1 a2 : Int32} {r : Int32} (hf : f_X6_isSpan a0 a1 a2 = some r) : Met l yX6_isSpan (.code yX6_isSpan cX6_isSpan 3 (some .boolean) :: wsL_law) rm_X6_isSpan (va_Pc [.int a0, .int a1, .int a2] (pw D (wC ad cI) [(cI, .int)] σ)) (qI D (wC ad cI) (aw ad 34) r σ) 0 0 (aw ad 34) :=
  met_mk (by decide) rfl (Nat.le_of_ble_eq_true rfl) (fun p e s m below meth c X hP ls hl => b_X6_isSpan X hN hf hP va_S.rf hl)
set_option maxHeartbeats 4000000 in
set_option maxRecDepth 100000 in
theorem b_X6_block (X : cx p s m meth c args cX6_block 7 (some .int) RX6 D [(cI, .int)]) (hN : nj ad 34) {σ : St} {a1 a2 a3 a4 a5 a6 : Int32} {r : Int32} {σ' : St} (hf : f_X6_block a1 a2 a3 a4 a5 a6 σ = some (r, σ')) {H : Heap} {locs : List Loc} {ls : Array Slot} (hP : va_P D vwCl (wC ad cI σ) H) (hS : va_S (aw ad 34) s.heap H locs) (hl : lv_has ls 7 [(0, .ref (ad 0)), (1, .int a1), (2, .int a2), (3, .int a3), (4, .int a4), (5, .int a5), (6, .int a6)]) : W p l e rm_X6_block s m args below meth c H locs 0 0 (MQ below (qI D (wC ad cI) (aw ad 34) r σ') args s 0 0 (aw ad 34)) (F0 m 0 ls []) := by
  obtain ⟨hx, hb, hml, hown, hts, hr, hlk, hK⟩ := id X
  rw [f_X6_block] at hf
  refine lv_iload_n hx hb dX6_block_0 rfl (lv_at hl 1 rfl) ?_
  refine lv_iconst (v := 4) hx hb dX6_block_1 rfl ?_
  obtain ⟨x1, hc, hf⟩ := bi_some hf
  refine kSi (As := [.int a1, .int 4]) (rest := []) (wd := (wC ad cI)) X (c_X6_isBelow (l := l) (D := D) (σ := σ) hN hc) (cw_X6_61 X.2.2.2.2.1 ⟨Nat.le_of_ble_eq_true rfl, Nat.le_of_ble_eq_true rfl⟩) hP hS hl rfl rfl (Nat.le_of_ble_eq_true rfl) dX6_block_2 (fun H locs hP hS => ?_)
  refine lv_if_eq (tgt := 16) hx hb dX6_block_5 (by decide) (fun hq => ?_) (fun hq => ?_)
  · have hf := if_t hq hf
    refine lv_bipush (v := (-2)) hx hb dX6_block_16 rfl ?_
    exact rIe X hP hS hf dX6_block_18
  · have hf := if_f hq hf
    refine lv_iload_n hx hb dX6_block_8 rfl (lv_at hl 2 rfl) ?_
    refine lv_iconst (v := 3) hx hb dX6_block_9 rfl ?_
    obtain ⟨x2, hc, hf⟩ := bi_some hf
    refine kSi (As := [.int a2, .int 3]) (rest := []) (wd := (wC ad cI)) X (c_X6_isBelow (l := l) (D := D) (σ := σ) hN hc) (cw_X6_61 X.2.2.2.2.1 ⟨Nat.le_of_ble_eq_true rfl, Nat.le_of_ble_eq_true rfl⟩) hP hS hl rfl rfl (Nat.le_of_ble_eq_true rfl) dX6_block_10 (fun H locs hP hS => ?_)
    refine lv_if_ne (tgt := 19) hx hb dX6_block_13 (by decide) (fun hq => ?_) (fun hq => ?_)
    · have hf := if_f hq hf
      refine lv_iload_n hx hb dX6_block_19 rfl (lv_at hl 3 rfl) ?_
      refine lv_iload hx hb dX6_block_20 (lv_at hl 4 rfl) ?_
      refine lv_bipush (v := 8) hx hb dX6_block_22 rfl ?_
      obtain ⟨x3, hc, hf⟩ := bi_some hf
      refine kSi (As := [.int a3, .int a4, .int 8]) (rest := []) (wd := (wC ad cI)) X (c_X6_isSpan (l := l) (D := D) (σ := σ) hN hc) (cw_X6_65 X.2.2.2.2.1 ⟨Nat.le_of_ble_eq_true rfl, Nat.le_of_ble_eq_true rfl⟩) hP hS hl rfl rfl (Nat.le_of_ble_eq_true rfl) dX6_block_24 (fun H locs hP hS => ?_)
      refine lv_if_eq (tgt := 42) hx hb dX6_block_27 (by decide) (fun hq => ?_) (fun hq => ?_)
      · have hf := if_t hq hf
        refine lv_bipush (v := (-2)) hx hb dX6_block_42 rfl ?_
        exact rIe X hP hS hf dX6_block_44
      · have hf := if_f hq hf
        refine lv_iload hx hb dX6_block_30 (lv_at hl 5 rfl) ?_
        refine lv_iload hx hb dX6_block_32 (lv_at hl 6 rfl) ?_
        refine lv_bipush (v := 30) hx hb dX6_block_34 rfl ?_
        obtain ⟨x4, hc, hf⟩ := bi_some hf
        refine kSi (As := [.int a5, .int a6, .int 30]) (rest := []) (wd := (wC ad cI)) X (c_X6_isSpan (l := l) (D := D) (σ := σ) hN hc) (cw_X6_65 X.2.2.2.2.1 ⟨Nat.le_of_ble_eq_true rfl, Nat.le_of_ble_eq_true rfl⟩) hP hS hl rfl rfl (Nat.le_of_ble_eq_true rfl) dX6_block_36 (fun H locs hP hS => ?_)
        refine lv_if_ne (tgt := 45) hx hb dX6_block_39 (by decide) (fun hq => ?_) (fun hq => ?_)
        · have hf := if_f hq hf
          refine lv_aload_n hx hb dX6_block_45 rfl (lv_at hl 0 rfl) ?_
          refine fg_X6_10 X hP dX6_block_46 ?_
          refine lv_iload_n hx hb dX6_block_49 rfl (lv_at hl 1 rfl) ?_
          refine lv_iload_n hx hb dX6_block_50 rfl (lv_at hl 3 rfl) ?_
          refine lv_iload hx hb dX6_block_51 (lv_at hl 4 rfl) ?_
          refine lv_iload hx hb dX6_block_53 (lv_at hl 5 rfl) ?_
          refine lv_iload hx hb dX6_block_55 (lv_at hl 6 rfl) ?_
          obtain ⟨x5, hc, hf⟩ := bi_some hf
          refine kVi (As := [.int a1, .int a3, .int a4, .int a5, .int a6]) (rest := []) (wd := (wC ad cI)) (q0 := 1) (ci := 1) X (c_X1_meets (l := l) (D := D) (σ := σ) hN hc) (cw_X6_69 X.2.2.2.2.1 ⟨Nat.le_of_ble_eq_true rfl, Nat.le_of_ble_eq_true rfl⟩) rfl rfl hP hS hl rfl rfl (Nat.le_of_ble_eq_true rfl) dX6_block_57 (fun H locs hP hS => ?_)
          refine lv_if_eq (tgt := 66) hx hb dX6_block_60 (by decide) (fun hq => ?_) (fun hq => ?_)
          · have hf := if_t hq hf
            refine lv_aload_n hx hb dX6_block_66 rfl (lv_at hl 0 rfl) ?_
            refine fg_X6_10 X hP dX6_block_67 ?_
            obtain ⟨x6, e_x6, hf⟩ := lf_some hf
            refine fg_X6_73 X hP e_x6 dX6_block_70 ?_
            refine lv_bipush (v := 24) hx hb dX6_block_73 rfl ?_
            refine lv_icmp_lt (tgt := 81) hx hb dX6_block_75 (by decide) (fun hq => ?_) (fun hq => ?_)
            · have hf := if_t hq hf
              refine lv_aload_n hx hb dX6_block_81 rfl (lv_at hl 0 rfl) ?_
              refine fg_X6_19 X hP dX6_block_82 ?_
              refine lv_aload_n hx hb dX6_block_85 rfl (lv_at hl 0 rfl) ?_
              refine fg_X6_10 X hP dX6_block_86 ?_
              obtain ⟨x7, e_x7, hf⟩ := lf_some hf
              refine fg_X6_73 X hP e_x7 dX6_block_89 ?_
              obtain ⟨σ8, hc, hf⟩ := bs_some hf
              refine kVv (As := [.int x7]) (rest := []) (wd := (wC ad cI)) (q0 := 2) (ci := 3) X (c_X3_forgetAllOf (l := l) (D := D) (σ := σ) hN hc) (cw_X6_77 X.2.2.2.2.1 ⟨Nat.le_of_ble_eq_true rfl, Nat.le_of_ble_eq_true rfl⟩) rfl rfl hP hS hl rfl rfl (Nat.le_of_ble_eq_true rfl) dX6_block_92 (fun H locs hP hS => ?_)
              refine lv_aload_n hx hb dX6_block_95 rfl (lv_at hl 0 rfl) ?_
              refine lv_iconst (v := 1) hx hb dX6_block_96 rfl ?_
              obtain ⟨hz, hf⟩ := gb_some hf
              obtain ⟨σ9, e_σ9, hf⟩ := sf_some hf
              refine fp_X6_57 X hN hP hS hz e_σ9 dX6_block_97 (fun H locs hP hS => ?_)
              refine lv_aload_n hx hb dX6_block_100 rfl (lv_at hl 0 rfl) ?_
              refine fg_X6_10 X hP dX6_block_101 ?_
              refine lv_iload_n hx hb dX6_block_104 rfl (lv_at hl 1 rfl) ?_
              refine lv_iload_n hx hb dX6_block_105 rfl (lv_at hl 2 rfl) ?_
              refine lv_iload_n hx hb dX6_block_106 rfl (lv_at hl 3 rfl) ?_
              refine lv_iload hx hb dX6_block_107 (lv_at hl 4 rfl) ?_
              refine lv_iload hx hb dX6_block_109 (lv_at hl 5 rfl) ?_
              refine lv_iload hx hb dX6_block_111 (lv_at hl 6 rfl) ?_
              obtain ⟨x10, σ11, hc, hf⟩ := bp_some hf
              refine kVi (As := [.int a1, .int a2, .int a3, .int a4, .int a5, .int a6]) (rest := []) (wd := (wC ad cI)) (q0 := 1) (ci := 1) X (c_X1_add (l := l) (D := D) (σ := σ9) hN hc) (cw_X6_81 X.2.2.2.2.1 ⟨Nat.le_of_ble_eq_true rfl, Nat.le_of_ble_eq_true rfl⟩) rfl rfl hP hS hl rfl rfl (Nat.le_of_ble_eq_true rfl) dX6_block_113 (fun H locs hP hS => ?_)
              exact rIe X hP hS hf dX6_block_116
            · have hf := if_f hq hf
              refine lv_bipush (v := (-4)) hx hb dX6_block_78 rfl ?_
              exact rIe X hP hS hf dX6_block_80
          · have hf := if_f hq hf
            refine lv_bipush (v := (-3)) hx hb dX6_block_63 rfl ?_
            exact rIe X hP hS hf dX6_block_65
        · have hf := if_t hq hf
          refine lv_bipush (v := (-2)) hx hb dX6_block_42 rfl ?_
          exact rIe X hP hS hf dX6_block_44
    · have hf := if_t hq hf
      refine lv_bipush (v := (-2)) hx hb dX6_block_16 rfl ?_
      exact rIe X hP hS hf dX6_block_18
set_option maxHeartbeats 4000000 in
set_option maxRecDepth 100000 in
theorem c_X6_block {l : Launch} {D : va_G} {ad : Nat → Nat} {cI : ClassId} (hN : nj ad 34) {σ : St} {a1 a2 a3 a4 a5 a6 : Int32} {r : Int32} {σ' : St} (hf : f_X6_block a1 a2 a3 a4 a5 a6 σ = some (r, σ')) : Met l yX6_block (.code yX6_block cX6_block 7 (some .int) :: wsL_law) rm_X6_block (va_Pc [.ref (ad 0), .int a1, .int a2, .int a3, .int a4, .int a5, .int a6] (pw D (wC ad cI) [(cI, .int)] σ)) (qI D (wC ad cI) (aw ad 34) r σ') 0 0 (aw ad 34) :=
  met_mk (by decide) rfl (Nat.le_of_ble_eq_true rfl) (fun p e s m below meth c X hP ls hl => b_X6_block X hN hf hP va_S.rf hl)
set_option maxHeartbeats 4000000 in
set_option maxRecDepth 100000 in
theorem b_X6_words (X : cx p s m meth c args cX6_words 4 (some .int) RX6 D [(cI, .int)]) (hN : nj ad 34) {σ : St} {a1 a2 : Int32} {r : Int32} {σ' : St} (hf : f_X6_words a1 a2 σ = some (r, σ')) {H : Heap} {locs : List Loc} {ls : Array Slot} (hP : va_P D vwCl (wC ad cI σ) H) (hS : va_S (aw ad 34) s.heap H locs) (hl : lv_has ls 4 [(0, .ref (ad 0)), (1, .int a1), (2, .int a2)]) : W p l e rm_X6_words s m args below meth c H locs 0 0 (MQ below (qI D (wC ad cI) (aw ad 34) r σ') args s 0 0 (aw ad 34)) (F0 m 0 ls []) := by
  obtain ⟨hx, hb, hml, hown, hts, hr, hlk, hK⟩ := id X
  rw [f_X6_words] at hf
  refine lv_aload_n hx hb dX6_words_0 rfl (lv_at hl 0 rfl) ?_
  refine fg_X6_10 X hP dX6_words_1 ?_
  refine lv_iload_n hx hb dX6_words_4 rfl (lv_at hl 1 rfl) ?_
  obtain ⟨x1, hc, hf⟩ := bi_some hf
  refine kVi (As := [.int a1]) (rest := []) (wd := (wC ad cI)) (q0 := 1) (ci := 1) X (c_X1_has (l := l) (D := D) (σ := σ) hN hc) (cw_X6_85 X.2.2.2.2.1 ⟨Nat.le_of_ble_eq_true rfl, Nat.le_of_ble_eq_true rfl⟩) rfl rfl hP hS hl rfl rfl (Nat.le_of_ble_eq_true rfl) dX6_words_5 (fun H locs hP hS => ?_)
  refine lv_if_ne (tgt := 13) hx hb dX6_words_8 (by decide) (fun hq => ?_) (fun hq => ?_)
  · have hf := if_f hq hf
    refine lv_iload_n hx hb dX6_words_13 rfl (lv_at hl 2 rfl) ?_
    refine lv_iconst (v := 1) hx hb dX6_words_14 rfl ?_
    refine lv_icmp_lt (tgt := 24) hx hb dX6_words_15 (by decide) (fun hq => ?_) (fun hq => ?_)
    · have hf := if_t hq hf
      refine lv_bipush (v := (-2)) hx hb dX6_words_24 rfl ?_
      exact rIe X hP hS hf dX6_words_26
    · have hf := if_f hq hf
      refine lv_iload_n hx hb dX6_words_18 rfl (lv_at hl 2 rfl) ?_
      refine lv_bipush (v := 99) hx hb dX6_words_19 rfl ?_
      refine lv_icmp_le (tgt := 27) hx hb dX6_words_21 (by decide) (fun hq => ?_) (fun hq => ?_)
      · have hf := if_t hq hf
        refine lv_aload_n hx hb dX6_words_27 rfl (lv_at hl 0 rfl) ?_
        refine fg_X6_10 X hP dX6_words_28 ?_
        refine fg_X6_89 X hP dX6_words_31 ?_
        refine lv_iload_n hx hb dX6_words_34 rfl (lv_at hl 1 rfl) ?_
        obtain ⟨hi, x2, e_x2, hf⟩ := ld_some hf
        refine ldr (t0 := 0) X hP wC_8 rfl hi e_x2 dX6_words_35 ?_
        refine lv_iconst (v := 1) hx hb dX6_words_36 rfl ?_
        refine lv_icmp_eq (tgt := 43) hx hb dX6_words_37 (by decide) (fun hq => ?_) (fun hq => ?_)
        · have hf := if_t hq hf
          refine lv_aload_n hx hb dX6_words_43 rfl (lv_at hl 0 rfl) ?_
          refine fg_X6_10 X hP dX6_words_44 ?_
          refine fg_X6_93 X hP dX6_words_47 ?_
          refine lv_iload_n hx hb dX6_words_50 rfl (lv_at hl 1 rfl) ?_
          obtain ⟨hi, x3, e_x3, hf⟩ := ld_some hf
          refine ldr (t0 := 0) X hP wC_13 rfl hi e_x3 dX6_words_51 ?_
          refine lv_istore_n (lv' := [(3, .int x3), (0, .ref (ad 0)), (1, .int a1), (2, .int a2)]) hx hb dX6_words_52 rfl hl (by decide) rfl (fun ls hl => ?_)
          refine lv_aload_n hx hb dX6_words_53 rfl (lv_at hl 1 rfl) ?_
          refine fg_X6_10 X hP dX6_words_54 ?_
          refine fg_X6_93 X hP dX6_words_57 ?_
          refine lv_iload_n hx hb dX6_words_60 rfl (lv_at hl 2 rfl) ?_
          refine lv_iload_n hx hb dX6_words_61 rfl (lv_at hl 3 rfl) ?_
          obtain ⟨hi, σ4, e_σ4, hf⟩ := sd_some hf
          refine str (t0 := 0) X hP (wC_D hN) hS wC_13 wC_s13 rfl hi e_σ4 dX6_words_62 (fun H locs hP hS => ?_)
          refine lv_iload_n hx hb dX6_words_63 rfl (lv_at hl 0 rfl) ?_
          exact rIe X hP hS hf dX6_words_64
        · have hf := if_f hq hf
          refine lv_bipush (v := (-3)) hx hb dX6_words_40 rfl ?_
          exact rIe X hP hS hf dX6_words_42
      · have hf := if_f hq hf
        refine lv_bipush (v := (-2)) hx hb dX6_words_24 rfl ?_
        exact rIe X hP hS hf dX6_words_26
  · have hf := if_t hq hf
    refine lv_iconst (v := (-1)) hx hb dX6_words_11 rfl ?_
    exact rIe X hP hS hf dX6_words_12
set_option maxHeartbeats 4000000 in
set_option maxRecDepth 100000 in
theorem c_X6_words {l : Launch} {D : va_G} {ad : Nat → Nat} {cI : ClassId} (hN : nj ad 34) {σ : St} {a1 a2 : Int32} {r : Int32} {σ' : St} (hf : f_X6_words a1 a2 σ = some (r, σ')) : Met l yX6_words (.code yX6_words cX6_words 4 (some .int) :: wsL_law) rm_X6_words (va_Pc [.ref (ad 0), .int a1, .int a2] (pw D (wC ad cI) [(cI, .int)] σ)) (qI D (wC ad cI) (aw ad 34) r σ') 0 0 (aw ad 34) :=
  met_mk (by decide) rfl (Nat.le_of_ble_eq_true rfl) (fun p e s m below meth c X hP ls hl => b_X6_words X hN hf hP va_S.rf hl)
set_option maxHeartbeats 4000000 in
set_option maxRecDepth 100000 in
theorem b_X6_line_B43 (X : cx p s m meth c args cX6_line 8 (some .int) RX6 D [(cI, .int)]) (hN : nj ad 34) {σ : St} {a1 a2 a3 a4 a5 a6 t0 : Int32} {r : Int32} {σ' : St} (hf : f_X6_line_B43 a1 a2 a3 a4 a5 a6 t0 σ = some (r, σ')) {H : Heap} {locs : List Loc} {ls : Array Slot} (hP : va_P D vwCl (wC ad cI σ) H) (hS : va_S (aw ad 34) s.heap H locs) (hl : lv_has ls 8 [(0, .ref (ad 0)), (1, .int a1), (2, .int a2), (3, .int a3), (4, .int a4), (5, .int a5), (6, .int a6)]) : W p l e rm_X6_line s m args below meth c H locs 0 0 (MQ below (qI D (wC ad cI) (aw ad 34) r σ') args s 0 0 (aw ad 34)) (F0 m 43 ls [.int t0]) := by
  obtain ⟨hx, hb, hml, hown, hts, hr, hlk, hK⟩ := id X
  rw [f_X6_line_B43] at hf
  refine lv_istore (lv' := [(7, .int t0), (0, .ref (ad 0)), (1, .int a1), (2, .int a2), (3, .int a3), (4, .int a4), (5, .int a5), (6, .int a6)]) hx hb dX6_line_43 hl (by decide) rfl (fun ls hl => ?_)
  refine lv_iload_n hx hb dX6_line_45 rfl (lv_at hl 4 rfl) ?_
  refine lv_iconst (v := 1) hx hb dX6_line_46 rfl ?_
  refine lv_icmp_lt (tgt := 68) hx hb dX6_line_47 (by decide) (fun hq => ?_) (fun hq => ?_)
  · have hf := if_t hq hf
    refine lv_bipush (v := (-2)) hx hb dX6_line_68 rfl ?_
    exact rIe X hP hS hf dX6_line_70
  · have hf := if_f hq hf
    refine lv_iload_n hx hb dX6_line_50 rfl (lv_at hl 4 rfl) ?_
    refine lv_iload hx hb dX6_line_51 (lv_at hl 7 rfl) ?_
    refine lv_icmp_ge (tgt := 68) hx hb dX6_line_53 (by decide) (fun hq => ?_) (fun hq => ?_)
    · have hf := if_t hq hf
      refine lv_bipush (v := (-2)) hx hb dX6_line_68 rfl ?_
      exact rIe X hP hS hf dX6_line_70
    · have hf := if_f hq hf
      refine lv_iload hx hb dX6_line_56 (lv_at hl 5 rfl) ?_
      refine lv_iload hx hb dX6_line_58 (lv_at hl 6 rfl) ?_
      refine lv_iload hx hb dX6_line_60 (lv_at hl 0 rfl) ?_
      obtain ⟨x1, hc, hf⟩ := bi_some hf
      refine kSi (As := [.int a4, .int a5, .int t0]) (rest := []) (wd := (wC ad cI)) X (c_X6_isSpan (l := l) (D := D) (σ := σ) hN hc) (cw_X6_65 X.2.2.2.2.1 ⟨Nat.le_of_ble_eq_true rfl, Nat.le_of_ble_eq_true rfl⟩) hP hS hl rfl rfl (Nat.le_of_ble_eq_true rfl) dX6_line_62 (fun H locs hP hS => ?_)
      refine lv_if_ne (tgt := 71) hx hb dX6_line_65 (by decide) (fun hq => ?_) (fun hq => ?_)
      · have hf := if_f hq hf
        refine lv_aload_n hx hb dX6_line_71 rfl (lv_at hl 1 rfl) ?_
        refine fg_X6_26 X hP dX6_line_72 ?_
        obtain ⟨x2, e_x2, hf⟩ := lf_some hf
        refine fg_X6_96 X hP e_x2 dX6_line_75 ?_
        refine lv_bipush (v := 12) hx hb dX6_line_78 rfl ?_
        refine lv_icmp_lt (tgt := 86) hx hb dX6_line_80 (by decide) (fun hq => ?_) (fun hq => ?_)
        · have hf := if_t hq hf
          refine lv_aload_n hx hb dX6_line_86 rfl (lv_at hl 1 rfl) ?_
          refine lv_iconst (v := 1) hx hb dX6_line_87 rfl ?_
          obtain ⟨hz, hf⟩ := gb_some hf
          obtain ⟨σ3, e_σ3, hf⟩ := sf_some hf
          refine fp_X6_57 X hN hP hS hz e_σ3 dX6_line_88 (fun H locs hP hS => ?_)
          refine lv_aload_n hx hb dX6_line_91 rfl (lv_at hl 1 rfl) ?_
          refine fg_X6_26 X hP dX6_line_92 ?_
          refine lv_iload_n hx hb dX6_line_95 rfl (lv_at hl 2 rfl) ?_
          refine lv_iload_n hx hb dX6_line_96 rfl (lv_at hl 3 rfl) ?_
          refine lv_iload_n hx hb dX6_line_97 rfl (lv_at hl 4 rfl) ?_
          refine lv_iload hx hb dX6_line_98 (lv_at hl 5 rfl) ?_
          refine lv_iload hx hb dX6_line_100 (lv_at hl 6 rfl) ?_
          obtain ⟨x4, σ5, hc, hf⟩ := bp_some hf
          refine kVi (As := [.int a1, .int a2, .int a3, .int a4, .int a5]) (rest := []) (wd := (wC ad cI)) (q0 := 3) (ci := 2) X (c_X2_add (l := l) (D := D) (σ := σ3) hN hc) (cw_X6_97 X.2.2.2.2.1 ⟨Nat.le_of_ble_eq_true rfl, Nat.le_of_ble_eq_true rfl⟩) rfl rfl hP hS hl rfl rfl (Nat.le_of_ble_eq_true rfl) dX6_line_102 (fun H locs hP hS => ?_)
          exact rIe X hP hS hf dX6_line_105
        · have hf := if_f hq hf
          refine lv_bipush (v := (-4)) hx hb dX6_line_83 rfl ?_
          exact rIe X hP hS hf dX6_line_85
      · have hf := if_t hq hf
        refine lv_bipush (v := (-2)) hx hb dX6_line_68 rfl ?_
        exact rIe X hP hS hf dX6_line_70
set_option maxHeartbeats 4000000 in
set_option maxRecDepth 100000 in
theorem b_X6_line_B30 (X : cx p s m meth c args cX6_line 8 (some .int) RX6 D [(cI, .int)]) (hN : nj ad 34) {σ : St} {a1 a2 a3 a4 a5 t0 : Int32} {r : Int32} {σ' : St} (hf : f_X6_line_B30 a1 a2 a3 a4 a5 t0 σ = some (r, σ')) {H : Heap} {locs : List Loc} {ls : Array Slot} (hP : va_P D vwCl (wC ad cI σ) H) (hS : va_S (aw ad 34) s.heap H locs) (hl : lv_has ls 8 [(0, .ref (ad 0)), (1, .int a1), (2, .int a2), (3, .int a3), (4, .int a4), (5, .int a5)]) : W p l e rm_X6_line s m args below meth c H locs 0 0 (MQ below (qI D (wC ad cI) (aw ad 34) r σ') args s 0 0 (aw ad 34)) (F0 m 30 ls [.int t0]) := by
  obtain ⟨hx, hb, hml, hown, hts, hr, hlk, hK⟩ := id X
  rw [f_X6_line_B30] at hf
  refine lv_istore (lv' := [(6, .int t0), (0, .ref (ad 0)), (1, .int a1), (2, .int a2), (3, .int a3), (4, .int a4), (5, .int a5)]) hx hb dX6_line_30 hl (by decide) rfl (fun ls hl => ?_)
  refine lv_iload_n hx hb dX6_line_32 rfl (lv_at hl 3 rfl) ?_
  refine lv_if_ne (tgt := 41) hx hb dX6_line_33 (by decide) (fun hq => ?_) (fun hq => ?_)
  · have hf := if_f hq hf
    refine lv_bipush (v := 8) hx hb dX6_line_41 rfl ?_
    exact b_X6_line_B43 X hN hf hP hS (lv_sub hl [1, 2, 3, 4, 5, 6, 0] rfl)
  · have hf := if_t hq hf
    refine lv_bipush (v := 30) hx hb dX6_line_36 rfl ?_
    refine lv_goto (tgt := 43) hx hb dX6_line_38 (by decide) ?_
    exact b_X6_line_B43 X hN hf hP hS (lv_sub hl [1, 2, 3, 4, 5, 6, 0] rfl)
set_option maxHeartbeats 4000000 in
set_option maxRecDepth 100000 in
theorem b_X6_line (X : cx p s m meth c args cX6_line 8 (some .int) RX6 D [(cI, .int)]) (hN : nj ad 34) {σ : St} {a1 a2 a3 a4 a5 : Int32} {r : Int32} {σ' : St} (hf : f_X6_line a1 a2 a3 a4 a5 σ = some (r, σ')) {H : Heap} {locs : List Loc} {ls : Array Slot} (hP : va_P D vwCl (wC ad cI σ) H) (hS : va_S (aw ad 34) s.heap H locs) (hl : lv_has ls 8 [(0, .ref (ad 0)), (1, .int a1), (2, .int a2), (3, .int a3), (4, .int a4), (5, .int a5)]) : W p l e rm_X6_line s m args below meth c H locs 0 0 (MQ below (qI D (wC ad cI) (aw ad 34) r σ') args s 0 0 (aw ad 34)) (F0 m 0 ls []) := by
  obtain ⟨hx, hb, hml, hown, hts, hr, hlk, hK⟩ := id X
  rw [f_X6_line] at hf
  refine lv_iload_n hx hb dX6_line_0 rfl (lv_at hl 1 rfl) ?_
  refine lv_iconst (v := 4) hx hb dX6_line_1 rfl ?_
  obtain ⟨x1, hc, hf⟩ := bi_some hf
  refine kSi (As := [.int a1, .int 4]) (rest := []) (wd := (wC ad cI)) X (c_X6_isBelow (l := l) (D := D) (σ := σ) hN hc) (cw_X6_61 X.2.2.2.2.1 ⟨Nat.le_of_ble_eq_true rfl, Nat.le_of_ble_eq_true rfl⟩) hP hS hl rfl rfl (Nat.le_of_ble_eq_true rfl) dX6_line_2 (fun H locs hP hS => ?_)
  refine lv_if_eq (tgt := 16) hx hb dX6_line_5 (by decide) (fun hq => ?_) (fun hq => ?_)
  · have hf := if_t hq hf
    refine lv_bipush (v := (-2)) hx hb dX6_line_16 rfl ?_
    exact rIe X hP hS hf dX6_line_18
  · have hf := if_f hq hf
    refine lv_iload_n hx hb dX6_line_8 rfl (lv_at hl 2 rfl) ?_
    refine lv_iconst (v := 2) hx hb dX6_line_9 rfl ?_
    obtain ⟨x2, hc, hf⟩ := bi_some hf
    refine kSi (As := [.int a2, .int 2]) (rest := []) (wd := (wC ad cI)) X (c_X6_isBelow (l := l) (D := D) (σ := σ) hN hc) (cw_X6_61 X.2.2.2.2.1 ⟨Nat.le_of_ble_eq_true rfl, Nat.le_of_ble_eq_true rfl⟩) hP hS hl rfl rfl (Nat.le_of_ble_eq_true rfl) dX6_line_10 (fun H locs hP hS => ?_)
    refine lv_if_ne (tgt := 19) hx hb dX6_line_13 (by decide) (fun hq => ?_) (fun hq => ?_)
    · have hf := if_f hq hf
      refine lv_iload_n hx hb dX6_line_19 rfl (lv_at hl 2 rfl) ?_
      refine lv_if_ne (tgt := 28) hx hb dX6_line_20 (by decide) (fun hq => ?_) (fun hq => ?_)
      · have hf := if_f hq hf
        refine lv_bipush (v := 30) hx hb dX6_line_28 rfl ?_
        exact b_X6_line_B30 X hN hf hP hS (lv_sub hl [0, 1, 2, 3, 4, 5] rfl)
      · have hf := if_t hq hf
        refine lv_bipush (v := 8) hx hb dX6_line_23 rfl ?_
        refine lv_goto (tgt := 30) hx hb dX6_line_25 (by decide) ?_
        exact b_X6_line_B30 X hN hf hP hS (lv_sub hl [0, 1, 2, 3, 4, 5] rfl)
    · have hf := if_t hq hf
      refine lv_bipush (v := (-2)) hx hb dX6_line_16 rfl ?_
      exact rIe X hP hS hf dX6_line_18
set_option maxHeartbeats 4000000 in
set_option maxRecDepth 100000 in
theorem c_X6_line {l : Launch} {D : va_G} {ad : Nat → Nat} {cI : ClassId} (hN : nj ad 34) {σ : St} {a1 a2 a3 a4 a5 : Int32} {r : Int32} {σ' : St} (hf : f_X6_line a1 a2 a3 a4 a5 σ = some (r, σ')) : Met l yX6_line (.code yX6_line cX6_line 8 (some .int) :: wsL_law) rm_X6_line (va_Pc [.ref (ad 0), .int a1, .int a2, .int a3, .int a4, .int a5] (pw D (wC ad cI) [(cI, .int)] σ)) (qI D (wC ad cI) (aw ad 34) r σ') 0 0 (aw ad 34) :=
  met_mk (by decide) rfl (Nat.le_of_ble_eq_true rfl) (fun p e s m below meth c X hP ls hl => b_X6_line X hN hf hP va_S.rf hl)
end WALK
