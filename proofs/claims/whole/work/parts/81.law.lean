theorem wd_at {ad : Nat → Nat} {n : Nat} {ws : va_W} (h : ws.map (fun q => q.1) = (List.range n).map ad) : ∀ (k : Nat) (q : Nat × va_E), ws[k]? = some q → k < n ∧ q.1 = ad k := by
  intro k q hk
  have h1 : (ws.map (fun q => q.1))[k]? = some q.1 := by rw [List.getElem?_map, hk]; rfl
  rw [h, List.getElem?_map] at h1
  by_cases hn : k < n
  · rw [List.getElem?_range hn] at h1
    exact ⟨hn, (Option.some.inj h1).symm⟩
  · rw [List.getElem?_eq_none (by simpa using Nat.not_lt.mp hn)] at h1
    cases h1
def dj (ad ad2 : Nat → Nat) : Prop := ∀ i j, i < 34 → j < 30 → ad i ≠ ad2 j
theorem dj_C {ad ad2 : Nat → Nat} {cI cZ : ClassId} {τ : St} (h : dj ad ad2) : ∀ (k : Nat) (q : Nat × va_E), (wM ad2 cI cZ τ)[k]? = some q → ¬ aw ad 34 q.1 := by
  intro k q hk
  obtain ⟨h1, h2⟩ := wd_at wM_ad k q hk
  rintro ⟨j, h3, h4⟩
  exact h j k h3 h1 (by rw [← h4, h2])
theorem dj_M {ad ad2 : Nat → Nat} {cI : ClassId} {σ : St} (h : dj ad ad2) : ∀ (k : Nat) (q : Nat × va_E), (wC ad cI σ)[k]? = some q → ¬ aw ad2 30 q.1 := by
  intro k q hk
  obtain ⟨h1, h2⟩ := wd_at wC_ad k q hk
  rintro ⟨j, h3, h4⟩
  exact h k j h1 h3 (by rw [← h2, h4])
section LAWK
variable {p : Program} {l : Launch} {e : Env} {R : Room} {s : State} {m : MethodId} {args : Array Value} {below : List Frame} {meth : Method} {c : Code} {D : va_G} {H : Heap} {locs : List Loc} {cells slots : Nat} {Q : State → Prop} {cc : ByteArray} {nL : Nat} {own : String} {tys : List (ClassId × FieldType)} {wd wd2 : St → va_W} {A A1 : Nat → Prop} {pc : Nat} {ls : Array Slot} {rest st0 : List Value}
theorem kLi {y : MethodName} {bytes : ByteArray} {maxL n index : Nat} {ret' : Option FieldType} {ws : List Cond} {rm : Room} {C : String} {b : Nat} {As : List Value} {lv : List (Nat × Value)} {σ σ' τ : St} {r : Int32} {q0 ci : Nat} {T : u_T} {N : Nat} {fs : List Value}
    (S : CallFix p m c cc nL s args wsL_law own) (hK : va_K D vwCl tys s) (hM : Met l y ws rm (va_Pc (.ref b :: As) (pw D wd tys σ)) (qI D wd A1 r σ') 0 0 A1) (cw : CallW R s args own C index y bytes maxL ret' ws rm 0 0 n) (hc : vwCl[ci]? = some (C, T, N)) (he : (wd σ)[q0]? = some (b, .inr (ci, fs))) (hP : va_P D vwCl (wd σ) H) (hP2 : va_P D vwCl (wd2 τ) H) (hd : ∀ (k : Nat) (q : Nat × va_E), (wd2 τ)[k]? = some q → ¬ A1 q.1) (hS : va_S A s.heap H locs) (hA : ∀ q, A1 q → A q) (hl : lv_has ls nL lv) (hn : As.length = n) (hst : st0 = As.reverse ++ .ref b :: rest) (hro : (rest.map fun v => v.category).sum ≤ 8) (hf : cells ≤ R.cells ∧ slots ≤ R.slots) (hdg : decode cc pc = .ok (.invokevirtual index, 3))
    (kk : ∀ (H1 : Heap) (locs1 : List Loc), va_P D vwCl (wd σ') H1 → va_P D vwCl (wd2 τ) H1 → va_S A s.heap H1 locs1 → W p l e R s m args below meth c H1 locs1 cells slots Q (F0 m (pc + 3) ls (.int r :: rest))) : W p l e R s m args below meth c H locs cells slots Q (F0 m pc ls st0) := by
  refine va_calli (va_runV (As := As) (rest := rest) S hM cw ⟨pw_blind, va_recv hK hP hc he, pw_at hK hP⟩ rfl hn hl.1 hst (lv_room hro) hdg ⟨hf.1, hf.2⟩) hS (fun q _ h => hA q h) (fun q h => hA q h) (fun r2 u t H1 locs1 ht hvm hw hB hz hk hS1 => ?_)
  have hw : r2 = r := hw
  subst hw
  exact kk H1 locs1 (by rw [← ht]; exact hB) (hP2.kept (fun k q h => hk q.1 ((hP2 k q h).lt) (hd k q h))) hS1
end LAWK
theorem gw_L_13 : GoodIn wsL_law (wsV RL 13 RX6 yX6_block (.code yX6_block cX6_block 7 (some .int) :: wsL_law)) := goodIn_app (goodIn_r _ [128, 129, 130, 2] (by decide +kernel) (by decide +kernel)) (good_code (List.mem_of_getElem? (i := 131) (by decide +kernel)))
theorem cw_L_13 {s : State} {args : Array Value} (hts : ∀ w ∈ wsL_law, w.before args s = true) : CallW room_1 s args RL RX6 13 yX6_block cX6_block 7 (some .int) (.code yX6_block cX6_block 7 (some .int) :: wsL_law) rm_X6_block 0 0 6 := cwV 6 hts gw_L_13 rfl rfl rfl (by decide +kernel) ⟨Nat.le_of_ble_eq_true rfl, Nat.le_of_ble_eq_true rfl⟩
theorem gw_L_17 : GoodIn wsL_law (wsV RL 17 RX7 yX7_block (.code yX7_block cX7_block 9 (some .int) :: wsL_law)) := goodIn_app (goodIn_r _ [164, 165, 166, 5] (by decide +kernel) (by decide +kernel)) (good_code (List.mem_of_getElem? (i := 167) (by decide +kernel)))
theorem cw_L_17 {s : State} {args : Array Value} (hts : ∀ w ∈ wsL_law, w.before args s = true) : CallW room_1 s args RL RX7 17 yX7_block cX7_block 9 (some .int) (.code yX7_block cX7_block 9 (some .int) :: wsL_law) rm_X7_block 0 0 6 := cwV 6 hts gw_L_17 rfl rfl rfl (by decide +kernel) ⟨Nat.le_of_ble_eq_true rfl, Nat.le_of_ble_eq_true rfl⟩
theorem gw_L_18 : GoodIn wsL_law (wsV RL 18 RX6 yX6_words (.code yX6_words cX6_words 4 (some .int) :: wsL_law)) := goodIn_app (goodIn_r _ [176, 177, 178, 2] (by decide +kernel) (by decide +kernel)) (good_code (List.mem_of_getElem? (i := 179) (by decide +kernel)))
theorem cw_L_18 {s : State} {args : Array Value} (hts : ∀ w ∈ wsL_law, w.before args s = true) : CallW room_1 s args RL RX6 18 yX6_words cX6_words 4 (some .int) (.code yX6_words cX6_words 4 (some .int) :: wsL_law) rm_X6_words 0 0 2 := cwV 2 hts gw_L_18 rfl rfl rfl (by decide +kernel) ⟨Nat.le_of_ble_eq_true rfl, Nat.le_of_ble_eq_true rfl⟩
theorem gw_L_22 : GoodIn wsL_law (wsV RL 22 RX7 yX7_words (.code yX7_words cX7_words 4 (some .int) :: wsL_law)) := goodIn_app (goodIn_r _ [186, 187, 188, 5] (by decide +kernel) (by decide +kernel)) (good_code (List.mem_of_getElem? (i := 189) (by decide +kernel)))
theorem cw_L_22 {s : State} {args : Array Value} (hts : ∀ w ∈ wsL_law, w.before args s = true) : CallW room_1 s args RL RX7 22 yX7_words cX7_words 4 (some .int) (.code yX7_words cX7_words 4 (some .int) :: wsL_law) rm_X7_words 0 0 2 := cwV 2 hts gw_L_22 rfl rfl rfl (by decide +kernel) ⟨Nat.le_of_ble_eq_true rfl, Nat.le_of_ble_eq_true rfl⟩
theorem gw_L_23 : GoodIn wsL_law (wsV RL 23 RX6 yX6_line (.code yX6_line cX6_line 8 (some .int) :: wsL_law)) := goodIn_app (goodIn_r _ [194, 195, 196, 2] (by decide +kernel) (by decide +kernel)) (good_code (List.mem_of_getElem? (i := 197) (by decide +kernel)))
theorem cw_L_23 {s : State} {args : Array Value} (hts : ∀ w ∈ wsL_law, w.before args s = true) : CallW room_1 s args RL RX6 23 yX6_line cX6_line 8 (some .int) (.code yX6_line cX6_line 8 (some .int) :: wsL_law) rm_X6_line 0 0 5 := cwV 5 hts gw_L_23 rfl rfl rfl (by decide +kernel) ⟨Nat.le_of_ble_eq_true rfl, Nat.le_of_ble_eq_true rfl⟩
theorem gw_L_27 : GoodIn wsL_law (wsV RL 27 RX7 yX7_line (.code yX7_line cX7_line 8 (some .int) :: wsL_law)) := goodIn_app (goodIn_r _ [204, 205, 206, 5] (by decide +kernel) (by decide +kernel)) (good_code (List.mem_of_getElem? (i := 207) (by decide +kernel)))
theorem cw_L_27 {s : State} {args : Array Value} (hts : ∀ w ∈ wsL_law, w.before args s = true) : CallW room_1 s args RL RX7 27 yX7_line cX7_line 8 (some .int) (.code yX7_line cX7_line 8 (some .int) :: wsL_law) rm_X7_line 0 0 5 := cwV 5 hts gw_L_27 rfl rfl rfl (by decide +kernel) ⟨Nat.le_of_ble_eq_true rfl, Nat.le_of_ble_eq_true rfl⟩
theorem gw_L_28 : GoodIn wsL_law (wsV RL 28 RX6 yX6_back (.code yX6_back cX6_back 1 (some .int) :: wsL_law)) := goodIn_app (goodIn_r _ [209, 210, 211, 2] (by decide +kernel) (by decide +kernel)) (good_code (List.mem_of_getElem? (i := 212) (by decide +kernel)))
theorem cw_L_28 {s : State} {args : Array Value} (hts : ∀ w ∈ wsL_law, w.before args s = true) : CallW room_1 s args RL RX6 28 yX6_back cX6_back 1 (some .int) (.code yX6_back cX6_back 1 (some .int) :: wsL_law) rm_X6_back 0 0 0 := cwV 0 hts gw_L_28 rfl rfl rfl (by decide +kernel) ⟨Nat.le_of_ble_eq_true rfl, Nat.le_of_ble_eq_true rfl⟩
theorem gw_L_32 : GoodIn wsL_law (wsV RL 32 RX7 yX7_back (.code yX7_back cX7_back 1 (some .int) :: wsL_law)) := goodIn_app (goodIn_r _ [213, 214, 215, 5] (by decide +kernel) (by decide +kernel)) (good_code (List.mem_of_getElem? (i := 216) (by decide +kernel)))
theorem cw_L_32 {s : State} {args : Array Value} (hts : ∀ w ∈ wsL_law, w.before args s = true) : CallW room_1 s args RL RX7 32 yX7_back cX7_back 1 (some .int) (.code yX7_back cX7_back 1 (some .int) :: wsL_law) rm_X7_back 0 0 0 := cwV 0 hts gw_L_32 rfl rfl rfl (by decide +kernel) ⟨Nat.le_of_ble_eq_true rfl, Nat.le_of_ble_eq_true rfl⟩
theorem gw_L_33 : GoodIn wsL_law (wsV RL 33 RX6 yX6_erase (.code yX6_erase cX6_erase 1 (some .int) :: wsL_law)) := goodIn_app (goodIn_r _ [217, 218, 219, 2] (by decide +kernel) (by decide +kernel)) (good_code (List.mem_of_getElem? (i := 220) (by decide +kernel)))
theorem cw_L_33 {s : State} {args : Array Value} (hts : ∀ w ∈ wsL_law, w.before args s = true) : CallW room_1 s args RL RX6 33 yX6_erase cX6_erase 1 (some .int) (.code yX6_erase cX6_erase 1 (some .int) :: wsL_law) rm_X6_erase 0 0 0 := cwV 0 hts gw_L_33 rfl rfl rfl (by decide +kernel) ⟨Nat.le_of_ble_eq_true rfl, Nat.le_of_ble_eq_true rfl⟩
theorem gw_L_36 : GoodIn wsL_law (wsV RL 36 RX7 yX7_erase (.code yX7_erase cX7_erase 1 (some .int) :: wsL_law)) := goodIn_app (goodIn_r _ [221, 222, 223, 5] (by decide +kernel) (by decide +kernel)) (good_code (List.mem_of_getElem? (i := 224) (by decide +kernel)))
theorem cw_L_36 {s : State} {args : Array Value} (hts : ∀ w ∈ wsL_law, w.before args s = true) : CallW room_1 s args RL RX7 36 yX7_erase cX7_erase 1 (some .int) (.code yX7_erase cX7_erase 1 (some .int) :: wsL_law) rm_X7_erase 0 0 0 := cwV 0 hts gw_L_36 rfl rfl rfl (by decide +kernel) ⟨Nat.le_of_ble_eq_true rfl, Nat.le_of_ble_eq_true rfl⟩
theorem gw_L_37 : GoodIn wsL_law (wsV RL 37 RX6 yX6_clear (.code yX6_clear cX6_clear 2 (some .int) :: wsL_law)) := goodIn_app (goodIn_r _ [225, 226, 227, 2] (by decide +kernel) (by decide +kernel)) (good_code (List.mem_of_getElem? (i := 228) (by decide +kernel)))
theorem cw_L_37 {s : State} {args : Array Value} (hts : ∀ w ∈ wsL_law, w.before args s = true) : CallW room_1 s args RL RX6 37 yX6_clear cX6_clear 2 (some .int) (.code yX6_clear cX6_clear 2 (some .int) :: wsL_law) rm_X6_clear 0 0 0 := cwV 0 hts gw_L_37 rfl rfl rfl (by decide +kernel) ⟨Nat.le_of_ble_eq_true rfl, Nat.le_of_ble_eq_true rfl⟩
theorem gw_L_40 : GoodIn wsL_law (wsV RL 40 RX7 yX7_clear (.code yX7_clear cX7_clear 2 (some .int) :: wsL_law)) := goodIn_app (goodIn_r _ [229, 230, 231, 5] (by decide +kernel) (by decide +kernel)) (good_code (List.mem_of_getElem? (i := 232) (by decide +kernel)))
theorem cw_L_40 {s : State} {args : Array Value} (hts : ∀ w ∈ wsL_law, w.before args s = true) : CallW room_1 s args RL RX7 40 yX7_clear cX7_clear 2 (some .int) (.code yX7_clear cX7_clear 2 (some .int) :: wsL_law) rm_X7_clear 0 0 0 := cwV 0 hts gw_L_40 rfl rfl rfl (by decide +kernel) ⟨Nat.le_of_ble_eq_true rfl, Nat.le_of_ble_eq_true rfl⟩
theorem gw_L_41 : GoodIn wsL_law (wsV RL 41 RX6 yX6_turn (.code yX6_turn cX6_turn 1 (some .int) :: wsL_law)) := goodIn_app (goodIn_r _ [233, 234, 235, 2] (by decide +kernel) (by decide +kernel)) (good_code (List.mem_of_getElem? (i := 236) (by decide +kernel)))
theorem cw_L_41 {s : State} {args : Array Value} (hts : ∀ w ∈ wsL_law, w.before args s = true) : CallW room_1 s args RL RX6 41 yX6_turn cX6_turn 1 (some .int) (.code yX6_turn cX6_turn 1 (some .int) :: wsL_law) rm_X6_turn 0 0 0 := cwV 0 hts gw_L_41 rfl rfl rfl (by decide +kernel) ⟨Nat.le_of_ble_eq_true rfl, Nat.le_of_ble_eq_true rfl⟩
theorem gw_L_44 : GoodIn wsL_law (wsV RL 44 RX7 yX7_turn (.code yX7_turn cX7_turn 4 (some .int) :: wsL_law)) := goodIn_app (goodIn_r _ [245, 246, 247, 5] (by decide +kernel) (by decide +kernel)) (good_code (List.mem_of_getElem? (i := 248) (by decide +kernel)))
theorem cw_L_44 {s : State} {args : Array Value} (hts : ∀ w ∈ wsL_law, w.before args s = true) : CallW room_1 s args RL RX7 44 yX7_turn cX7_turn 4 (some .int) (.code yX7_turn cX7_turn 4 (some .int) :: wsL_law) rm_X7_turn 0 0 0 := cwV 0 hts gw_L_44 rfl rfl rfl (by decide +kernel) ⟨Nat.le_of_ble_eq_true rfl, Nat.le_of_ble_eq_true rfl⟩
theorem gw_L_45 : GoodIn wsL_law (wsV RL 45 RX6 yX6_ofBlock (.code yX6_ofBlock cX6_ofBlock 3 (some .int) :: wsL_law)) := goodIn_app (goodIn_r _ [249, 250, 251, 2] (by decide +kernel) (by decide +kernel)) (good_code (List.mem_of_getElem? (i := 252) (by decide +kernel)))
theorem cw_L_45 {s : State} {args : Array Value} (hts : ∀ w ∈ wsL_law, w.before args s = true) : CallW room_1 s args RL RX6 45 yX6_ofBlock cX6_ofBlock 3 (some .int) (.code yX6_ofBlock cX6_ofBlock 3 (some .int) :: wsL_law) rm_X6_ofBlock 0 0 2 := cwV 2 hts gw_L_45 rfl rfl rfl (by decide +kernel) ⟨Nat.le_of_ble_eq_true rfl, Nat.le_of_ble_eq_true rfl⟩
theorem gw_L_48 : GoodIn wsL_law (wsV RL 48 RX7 yX7_ofBlock (.code yX7_ofBlock cX7_ofBlock 3 (some .int) :: wsL_law)) := goodIn_app (goodIn_r _ [258, 259, 260, 5] (by decide +kernel) (by decide +kernel)) (good_code (List.mem_of_getElem? (i := 261) (by decide +kernel)))
theorem cw_L_48 {s : State} {args : Array Value} (hts : ∀ w ∈ wsL_law, w.before args s = true) : CallW room_1 s args RL RX7 48 yX7_ofBlock cX7_ofBlock 3 (some .int) (.code yX7_ofBlock cX7_ofBlock 3 (some .int) :: wsL_law) rm_X7_ofBlock 0 0 2 := cwV 2 hts gw_L_48 rfl rfl rfl (by decide +kernel) ⟨Nat.le_of_ble_eq_true rfl, Nat.le_of_ble_eq_true rfl⟩
theorem gw_L_49 : GoodIn wsL_law (wsV RL 49 RX6 yX6_ofLine (.code yX6_ofLine cX6_ofLine 3 (some .int) :: wsL_law)) := goodIn_app (goodIn_r _ [262, 263, 264, 2] (by decide +kernel) (by decide +kernel)) (good_code (List.mem_of_getElem? (i := 265) (by decide +kernel)))
theorem cw_L_49 {s : State} {args : Array Value} (hts : ∀ w ∈ wsL_law, w.before args s = true) : CallW room_1 s args RL RX6 49 yX6_ofLine cX6_ofLine 3 (some .int) (.code yX6_ofLine cX6_ofLine 3 (some .int) :: wsL_law) rm_X6_ofLine 0 0 2 := cwV 2 hts gw_L_49 rfl rfl rfl (by decide +kernel) ⟨Nat.le_of_ble_eq_true rfl, Nat.le_of_ble_eq_true rfl⟩
theorem gw_L_52 : GoodIn wsL_law (wsV RL 52 RX7 yX7_ofLine (.code yX7_ofLine cX7_ofLine 3 (some .int) :: wsL_law)) := goodIn_app (goodIn_r _ [275, 276, 277, 5] (by decide +kernel) (by decide +kernel)) (good_code (List.mem_of_getElem? (i := 278) (by decide +kernel)))
theorem cw_L_52 {s : State} {args : Array Value} (hts : ∀ w ∈ wsL_law, w.before args s = true) : CallW room_1 s args RL RX7 52 yX7_ofLine cX7_ofLine 3 (some .int) (.code yX7_ofLine cX7_ofLine 3 (some .int) :: wsL_law) rm_X7_ofLine 0 0 2 := cwV 2 hts gw_L_52 rfl rfl rfl (by decide +kernel) ⟨Nat.le_of_ble_eq_true rfl, Nat.le_of_ble_eq_true rfl⟩
theorem gw_L_53 : GoodIn wsL_law (wsV RL 53 RX6 yX6_at (.code yX6_at cX6_at 4 (some .int) :: wsL_law)) := goodIn_app (goodIn_r _ [279, 280, 281, 2] (by decide +kernel) (by decide +kernel)) (good_code (List.mem_of_getElem? (i := 282) (by decide +kernel)))
theorem cw_L_53 {s : State} {args : Array Value} (hts : ∀ w ∈ wsL_law, w.before args s = true) : CallW room_1 s args RL RX6 53 yX6_at cX6_at 4 (some .int) (.code yX6_at cX6_at 4 (some .int) :: wsL_law) rm_X6_at 0 0 3 := cwV 3 hts gw_L_53 rfl rfl rfl (by decide +kernel) ⟨Nat.le_of_ble_eq_true rfl, Nat.le_of_ble_eq_true rfl⟩
theorem gw_L_57 : GoodIn wsL_law (wsV RL 57 RX7 yX7_at (.code yX7_at cX7_at 5 (some .int) :: wsL_law)) := goodIn_app (goodIn_r _ [284, 285, 286, 5] (by decide +kernel) (by decide +kernel)) (good_code (List.mem_of_getElem? (i := 287) (by decide +kernel)))
theorem cw_L_57 {s : State} {args : Array Value} (hts : ∀ w ∈ wsL_law, w.before args s = true) : CallW room_1 s args RL RX7 57 yX7_at cX7_at 5 (some .int) (.code yX7_at cX7_at 5 (some .int) :: wsL_law) rm_X7_at 0 0 3 := cwV 3 hts gw_L_57 rfl rfl rfl (by decide +kernel) ⟨Nat.le_of_ble_eq_true rfl, Nat.le_of_ble_eq_true rfl⟩
theorem gw_L_58 : GoodIn wsL_law (wsV RL 58 RX6 yX6_reach (.code yX6_reach cX6_reach 3 (some .int) :: wsL_law)) := goodIn_app (goodIn_r _ [288, 289, 290, 2] (by decide +kernel) (by decide +kernel)) (good_code (List.mem_of_getElem? (i := 291) (by decide +kernel)))
theorem cw_L_58 {s : State} {args : Array Value} (hts : ∀ w ∈ wsL_law, w.before args s = true) : CallW room_1 s args RL RX6 58 yX6_reach cX6_reach 3 (some .int) (.code yX6_reach cX6_reach 3 (some .int) :: wsL_law) rm_X6_reach 0 0 2 := cwV 2 hts gw_L_58 rfl rfl rfl (by decide +kernel) ⟨Nat.le_of_ble_eq_true rfl, Nat.le_of_ble_eq_true rfl⟩
theorem gw_L_61 : GoodIn wsL_law (wsV RL 61 RX7 yX7_reach (.code yX7_reach cX7_reach 3 (some .int) :: wsL_law)) := goodIn_app (goodIn_r _ [322, 323, 324, 5] (by decide +kernel) (by decide +kernel)) (good_code (List.mem_of_getElem? (i := 325) (by decide +kernel)))
theorem cw_L_61 {s : State} {args : Array Value} (hts : ∀ w ∈ wsL_law, w.before args s = true) : CallW room_1 s args RL RX7 61 yX7_reach cX7_reach 3 (some .int) (.code yX7_reach cX7_reach 3 (some .int) :: wsL_law) rm_X7_reach 0 0 2 := cwV 2 hts gw_L_61 rfl rfl rfl (by decide +kernel) ⟨Nat.le_of_ble_eq_true rfl, Nat.le_of_ble_eq_true rfl⟩
theorem gw_L_62 : GoodIn wsL_law (wsV RL 62 RX6 yX6_under (.code yX6_under cX6_under 2 (some .int) :: wsL_law)) := goodIn_app (goodIn_r _ [342, 343, 344, 2] (by decide +kernel) (by decide +kernel)) (good_code (List.mem_of_getElem? (i := 345) (by decide +kernel)))
theorem cw_L_62 {s : State} {args : Array Value} (hts : ∀ w ∈ wsL_law, w.before args s = true) : CallW room_1 s args RL RX6 62 yX6_under cX6_under 2 (some .int) (.code yX6_under cX6_under 2 (some .int) :: wsL_law) rm_X6_under 0 0 1 := cwV 1 hts gw_L_62 rfl rfl rfl (by decide +kernel) ⟨Nat.le_of_ble_eq_true rfl, Nat.le_of_ble_eq_true rfl⟩
theorem gw_L_66 : GoodIn wsL_law (wsV RL 66 RX7 yX7_under (.code yX7_under cX7_under 2 (some .int) :: wsL_law)) := goodIn_app (goodIn_r _ [453, 454, 455, 5] (by decide +kernel) (by decide +kernel)) (good_code (List.mem_of_getElem? (i := 456) (by decide +kernel)))
theorem cw_L_66 {s : State} {args : Array Value} (hts : ∀ w ∈ wsL_law, w.before args s = true) : CallW room_1 s args RL RX7 66 yX7_under cX7_under 2 (some .int) (.code yX7_under cX7_under 2 (some .int) :: wsL_law) rm_X7_under 0 0 1 := cwV 1 hts gw_L_66 rfl rfl rfl (by decide +kernel) ⟨Nat.le_of_ble_eq_true rfl, Nat.le_of_ble_eq_true rfl⟩
theorem gw_L_67 : GoodIn wsL_law (wsV RL 67 RX6 yX6_story (.code yX6_story cX6_story 2 (some .int) :: wsL_law)) := goodIn_app (goodIn_r _ [461, 462, 463, 2] (by decide +kernel) (by decide +kernel)) (good_code (List.mem_of_getElem? (i := 464) (by decide +kernel)))
theorem cw_L_67 {s : State} {args : Array Value} (hts : ∀ w ∈ wsL_law, w.before args s = true) : CallW room_1 s args RL RX6 67 yX6_story cX6_story 2 (some .int) (.code yX6_story cX6_story 2 (some .int) :: wsL_law) rm_X6_story 0 0 1 := cwV 1 hts gw_L_67 rfl rfl rfl (by decide +kernel) ⟨Nat.le_of_ble_eq_true rfl, Nat.le_of_ble_eq_true rfl⟩
theorem gw_L_70 : GoodIn wsL_law (wsV RL 70 RX7 yX7_story (.code yX7_story cX7_story 2 (some .int) :: wsL_law)) := goodIn_app (goodIn_r _ [466, 467, 468, 5] (by decide +kernel) (by decide +kernel)) (good_code (List.mem_of_getElem? (i := 469) (by decide +kernel)))
theorem cw_L_70 {s : State} {args : Array Value} (hts : ∀ w ∈ wsL_law, w.before args s = true) : CallW room_1 s args RL RX7 70 yX7_story cX7_story 2 (some .int) (.code yX7_story cX7_story 2 (some .int) :: wsL_law) rm_X7_story 0 0 1 := cwV 1 hts gw_L_70 rfl rfl rfl (by decide +kernel) ⟨Nat.le_of_ble_eq_true rfl, Nat.le_of_ble_eq_true rfl⟩
theorem gw_L_71 : GoodIn wsL_law (wsV RL 71 RX6 yX6_takenBy (.code yX6_takenBy cX6_takenBy 2 (some .int) :: wsL_law)) := goodIn_app (goodIn_r _ [499, 500, 501, 2] (by decide +kernel) (by decide +kernel)) (good_code (List.mem_of_getElem? (i := 502) (by decide +kernel)))
theorem cw_L_71 {s : State} {args : Array Value} (hts : ∀ w ∈ wsL_law, w.before args s = true) : CallW room_1 s args RL RX6 71 yX6_takenBy cX6_takenBy 2 (some .int) (.code yX6_takenBy cX6_takenBy 2 (some .int) :: wsL_law) rm_X6_takenBy 0 0 1 := cwV 1 hts gw_L_71 rfl rfl rfl (by decide +kernel) ⟨Nat.le_of_ble_eq_true rfl, Nat.le_of_ble_eq_true rfl⟩
theorem gw_L_74 : GoodIn wsL_law (wsV RL 74 RX7 yX7_takenBy (.code yX7_takenBy cX7_takenBy 2 (some .int) :: wsL_law)) := goodIn_app (goodIn_r _ [504, 505, 506, 5] (by decide +kernel) (by decide +kernel)) (good_code (List.mem_of_getElem? (i := 507) (by decide +kernel)))
theorem cw_L_74 {s : State} {args : Array Value} (hts : ∀ w ∈ wsL_law, w.before args s = true) : CallW room_1 s args RL RX7 74 yX7_takenBy cX7_takenBy 2 (some .int) (.code yX7_takenBy cX7_takenBy 2 (some .int) :: wsL_law) rm_X7_takenBy 0 0 1 := cwV 1 hts gw_L_74 rfl rfl rfl (by decide +kernel) ⟨Nat.le_of_ble_eq_true rfl, Nat.le_of_ble_eq_true rfl⟩
theorem gw_L_75 : GoodIn wsL_law (wsV RL 75 RX6 yX6_ofStory (.code yX6_ofStory cX6_ofStory 3 (some .int) :: wsL_law)) := goodIn_app (goodIn_r _ [508, 509, 510, 2] (by decide +kernel) (by decide +kernel)) (good_code (List.mem_of_getElem? (i := 511) (by decide +kernel)))
theorem cw_L_75 {s : State} {args : Array Value} (hts : ∀ w ∈ wsL_law, w.before args s = true) : CallW room_1 s args RL RX6 75 yX6_ofStory cX6_ofStory 3 (some .int) (.code yX6_ofStory cX6_ofStory 3 (some .int) :: wsL_law) rm_X6_ofStory 0 0 2 := cwV 2 hts gw_L_75 rfl rfl rfl (by decide +kernel) ⟨Nat.le_of_ble_eq_true rfl, Nat.le_of_ble_eq_true rfl⟩
theorem gw_L_78 : GoodIn wsL_law (wsV RL 78 RX7 yX7_ofStory (.code yX7_ofStory cX7_ofStory 4 (some .int) :: wsL_law)) := goodIn_app (goodIn_r _ [544, 545, 546, 5] (by decide +kernel) (by decide +kernel)) (good_code (List.mem_of_getElem? (i := 547) (by decide +kernel)))
theorem cw_L_78 {s : State} {args : Array Value} (hts : ∀ w ∈ wsL_law, w.before args s = true) : CallW room_1 s args RL RX7 78 yX7_ofStory cX7_ofStory 4 (some .int) (.code yX7_ofStory cX7_ofStory 4 (some .int) :: wsL_law) rm_X7_ofStory 0 0 2 := cwV 2 hts gw_L_78 rfl rfl rfl (by decide +kernel) ⟨Nat.le_of_ble_eq_true rfl, Nat.le_of_ble_eq_true rfl⟩
theorem gw_L_79 : GoodIn wsL_law (wsV RL 79 RX6 yX6_text (.code yX6_text cX6_text 3 (some .int) :: wsL_law)) := goodIn_app (goodIn_r _ [582, 583, 584, 2] (by decide +kernel) (by decide +kernel)) (good_code (List.mem_of_getElem? (i := 585) (by decide +kernel)))
theorem cw_L_79 {s : State} {args : Array Value} (hts : ∀ w ∈ wsL_law, w.before args s = true) : CallW room_1 s args RL RX6 79 yX6_text cX6_text 3 (some .int) (.code yX6_text cX6_text 3 (some .int) :: wsL_law) rm_X6_text 0 0 2 := cwV 2 hts gw_L_79 rfl rfl rfl (by decide +kernel) ⟨Nat.le_of_ble_eq_true rfl, Nat.le_of_ble_eq_true rfl⟩
theorem gw_L_82 : GoodIn wsL_law (wsV RL 82 RX7 yX7_text (.code yX7_text cX7_text 4 (some .int) :: wsL_law)) := goodIn_app (goodIn_r _ [590, 591, 592, 5] (by decide +kernel) (by decide +kernel)) (good_code (List.mem_of_getElem? (i := 593) (by decide +kernel)))
theorem cw_L_82 {s : State} {args : Array Value} (hts : ∀ w ∈ wsL_law, w.before args s = true) : CallW room_1 s args RL RX7 82 yX7_text cX7_text 4 (some .int) (.code yX7_text cX7_text 4 (some .int) :: wsL_law) rm_X7_text 0 0 2 := cwV 2 hts gw_L_82 rfl rfl rfl (by decide +kernel) ⟨Nat.le_of_ble_eq_true rfl, Nat.le_of_ble_eq_true rfl⟩
theorem gw_L_83 : GoodIn wsL_law (wsV RL 83 RX6 yX6_mark (.code yX6_mark cX6_mark 6 (some .int) :: wsL_law)) := goodIn_app (goodIn_r _ [594, 595, 596, 2] (by decide +kernel) (by decide +kernel)) (good_code (List.mem_of_getElem? (i := 597) (by decide +kernel)))
theorem cw_L_83 {s : State} {args : Array Value} (hts : ∀ w ∈ wsL_law, w.before args s = true) : CallW room_1 s args RL RX6 83 yX6_mark cX6_mark 6 (some .int) (.code yX6_mark cX6_mark 6 (some .int) :: wsL_law) rm_X6_mark 0 0 4 := cwV 4 hts gw_L_83 rfl rfl rfl (by decide +kernel) ⟨Nat.le_of_ble_eq_true rfl, Nat.le_of_ble_eq_true rfl⟩
theorem gw_L_87 : GoodIn wsL_law (wsV RL 87 RX7 yX7_mark (.code yX7_mark cX7_mark 6 (some .int) :: wsL_law)) := goodIn_app (goodIn_r _ [600, 601, 602, 5] (by decide +kernel) (by decide +kernel)) (good_code (List.mem_of_getElem? (i := 603) (by decide +kernel)))
theorem cw_L_87 {s : State} {args : Array Value} (hts : ∀ w ∈ wsL_law, w.before args s = true) : CallW room_1 s args RL RX7 87 yX7_mark cX7_mark 6 (some .int) (.code yX7_mark cX7_mark 6 (some .int) :: wsL_law) rm_X7_mark 0 0 4 := cwV 4 hts gw_L_87 rfl rfl rfl (by decide +kernel) ⟨Nat.le_of_ble_eq_true rfl, Nat.le_of_ble_eq_true rfl⟩
theorem gw_L_88 : GoodIn wsL_law (wsV RL 88 RX6 yX6_unmark (.code yX6_unmark cX6_unmark 4 (some .int) :: wsL_law)) := goodIn_app (goodIn_r _ [604, 605, 606, 2] (by decide +kernel) (by decide +kernel)) (good_code (List.mem_of_getElem? (i := 607) (by decide +kernel)))
theorem cw_L_88 {s : State} {args : Array Value} (hts : ∀ w ∈ wsL_law, w.before args s = true) : CallW room_1 s args RL RX6 88 yX6_unmark cX6_unmark 4 (some .int) (.code yX6_unmark cX6_unmark 4 (some .int) :: wsL_law) rm_X6_unmark 0 0 2 := cwV 2 hts gw_L_88 rfl rfl rfl (by decide +kernel) ⟨Nat.le_of_ble_eq_true rfl, Nat.le_of_ble_eq_true rfl⟩
theorem gw_L_91 : GoodIn wsL_law (wsV RL 91 RX7 yX7_unmark (.code yX7_unmark cX7_unmark 4 (some .int) :: wsL_law)) := goodIn_app (goodIn_r _ [609, 610, 611, 5] (by decide +kernel) (by decide +kernel)) (good_code (List.mem_of_getElem? (i := 612) (by decide +kernel)))
theorem cw_L_91 {s : State} {args : Array Value} (hts : ∀ w ∈ wsL_law, w.before args s = true) : CallW room_1 s args RL RX7 91 yX7_unmark cX7_unmark 4 (some .int) (.code yX7_unmark cX7_unmark 4 (some .int) :: wsL_law) rm_X7_unmark 0 0 2 := cwV 2 hts gw_L_91 rfl rfl rfl (by decide +kernel) ⟨Nat.le_of_ble_eq_true rfl, Nat.le_of_ble_eq_true rfl⟩
theorem gw_L_92 : GoodIn wsL_law (wsV RL 92 RX6 yX6_ofMark (.code yX6_ofMark cX6_ofMark 4 (some .int) :: wsL_law)) := goodIn_app (goodIn_r _ [613, 614, 615, 2] (by decide +kernel) (by decide +kernel)) (good_code (List.mem_of_getElem? (i := 616) (by decide +kernel)))
theorem cw_L_92 {s : State} {args : Array Value} (hts : ∀ w ∈ wsL_law, w.before args s = true) : CallW room_1 s args RL RX6 92 yX6_ofMark cX6_ofMark 4 (some .int) (.code yX6_ofMark cX6_ofMark 4 (some .int) :: wsL_law) rm_X6_ofMark 0 0 3 := cwV 3 hts gw_L_92 rfl rfl rfl (by decide +kernel) ⟨Nat.le_of_ble_eq_true rfl, Nat.le_of_ble_eq_true rfl⟩
theorem gw_L_95 : GoodIn wsL_law (wsV RL 95 RX7 yX7_ofMark (.code yX7_ofMark cX7_ofMark 5 (some .int) :: wsL_law)) := goodIn_app (goodIn_r _ [619, 620, 621, 5] (by decide +kernel) (by decide +kernel)) (good_code (List.mem_of_getElem? (i := 622) (by decide +kernel)))
theorem cw_L_95 {s : State} {args : Array Value} (hts : ∀ w ∈ wsL_law, w.before args s = true) : CallW room_1 s args RL RX7 95 yX7_ofMark cX7_ofMark 5 (some .int) (.code yX7_ofMark cX7_ofMark 5 (some .int) :: wsL_law) rm_X7_ofMark 0 0 3 := cwV 3 hts gw_L_95 rfl rfl rfl (by decide +kernel) ⟨Nat.le_of_ble_eq_true rfl, Nat.le_of_ble_eq_true rfl⟩
theorem gw_L_96 : GoodIn wsL_law (wsV RL 96 RX6 yX6_ofArticle (.code yX6_ofArticle cX6_ofArticle 3 (some .int) :: wsL_law)) := goodIn_app (goodIn_r _ [623, 624, 625, 2] (by decide +kernel) (by decide +kernel)) (good_code (List.mem_of_getElem? (i := 626) (by decide +kernel)))
theorem cw_L_96 {s : State} {args : Array Value} (hts : ∀ w ∈ wsL_law, w.before args s = true) : CallW room_1 s args RL RX6 96 yX6_ofArticle cX6_ofArticle 3 (some .int) (.code yX6_ofArticle cX6_ofArticle 3 (some .int) :: wsL_law) rm_X6_ofArticle 0 0 2 := cwV 2 hts gw_L_96 rfl rfl rfl (by decide +kernel) ⟨Nat.le_of_ble_eq_true rfl, Nat.le_of_ble_eq_true rfl⟩
theorem gw_L_99 : GoodIn wsL_law (wsV RL 99 RX7 yX7_ofArticle (.code yX7_ofArticle cX7_ofArticle 3 (some .int) :: wsL_law)) := goodIn_app (goodIn_r _ [656, 657, 658, 5] (by decide +kernel) (by decide +kernel)) (good_code (List.mem_of_getElem? (i := 659) (by decide +kernel)))
theorem cw_L_99 {s : State} {args : Array Value} (hts : ∀ w ∈ wsL_law, w.before args s = true) : CallW room_1 s args RL RX7 99 yX7_ofArticle cX7_ofArticle 3 (some .int) (.code yX7_ofArticle cX7_ofArticle 3 (some .int) :: wsL_law) rm_X7_ofArticle 0 0 2 := cwV 2 hts gw_L_99 rfl rfl rfl (by decide +kernel) ⟨Nat.le_of_ble_eq_true rfl, Nat.le_of_ble_eq_true rfl⟩
theorem gw_L_100 : GoodIn wsL_law (wsV RL 100 RX6 yX6_read (.code yX6_read cX6_read 3 (some .int) :: wsL_law)) := goodIn_app (goodIn_r _ [672, 673, 674, 2] (by decide +kernel) (by decide +kernel)) (good_code (List.mem_of_getElem? (i := 675) (by decide +kernel)))
theorem cw_L_100 {s : State} {args : Array Value} (hts : ∀ w ∈ wsL_law, w.before args s = true) : CallW room_1 s args RL RX6 100 yX6_read cX6_read 3 (some .int) (.code yX6_read cX6_read 3 (some .int) :: wsL_law) rm_X6_read 0 0 2 := cwV 2 hts gw_L_100 rfl rfl rfl (by decide +kernel) ⟨Nat.le_of_ble_eq_true rfl, Nat.le_of_ble_eq_true rfl⟩
theorem gw_L_103 : GoodIn wsL_law (wsV RL 103 RX7 yX7_read (.code yX7_read cX7_read 7 (some .int) :: wsL_law)) := goodIn_app (goodIn_r _ [683, 684, 685, 5] (by decide +kernel) (by decide +kernel)) (good_code (List.mem_of_getElem? (i := 686) (by decide +kernel)))
theorem cw_L_103 {s : State} {args : Array Value} (hts : ∀ w ∈ wsL_law, w.before args s = true) : CallW room_1 s args RL RX7 103 yX7_read cX7_read 7 (some .int) (.code yX7_read cX7_read 7 (some .int) :: wsL_law) rm_X7_read 0 0 2 := cwV 2 hts gw_L_103 rfl rfl rfl (by decide +kernel) ⟨Nat.le_of_ble_eq_true rfl, Nat.le_of_ble_eq_true rfl⟩
theorem gw_L_104 : GoodIn wsL_law (wsV RL 104 RX6 yX6_many (.code yX6_many cX6_many 2 (some .int) :: wsL_law)) := goodIn_app (goodIn_r _ [687, 688, 689, 2] (by decide +kernel) (by decide +kernel)) (good_code (List.mem_of_getElem? (i := 690) (by decide +kernel)))
theorem cw_L_104 {s : State} {args : Array Value} (hts : ∀ w ∈ wsL_law, w.before args s = true) : CallW room_1 s args RL RX6 104 yX6_many cX6_many 2 (some .int) (.code yX6_many cX6_many 2 (some .int) :: wsL_law) rm_X6_many 0 0 1 := cwV 1 hts gw_L_104 rfl rfl rfl (by decide +kernel) ⟨Nat.le_of_ble_eq_true rfl, Nat.le_of_ble_eq_true rfl⟩
theorem gw_L_107 : GoodIn wsL_law (wsV RL 107 RX7 yX7_many (.code yX7_many cX7_many 2 (some .int) :: wsL_law)) := goodIn_app (goodIn_r _ [724, 725, 726, 5] (by decide +kernel) (by decide +kernel)) (good_code (List.mem_of_getElem? (i := 727) (by decide +kernel)))
theorem cw_L_107 {s : State} {args : Array Value} (hts : ∀ w ∈ wsL_law, w.before args s = true) : CallW room_1 s args RL RX7 107 yX7_many cX7_many 2 (some .int) (.code yX7_many cX7_many 2 (some .int) :: wsL_law) rm_X7_many 0 0 1 := cwV 1 hts gw_L_107 rfl rfl rfl (by decide +kernel) ⟨Nat.le_of_ble_eq_true rfl, Nat.le_of_ble_eq_true rfl⟩
/-- what the law knows in its loop -/
def lx (p : Program) (s : State) (m : MethodId) (meth : Method) (c : Code) (b L : Nat) (xs : Nat → Int32) (D : va_G) (ad ad2 : Nat → Nat) (cI cZ : ClassId) : Prop :=
  p.tables.exec = Jvm.exec ∧ c.code = cL_law ∧ c.maxLocals = 4 ∧ s.vm.findClass RL = some m.cls ∧ (∀ w ∈ wsL_law, w.before #[Value.ref b] s = true) ∧ va_X b L xs s s.heap ∧ b < s.heap.size ∧ va_K D vwCl [(cI, .int), (cZ, .boolean)] s ∧ nj ad 34 ∧ nj ad2 30 ∧ dj ad ad2 ∧ (∀ q, aw ad 34 q → s.heap.size ≤ q) ∧ (∀ q, aw ad2 30 q → s.heap.size ≤ q)
section LAW
variable {p : Program} {l : Launch} {e : Env} {s : State} {m : MethodId} {below : List Frame} {meth : Method} {c : Code} {D : va_G} {b L : Nat} {xs : Nat → Int32} {ad ad2 : Nat → Nat} {cI cZ : ClassId}
set_option maxHeartbeats 4000000 in
set_option maxRecDepth 100000 in
theorem law_0 (X : lx p s m meth c b L xs D ad ad2 cI cZ) {Q : State → Prop} {σ τ : St} {x3 : Int32} (hin : ∀ j : Int32, 0 ≤ j → j ≤ 6 → vp_in (x3 + j) L) (hs : ∃ (r : Int32) (σ' : St) (τ' : St), f_X6_block (xs (x3 + 1).toNatClampNeg) (xs (x3 + 2).toNatClampNeg) (xs (x3 + 3).toNatClampNeg) (xs (x3 + 4).toNatClampNeg) (xs (x3 + 5).toNatClampNeg) (xs (x3 + 6).toNatClampNeg) σ = some (r, σ') ∧ f_X7_block (xs (x3 + 1).toNatClampNeg) (xs (x3 + 2).toNatClampNeg) (xs (x3 + 3).toNatClampNeg) (xs (x3 + 4).toNatClampNeg) (xs (x3 + 5).toNatClampNeg) (xs (x3 + 6).toNatClampNeg) τ = some (r, τ') ∧ Rel σ' τ') (hk : ∀ {σ τ : St} {H : Heap} {locs : List Loc} {ls : Array Slot}, Rel σ τ → va_P D vwCl (wC ad cI σ) H → va_P D vwCl (wM ad2 cI cZ τ) H → va_S (fun q : Nat => s.heap.size ≤ q) s.heap H locs → lv_has ls 4 [(0, .ref b), (1, .ref (ad 0)), (2, .ref (ad2 0)), (3, .int x3)] → W p l e room_1 s m #[Value.ref b] below meth c H locs 64 1954 Q (F0 m 854 ls [])) {H : Heap} {locs : List Loc} {ls : Array Slot} (hP : va_P D vwCl (wC ad cI σ) H) (hP2 : va_P D vwCl (wM ad2 cI cZ τ) H) (hS : va_S (fun q : Nat => s.heap.size ≤ q) s.heap H locs) (hl : lv_has ls 4 [(0, .ref b), (1, .ref (ad 0)), (2, .ref (ad2 0)), (3, .int x3)]) : W p l e room_1 s m #[Value.ref b] below meth c H locs 64 1954 Q (F0 m 136 ls []) := by
  obtain ⟨hx, hb, hml, hown, hts, hX, hbl, hK, hN, hN2, hdj, hA1, hA2⟩ := id X
  have hbA : ¬ (fun q : Nat => s.heap.size ≤ q) b := Nat.not_le.mpr hbl
  obtain ⟨r, σ', τ', hf1, hf2, hR⟩ := hs
  refine lv_aload_n hx hb dL_law_136 rfl (lv_at hl 1 rfl) ?_
  refine lv_aload_n hx hb dL_law_137 rfl (lv_at hl 0 rfl) ?_
  refine lv_iload_n hx hb dL_law_138 rfl (lv_at hl 3 rfl) ?_
  refine lv_iconst (v := 1) hx hb dL_law_139 rfl ?_
  refine lv_iadd hx hb dL_law_140 ?_
  refine va_sld hx hb hX hbl hbA hS (hin 1 (by decide) (by decide)) dL_law_141 ?_
  refine lv_aload_n hx hb dL_law_142 rfl (lv_at hl 0 rfl) ?_
  refine lv_iload_n hx hb dL_law_143 rfl (lv_at hl 3 rfl) ?_
  refine lv_iconst (v := 2) hx hb dL_law_144 rfl ?_
  refine lv_iadd hx hb dL_law_145 ?_
  refine va_sld hx hb hX hbl hbA hS (hin 2 (by decide) (by decide)) dL_law_146 ?_
  refine lv_aload_n hx hb dL_law_147 rfl (lv_at hl 0 rfl) ?_
  refine lv_iload_n hx hb dL_law_148 rfl (lv_at hl 3 rfl) ?_
  refine lv_iconst (v := 3) hx hb dL_law_149 rfl ?_
  refine lv_iadd hx hb dL_law_150 ?_
  refine va_sld hx hb hX hbl hbA hS (hin 3 (by decide) (by decide)) dL_law_151 ?_
  refine lv_aload_n hx hb dL_law_152 rfl (lv_at hl 0 rfl) ?_
  refine lv_iload_n hx hb dL_law_153 rfl (lv_at hl 3 rfl) ?_
  refine lv_iconst (v := 4) hx hb dL_law_154 rfl ?_
  refine lv_iadd hx hb dL_law_155 ?_
  refine va_sld hx hb hX hbl hbA hS (hin 4 (by decide) (by decide)) dL_law_156 ?_
  refine lv_aload_n hx hb dL_law_157 rfl (lv_at hl 0 rfl) ?_
  refine lv_iload_n hx hb dL_law_158 rfl (lv_at hl 3 rfl) ?_
  refine lv_iconst (v := 5) hx hb dL_law_159 rfl ?_
  refine lv_iadd hx hb dL_law_160 ?_
  refine va_sld hx hb hX hbl hbA hS (hin 5 (by decide) (by decide)) dL_law_161 ?_
  refine lv_aload_n hx hb dL_law_162 rfl (lv_at hl 0 rfl) ?_
  refine lv_iload_n hx hb dL_law_163 rfl (lv_at hl 3 rfl) ?_
  refine lv_bipush (v := 6) hx hb dL_law_164 rfl ?_
  refine lv_iadd hx hb dL_law_166 ?_
  refine va_sld hx hb hX hbl hbA hS (hin 6 (by decide) (by decide)) dL_law_167 ?_
  refine kLi (As := [.int (xs (x3 + 1).toNatClampNeg), .int (xs (x3 + 2).toNatClampNeg), .int (xs (x3 + 3).toNatClampNeg), .int (xs (x3 + 4).toNatClampNeg), .int (xs (x3 + 5).toNatClampNeg), .int (xs (x3 + 6).toNatClampNeg)]) (rest := []) (wd := wC ad cI) (wd2 := wM ad2 cI cZ) (q0 := 0) (ci := 6) ⟨hx, hb, hml, hown, hts⟩ (hK.sub (tys' := [(cI, .int)]) [0] rfl) (c_X6_block (l := l) (D := D) hN hf1) (cw_L_13 hts) rfl rfl hP hP2 (dj_C hdj) hS hA1 hl rfl rfl (Nat.le_of_ble_eq_true rfl) ⟨Nat.le_refl _, Nat.le_refl _⟩ dL_law_168 (fun H locs hP hP2 hS => ?_)
  refine lv_aload_n hx hb dL_law_171 rfl (lv_at hl 2 rfl) ?_
  refine lv_aload_n hx hb dL_law_172 rfl (lv_at hl 0 rfl) ?_
  refine lv_iload_n hx hb dL_law_173 rfl (lv_at hl 3 rfl) ?_
  refine lv_iconst (v := 1) hx hb dL_law_174 rfl ?_
  refine lv_iadd hx hb dL_law_175 ?_
  refine va_sld hx hb hX hbl hbA hS (hin 1 (by decide) (by decide)) dL_law_176 ?_
  refine lv_aload_n hx hb dL_law_177 rfl (lv_at hl 0 rfl) ?_
  refine lv_iload_n hx hb dL_law_178 rfl (lv_at hl 3 rfl) ?_
  refine lv_iconst (v := 2) hx hb dL_law_179 rfl ?_
  refine lv_iadd hx hb dL_law_180 ?_
  refine va_sld hx hb hX hbl hbA hS (hin 2 (by decide) (by decide)) dL_law_181 ?_
  refine lv_aload_n hx hb dL_law_182 rfl (lv_at hl 0 rfl) ?_
  refine lv_iload_n hx hb dL_law_183 rfl (lv_at hl 3 rfl) ?_
  refine lv_iconst (v := 3) hx hb dL_law_184 rfl ?_
  refine lv_iadd hx hb dL_law_185 ?_
  refine va_sld hx hb hX hbl hbA hS (hin 3 (by decide) (by decide)) dL_law_186 ?_
  refine lv_aload_n hx hb dL_law_187 rfl (lv_at hl 0 rfl) ?_
  refine lv_iload_n hx hb dL_law_188 rfl (lv_at hl 3 rfl) ?_
  refine lv_iconst (v := 4) hx hb dL_law_189 rfl ?_
  refine lv_iadd hx hb dL_law_190 ?_
  refine va_sld hx hb hX hbl hbA hS (hin 4 (by decide) (by decide)) dL_law_191 ?_
  refine lv_aload_n hx hb dL_law_192 rfl (lv_at hl 0 rfl) ?_
  refine lv_iload_n hx hb dL_law_193 rfl (lv_at hl 3 rfl) ?_
  refine lv_iconst (v := 5) hx hb dL_law_194 rfl ?_
  refine lv_iadd hx hb dL_law_195 ?_
  refine va_sld hx hb hX hbl hbA hS (hin 5 (by decide) (by decide)) dL_law_196 ?_
  refine lv_aload_n hx hb dL_law_197 rfl (lv_at hl 0 rfl) ?_
  refine lv_iload_n hx hb dL_law_198 rfl (lv_at hl 3 rfl) ?_
  refine lv_bipush (v := 6) hx hb dL_law_199 rfl ?_
  refine lv_iadd hx hb dL_law_201 ?_
  refine va_sld hx hb hX hbl hbA hS (hin 6 (by decide) (by decide)) dL_law_202 ?_
  refine kLi (As := [.int (xs (x3 + 1).toNatClampNeg), .int (xs (x3 + 2).toNatClampNeg), .int (xs (x3 + 3).toNatClampNeg), .int (xs (x3 + 4).toNatClampNeg), .int (xs (x3 + 5).toNatClampNeg), .int (xs (x3 + 6).toNatClampNeg)]) (rest := [.int r]) (wd := wM ad2 cI cZ) (wd2 := wC ad cI) (q0 := 0) (ci := 7) ⟨hx, hb, hml, hown, hts⟩ hK (c_X7_block (l := l) (D := D) hN2 hf2) (cw_L_17 hts) rfl rfl hP2 hP (dj_M hdj) hS hA2 hl rfl rfl (Nat.le_of_ble_eq_true rfl) ⟨Nat.le_refl _, Nat.le_refl _⟩ dL_law_203 (fun H locs hP2 hP hS => ?_)
  refine lv_icmp_eq (tgt := 854) hx hb dL_law_206 (by decide) (fun _ => ?_) (fun hq => absurd rfl hq)
  exact hk hR hP hP2 hS hl
set_option maxHeartbeats 4000000 in
set_option maxRecDepth 100000 in
theorem law_1 (X : lx p s m meth c b L xs D ad ad2 cI cZ) {Q : State → Prop} {σ τ : St} {x3 : Int32} (hin : ∀ j : Int32, 0 ≤ j → j ≤ 6 → vp_in (x3 + j) L) (hs : ∃ (r : Int32) (σ' : St) (τ' : St), f_X6_words (xs (x3 + 1).toNatClampNeg) (xs (x3 + 2).toNatClampNeg) σ = some (r, σ') ∧ f_X7_words (xs (x3 + 1).toNatClampNeg) (xs (x3 + 2).toNatClampNeg) τ = some (r, τ') ∧ Rel σ' τ') (hk : ∀ {σ τ : St} {H : Heap} {locs : List Loc} {ls : Array Slot}, Rel σ τ → va_P D vwCl (wC ad cI σ) H → va_P D vwCl (wM ad2 cI cZ τ) H → va_S (fun q : Nat => s.heap.size ≤ q) s.heap H locs → lv_has ls 4 [(0, .ref b), (1, .ref (ad 0)), (2, .ref (ad2 0)), (3, .int x3)] → W p l e room_1 s m #[Value.ref b] below meth c H locs 64 1954 Q (F0 m 854 ls [])) {H : Heap} {locs : List Loc} {ls : Array Slot} (hP : va_P D vwCl (wC ad cI σ) H) (hP2 : va_P D vwCl (wM ad2 cI cZ τ) H) (hS : va_S (fun q : Nat => s.heap.size ≤ q) s.heap H locs) (hl : lv_has ls 4 [(0, .ref b), (1, .ref (ad 0)), (2, .ref (ad2 0)), (3, .int x3)]) : W p l e room_1 s m #[Value.ref b] below meth c H locs 64 1954 Q (F0 m 211 ls []) := by
  obtain ⟨hx, hb, hml, hown, hts, hX, hbl, hK, hN, hN2, hdj, hA1, hA2⟩ := id X
  have hbA : ¬ (fun q : Nat => s.heap.size ≤ q) b := Nat.not_le.mpr hbl
  obtain ⟨r, σ', τ', hf1, hf2, hR⟩ := hs
  refine lv_aload_n hx hb dL_law_211 rfl (lv_at hl 1 rfl) ?_
  refine lv_aload_n hx hb dL_law_212 rfl (lv_at hl 0 rfl) ?_
  refine lv_iload_n hx hb dL_law_213 rfl (lv_at hl 3 rfl) ?_
  refine lv_iconst (v := 1) hx hb dL_law_214 rfl ?_
  refine lv_iadd hx hb dL_law_215 ?_
  refine va_sld hx hb hX hbl hbA hS (hin 1 (by decide) (by decide)) dL_law_216 ?_
  refine lv_aload_n hx hb dL_law_217 rfl (lv_at hl 0 rfl) ?_
  refine lv_iload_n hx hb dL_law_218 rfl (lv_at hl 3 rfl) ?_
  refine lv_iconst (v := 2) hx hb dL_law_219 rfl ?_
  refine lv_iadd hx hb dL_law_220 ?_
  refine va_sld hx hb hX hbl hbA hS (hin 2 (by decide) (by decide)) dL_law_221 ?_
  refine kLi (As := [.int (xs (x3 + 1).toNatClampNeg), .int (xs (x3 + 2).toNatClampNeg)]) (rest := []) (wd := wC ad cI) (wd2 := wM ad2 cI cZ) (q0 := 0) (ci := 6) ⟨hx, hb, hml, hown, hts⟩ (hK.sub (tys' := [(cI, .int)]) [0] rfl) (c_X6_words (l := l) (D := D) hN hf1) (cw_L_18 hts) rfl rfl hP hP2 (dj_C hdj) hS hA1 hl rfl rfl (Nat.le_of_ble_eq_true rfl) ⟨Nat.le_refl _, Nat.le_refl _⟩ dL_law_222 (fun H locs hP hP2 hS => ?_)
  refine lv_aload_n hx hb dL_law_225 rfl (lv_at hl 2 rfl) ?_
  refine lv_aload_n hx hb dL_law_226 rfl (lv_at hl 0 rfl) ?_
  refine lv_iload_n hx hb dL_law_227 rfl (lv_at hl 3 rfl) ?_
  refine lv_iconst (v := 1) hx hb dL_law_228 rfl ?_
  refine lv_iadd hx hb dL_law_229 ?_
  refine va_sld hx hb hX hbl hbA hS (hin 1 (by decide) (by decide)) dL_law_230 ?_
  refine lv_aload_n hx hb dL_law_231 rfl (lv_at hl 0 rfl) ?_
  refine lv_iload_n hx hb dL_law_232 rfl (lv_at hl 3 rfl) ?_
  refine lv_iconst (v := 2) hx hb dL_law_233 rfl ?_
  refine lv_iadd hx hb dL_law_234 ?_
  refine va_sld hx hb hX hbl hbA hS (hin 2 (by decide) (by decide)) dL_law_235 ?_
  refine kLi (As := [.int (xs (x3 + 1).toNatClampNeg), .int (xs (x3 + 2).toNatClampNeg)]) (rest := [.int r]) (wd := wM ad2 cI cZ) (wd2 := wC ad cI) (q0 := 0) (ci := 7) ⟨hx, hb, hml, hown, hts⟩ hK (c_X7_words (l := l) (D := D) hN2 hf2) (cw_L_22 hts) rfl rfl hP2 hP (dj_M hdj) hS hA2 hl rfl rfl (Nat.le_of_ble_eq_true rfl) ⟨Nat.le_refl _, Nat.le_refl _⟩ dL_law_236 (fun H locs hP2 hP hS => ?_)
  refine lv_icmp_eq (tgt := 854) hx hb dL_law_239 (by decide) (fun _ => ?_) (fun hq => absurd rfl hq)
  exact hk hR hP hP2 hS hl
set_option maxHeartbeats 4000000 in
set_option maxRecDepth 100000 in
theorem law_2 (X : lx p s m meth c b L xs D ad ad2 cI cZ) {Q : State → Prop} {σ τ : St} {x3 : Int32} (hin : ∀ j : Int32, 0 ≤ j → j ≤ 6 → vp_in (x3 + j) L) (hs : ∃ (r : Int32) (σ' : St) (τ' : St), f_X6_line (xs (x3 + 1).toNatClampNeg) (xs (x3 + 2).toNatClampNeg) (xs (x3 + 3).toNatClampNeg) (xs (x3 + 4).toNatClampNeg) (xs (x3 + 5).toNatClampNeg) σ = some (r, σ') ∧ f_X7_line (xs (x3 + 1).toNatClampNeg) (xs (x3 + 2).toNatClampNeg) (xs (x3 + 3).toNatClampNeg) (xs (x3 + 4).toNatClampNeg) (xs (x3 + 5).toNatClampNeg) τ = some (r, τ') ∧ Rel σ' τ') (hk : ∀ {σ τ : St} {H : Heap} {locs : List Loc} {ls : Array Slot}, Rel σ τ → va_P D vwCl (wC ad cI σ) H → va_P D vwCl (wM ad2 cI cZ τ) H → va_S (fun q : Nat => s.heap.size ≤ q) s.heap H locs → lv_has ls 4 [(0, .ref b), (1, .ref (ad 0)), (2, .ref (ad2 0)), (3, .int x3)] → W p l e room_1 s m #[Value.ref b] below meth c H locs 64 1954 Q (F0 m 854 ls [])) {H : Heap} {locs : List Loc} {ls : Array Slot} (hP : va_P D vwCl (wC ad cI σ) H) (hP2 : va_P D vwCl (wM ad2 cI cZ τ) H) (hS : va_S (fun q : Nat => s.heap.size ≤ q) s.heap H locs) (hl : lv_has ls 4 [(0, .ref b), (1, .ref (ad 0)), (2, .ref (ad2 0)), (3, .int x3)]) : W p l e room_1 s m #[Value.ref b] below meth c H locs 64 1954 Q (F0 m 244 ls []) := by
  obtain ⟨hx, hb, hml, hown, hts, hX, hbl, hK, hN, hN2, hdj, hA1, hA2⟩ := id X
  have hbA : ¬ (fun q : Nat => s.heap.size ≤ q) b := Nat.not_le.mpr hbl
  obtain ⟨r, σ', τ', hf1, hf2, hR⟩ := hs
  refine lv_aload_n hx hb dL_law_244 rfl (lv_at hl 1 rfl) ?_
  refine lv_aload_n hx hb dL_law_245 rfl (lv_at hl 0 rfl) ?_
  refine lv_iload_n hx hb dL_law_246 rfl (lv_at hl 3 rfl) ?_
  refine lv_iconst (v := 1) hx hb dL_law_247 rfl ?_
  refine lv_iadd hx hb dL_law_248 ?_
  refine va_sld hx hb hX hbl hbA hS (hin 1 (by decide) (by decide)) dL_law_249 ?_
  refine lv_aload_n hx hb dL_law_250 rfl (lv_at hl 0 rfl) ?_
  refine lv_iload_n hx hb dL_law_251 rfl (lv_at hl 3 rfl) ?_
  refine lv_iconst (v := 2) hx hb dL_law_252 rfl ?_
  refine lv_iadd hx hb dL_law_253 ?_
  refine va_sld hx hb hX hbl hbA hS (hin 2 (by decide) (by decide)) dL_law_254 ?_
  refine lv_aload_n hx hb dL_law_255 rfl (lv_at hl 0 rfl) ?_
  refine lv_iload_n hx hb dL_law_256 rfl (lv_at hl 3 rfl) ?_
  refine lv_iconst (v := 3) hx hb dL_law_257 rfl ?_
  refine lv_iadd hx hb dL_law_258 ?_
  refine va_sld hx hb hX hbl hbA hS (hin 3 (by decide) (by decide)) dL_law_259 ?_
  refine lv_aload_n hx hb dL_law_260 rfl (lv_at hl 0 rfl) ?_
  refine lv_iload_n hx hb dL_law_261 rfl (lv_at hl 3 rfl) ?_
  refine lv_iconst (v := 4) hx hb dL_law_262 rfl ?_
  refine lv_iadd hx hb dL_law_263 ?_
  refine va_sld hx hb hX hbl hbA hS (hin 4 (by decide) (by decide)) dL_law_264 ?_
  refine lv_aload_n hx hb dL_law_265 rfl (lv_at hl 0 rfl) ?_
  refine lv_iload_n hx hb dL_law_266 rfl (lv_at hl 3 rfl) ?_
  refine lv_iconst (v := 5) hx hb dL_law_267 rfl ?_
  refine lv_iadd hx hb dL_law_268 ?_
  refine va_sld hx hb hX hbl hbA hS (hin 5 (by decide) (by decide)) dL_law_269 ?_
  refine kLi (As := [.int (xs (x3 + 1).toNatClampNeg), .int (xs (x3 + 2).toNatClampNeg), .int (xs (x3 + 3).toNatClampNeg), .int (xs (x3 + 4).toNatClampNeg), .int (xs (x3 + 5).toNatClampNeg)]) (rest := []) (wd := wC ad cI) (wd2 := wM ad2 cI cZ) (q0 := 0) (ci := 6) ⟨hx, hb, hml, hown, hts⟩ (hK.sub (tys' := [(cI, .int)]) [0] rfl) (c_X6_line (l := l) (D := D) hN hf1) (cw_L_23 hts) rfl rfl hP hP2 (dj_C hdj) hS hA1 hl rfl rfl (Nat.le_of_ble_eq_true rfl) ⟨Nat.le_refl _, Nat.le_refl _⟩ dL_law_270 (fun H locs hP hP2 hS => ?_)
  refine lv_aload_n hx hb dL_law_273 rfl (lv_at hl 2 rfl) ?_
  refine lv_aload_n hx hb dL_law_274 rfl (lv_at hl 0 rfl) ?_
  refine lv_iload_n hx hb dL_law_275 rfl (lv_at hl 3 rfl) ?_
  refine lv_iconst (v := 1) hx hb dL_law_276 rfl ?_
  refine lv_iadd hx hb dL_law_277 ?_
  refine va_sld hx hb hX hbl hbA hS (hin 1 (by decide) (by decide)) dL_law_278 ?_
  refine lv_aload_n hx hb dL_law_279 rfl (lv_at hl 0 rfl) ?_
  refine lv_iload_n hx hb dL_law_280 rfl (lv_at hl 3 rfl) ?_
  refine lv_iconst (v := 2) hx hb dL_law_281 rfl ?_
  refine lv_iadd hx hb dL_law_282 ?_
  refine va_sld hx hb hX hbl hbA hS (hin 2 (by decide) (by decide)) dL_law_283 ?_
  refine lv_aload_n hx hb dL_law_284 rfl (lv_at hl 0 rfl) ?_
  refine lv_iload_n hx hb dL_law_285 rfl (lv_at hl 3 rfl) ?_
  refine lv_iconst (v := 3) hx hb dL_law_286 rfl ?_
  refine lv_iadd hx hb dL_law_287 ?_
  refine va_sld hx hb hX hbl hbA hS (hin 3 (by decide) (by decide)) dL_law_288 ?_
  refine lv_aload_n hx hb dL_law_289 rfl (lv_at hl 0 rfl) ?_
  refine lv_iload_n hx hb dL_law_290 rfl (lv_at hl 3 rfl) ?_
  refine lv_iconst (v := 4) hx hb dL_law_291 rfl ?_
  refine lv_iadd hx hb dL_law_292 ?_
  refine va_sld hx hb hX hbl hbA hS (hin 4 (by decide) (by decide)) dL_law_293 ?_
  refine lv_aload_n hx hb dL_law_294 rfl (lv_at hl 0 rfl) ?_
  refine lv_iload_n hx hb dL_law_295 rfl (lv_at hl 3 rfl) ?_
  refine lv_iconst (v := 5) hx hb dL_law_296 rfl ?_
  refine lv_iadd hx hb dL_law_297 ?_
  refine va_sld hx hb hX hbl hbA hS (hin 5 (by decide) (by decide)) dL_law_298 ?_
  refine kLi (As := [.int (xs (x3 + 1).toNatClampNeg), .int (xs (x3 + 2).toNatClampNeg), .int (xs (x3 + 3).toNatClampNeg), .int (xs (x3 + 4).toNatClampNeg), .int (xs (x3 + 5).toNatClampNeg)]) (rest := [.int r]) (wd := wM ad2 cI cZ) (wd2 := wC ad cI) (q0 := 0) (ci := 7) ⟨hx, hb, hml, hown, hts⟩ hK (c_X7_line (l := l) (D := D) hN2 hf2) (cw_L_27 hts) rfl rfl hP2 hP (dj_M hdj) hS hA2 hl rfl rfl (Nat.le_of_ble_eq_true rfl) ⟨Nat.le_refl _, Nat.le_refl _⟩ dL_law_299 (fun H locs hP2 hP hS => ?_)
  refine lv_icmp_eq (tgt := 854) hx hb dL_law_302 (by decide) (fun _ => ?_) (fun hq => absurd rfl hq)
  exact hk hR hP hP2 hS hl
set_option maxHeartbeats 4000000 in
set_option maxRecDepth 100000 in
theorem law_3 (X : lx p s m meth c b L xs D ad ad2 cI cZ) {Q : State → Prop} {σ τ : St} {x3 : Int32} (hin : ∀ j : Int32, 0 ≤ j → j ≤ 6 → vp_in (x3 + j) L) (hs : ∃ (r : Int32) (σ' : St) (τ' : St), f_X6_back σ = some (r, σ') ∧ f_X7_back τ = some (r, τ') ∧ Rel σ' τ') (hk : ∀ {σ τ : St} {H : Heap} {locs : List Loc} {ls : Array Slot}, Rel σ τ → va_P D vwCl (wC ad cI σ) H → va_P D vwCl (wM ad2 cI cZ τ) H → va_S (fun q : Nat => s.heap.size ≤ q) s.heap H locs → lv_has ls 4 [(0, .ref b), (1, .ref (ad 0)), (2, .ref (ad2 0)), (3, .int x3)] → W p l e room_1 s m #[Value.ref b] below meth c H locs 64 1954 Q (F0 m 854 ls [])) {H : Heap} {locs : List Loc} {ls : Array Slot} (hP : va_P D vwCl (wC ad cI σ) H) (hP2 : va_P D vwCl (wM ad2 cI cZ τ) H) (hS : va_S (fun q : Nat => s.heap.size ≤ q) s.heap H locs) (hl : lv_has ls 4 [(0, .ref b), (1, .ref (ad 0)), (2, .ref (ad2 0)), (3, .int x3)]) : W p l e room_1 s m #[Value.ref b] below meth c H locs 64 1954 Q (F0 m 307 ls []) := by
  obtain ⟨hx, hb, hml, hown, hts, hX, hbl, hK, hN, hN2, hdj, hA1, hA2⟩ := id X
  have hbA : ¬ (fun q : Nat => s.heap.size ≤ q) b := Nat.not_le.mpr hbl
  obtain ⟨r, σ', τ', hf1, hf2, hR⟩ := hs
  refine lv_aload_n hx hb dL_law_307 rfl (lv_at hl 1 rfl) ?_
  refine kLi (As := []) (rest := []) (wd := wC ad cI) (wd2 := wM ad2 cI cZ) (q0 := 0) (ci := 6) ⟨hx, hb, hml, hown, hts⟩ (hK.sub (tys' := [(cI, .int)]) [0] rfl) (c_X6_back (l := l) (D := D) hN hf1) (cw_L_28 hts) rfl rfl hP hP2 (dj_C hdj) hS hA1 hl rfl rfl (Nat.le_of_ble_eq_true rfl) ⟨Nat.le_refl _, Nat.le_refl _⟩ dL_law_308 (fun H locs hP hP2 hS => ?_)
  refine lv_aload_n hx hb dL_law_311 rfl (lv_at hl 2 rfl) ?_
  refine kLi (As := []) (rest := [.int r]) (wd := wM ad2 cI cZ) (wd2 := wC ad cI) (q0 := 0) (ci := 7) ⟨hx, hb, hml, hown, hts⟩ hK (c_X7_back (l := l) (D := D) hN2 hf2) (cw_L_32 hts) rfl rfl hP2 hP (dj_M hdj) hS hA2 hl rfl rfl (Nat.le_of_ble_eq_true rfl) ⟨Nat.le_refl _, Nat.le_refl _⟩ dL_law_312 (fun H locs hP2 hP hS => ?_)
  refine lv_icmp_eq (tgt := 854) hx hb dL_law_315 (by decide) (fun _ => ?_) (fun hq => absurd rfl hq)
  exact hk hR hP hP2 hS hl
set_option maxHeartbeats 4000000 in
set_option maxRecDepth 100000 in
theorem law_4 (X : lx p s m meth c b L xs D ad ad2 cI cZ) {Q : State → Prop} {σ τ : St} {x3 : Int32} (hin : ∀ j : Int32, 0 ≤ j → j ≤ 6 → vp_in (x3 + j) L) (hs : ∃ (r : Int32) (σ' : St) (τ' : St), f_X6_erase σ = some (r, σ') ∧ f_X7_erase τ = some (r, τ') ∧ Rel σ' τ') (hk : ∀ {σ τ : St} {H : Heap} {locs : List Loc} {ls : Array Slot}, Rel σ τ → va_P D vwCl (wC ad cI σ) H → va_P D vwCl (wM ad2 cI cZ τ) H → va_S (fun q : Nat => s.heap.size ≤ q) s.heap H locs → lv_has ls 4 [(0, .ref b), (1, .ref (ad 0)), (2, .ref (ad2 0)), (3, .int x3)] → W p l e room_1 s m #[Value.ref b] below meth c H locs 64 1954 Q (F0 m 854 ls [])) {H : Heap} {locs : List Loc} {ls : Array Slot} (hP : va_P D vwCl (wC ad cI σ) H) (hP2 : va_P D vwCl (wM ad2 cI cZ τ) H) (hS : va_S (fun q : Nat => s.heap.size ≤ q) s.heap H locs) (hl : lv_has ls 4 [(0, .ref b), (1, .ref (ad 0)), (2, .ref (ad2 0)), (3, .int x3)]) : W p l e room_1 s m #[Value.ref b] below meth c H locs 64 1954 Q (F0 m 320 ls []) := by
  obtain ⟨hx, hb, hml, hown, hts, hX, hbl, hK, hN, hN2, hdj, hA1, hA2⟩ := id X
  have hbA : ¬ (fun q : Nat => s.heap.size ≤ q) b := Nat.not_le.mpr hbl
  obtain ⟨r, σ', τ', hf1, hf2, hR⟩ := hs
  refine lv_aload_n hx hb dL_law_320 rfl (lv_at hl 1 rfl) ?_
  refine kLi (As := []) (rest := []) (wd := wC ad cI) (wd2 := wM ad2 cI cZ) (q0 := 0) (ci := 6) ⟨hx, hb, hml, hown, hts⟩ (hK.sub (tys' := [(cI, .int)]) [0] rfl) (c_X6_erase (l := l) (D := D) hN hf1) (cw_L_33 hts) rfl rfl hP hP2 (dj_C hdj) hS hA1 hl rfl rfl (Nat.le_of_ble_eq_true rfl) ⟨Nat.le_refl _, Nat.le_refl _⟩ dL_law_321 (fun H locs hP hP2 hS => ?_)
  refine lv_aload_n hx hb dL_law_324 rfl (lv_at hl 2 rfl) ?_
  refine kLi (As := []) (rest := [.int r]) (wd := wM ad2 cI cZ) (wd2 := wC ad cI) (q0 := 0) (ci := 7) ⟨hx, hb, hml, hown, hts⟩ hK (c_X7_erase (l := l) (D := D) hN2 hf2) (cw_L_36 hts) rfl rfl hP2 hP (dj_M hdj) hS hA2 hl rfl rfl (Nat.le_of_ble_eq_true rfl) ⟨Nat.le_refl _, Nat.le_refl _⟩ dL_law_325 (fun H locs hP2 hP hS => ?_)
  refine lv_icmp_eq (tgt := 854) hx hb dL_law_328 (by decide) (fun _ => ?_) (fun hq => absurd rfl hq)
  exact hk hR hP hP2 hS hl
set_option maxHeartbeats 4000000 in
set_option maxRecDepth 100000 in
theorem law_5 (X : lx p s m meth c b L xs D ad ad2 cI cZ) {Q : State → Prop} {σ τ : St} {x3 : Int32} (hin : ∀ j : Int32, 0 ≤ j → j ≤ 6 → vp_in (x3 + j) L) (hs : ∃ (r : Int32) (σ' : St) (τ' : St), f_X6_clear σ = some (r, σ') ∧ f_X7_clear τ = some (r, τ') ∧ Rel σ' τ') (hk : ∀ {σ τ : St} {H : Heap} {locs : List Loc} {ls : Array Slot}, Rel σ τ → va_P D vwCl (wC ad cI σ) H → va_P D vwCl (wM ad2 cI cZ τ) H → va_S (fun q : Nat => s.heap.size ≤ q) s.heap H locs → lv_has ls 4 [(0, .ref b), (1, .ref (ad 0)), (2, .ref (ad2 0)), (3, .int x3)] → W p l e room_1 s m #[Value.ref b] below meth c H locs 64 1954 Q (F0 m 854 ls [])) {H : Heap} {locs : List Loc} {ls : Array Slot} (hP : va_P D vwCl (wC ad cI σ) H) (hP2 : va_P D vwCl (wM ad2 cI cZ τ) H) (hS : va_S (fun q : Nat => s.heap.size ≤ q) s.heap H locs) (hl : lv_has ls 4 [(0, .ref b), (1, .ref (ad 0)), (2, .ref (ad2 0)), (3, .int x3)]) : W p l e room_1 s m #[Value.ref b] below meth c H locs 64 1954 Q (F0 m 333 ls []) := by
  obtain ⟨hx, hb, hml, hown, hts, hX, hbl, hK, hN, hN2, hdj, hA1, hA2⟩ := id X
  have hbA : ¬ (fun q : Nat => s.heap.size ≤ q) b := Nat.not_le.mpr hbl
  obtain ⟨r, σ', τ', hf1, hf2, hR⟩ := hs
  refine lv_aload_n hx hb dL_law_333 rfl (lv_at hl 1 rfl) ?_
  refine kLi (As := []) (rest := []) (wd := wC ad cI) (wd2 := wM ad2 cI cZ) (q0 := 0) (ci := 6) ⟨hx, hb, hml, hown, hts⟩ (hK.sub (tys' := [(cI, .int)]) [0] rfl) (c_X6_clear (l := l) (D := D) hN hf1) (cw_L_37 hts) rfl rfl hP hP2 (dj_C hdj) hS hA1 hl rfl rfl (Nat.le_of_ble_eq_true rfl) ⟨Nat.le_refl _, Nat.le_refl _⟩ dL_law_334 (fun H locs hP hP2 hS => ?_)
  refine lv_aload_n hx hb dL_law_337 rfl (lv_at hl 2 rfl) ?_
  refine kLi (As := []) (rest := [.int r]) (wd := wM ad2 cI cZ) (wd2 := wC ad cI) (q0 := 0) (ci := 7) ⟨hx, hb, hml, hown, hts⟩ hK (c_X7_clear (l := l) (D := D) hN2 hf2) (cw_L_40 hts) rfl rfl hP2 hP (dj_M hdj) hS hA2 hl rfl rfl (Nat.le_of_ble_eq_true rfl) ⟨Nat.le_refl _, Nat.le_refl _⟩ dL_law_338 (fun H locs hP2 hP hS => ?_)
  refine lv_icmp_eq (tgt := 854) hx hb dL_law_341 (by decide) (fun _ => ?_) (fun hq => absurd rfl hq)
  exact hk hR hP hP2 hS hl
set_option maxHeartbeats 4000000 in
set_option maxRecDepth 100000 in
theorem law_6 (X : lx p s m meth c b L xs D ad ad2 cI cZ) {Q : State → Prop} {σ τ : St} {x3 : Int32} (hin : ∀ j : Int32, 0 ≤ j → j ≤ 6 → vp_in (x3 + j) L) (hs : ∃ (r : Int32) (σ' : St) (τ' : St), f_X6_turn σ = some (r, σ') ∧ f_X7_turn τ = some (r, τ') ∧ Rel σ' τ') (hk : ∀ {σ τ : St} {H : Heap} {locs : List Loc} {ls : Array Slot}, Rel σ τ → va_P D vwCl (wC ad cI σ) H → va_P D vwCl (wM ad2 cI cZ τ) H → va_S (fun q : Nat => s.heap.size ≤ q) s.heap H locs → lv_has ls 4 [(0, .ref b), (1, .ref (ad 0)), (2, .ref (ad2 0)), (3, .int x3)] → W p l e room_1 s m #[Value.ref b] below meth c H locs 64 1954 Q (F0 m 854 ls [])) {H : Heap} {locs : List Loc} {ls : Array Slot} (hP : va_P D vwCl (wC ad cI σ) H) (hP2 : va_P D vwCl (wM ad2 cI cZ τ) H) (hS : va_S (fun q : Nat => s.heap.size ≤ q) s.heap H locs) (hl : lv_has ls 4 [(0, .ref b), (1, .ref (ad 0)), (2, .ref (ad2 0)), (3, .int x3)]) : W p l e room_1 s m #[Value.ref b] below meth c H locs 64 1954 Q (F0 m 346 ls []) := by
  obtain ⟨hx, hb, hml, hown, hts, hX, hbl, hK, hN, hN2, hdj, hA1, hA2⟩ := id X
  have hbA : ¬ (fun q : Nat => s.heap.size ≤ q) b := Nat.not_le.mpr hbl
  obtain ⟨r, σ', τ', hf1, hf2, hR⟩ := hs
  refine lv_aload_n hx hb dL_law_346 rfl (lv_at hl 1 rfl) ?_
  refine kLi (As := []) (rest := []) (wd := wC ad cI) (wd2 := wM ad2 cI cZ) (q0 := 0) (ci := 6) ⟨hx, hb, hml, hown, hts⟩ (hK.sub (tys' := [(cI, .int)]) [0] rfl) (c_X6_turn (l := l) (D := D) hN hf1) (cw_L_41 hts) rfl rfl hP hP2 (dj_C hdj) hS hA1 hl rfl rfl (Nat.le_of_ble_eq_true rfl) ⟨Nat.le_refl _, Nat.le_refl _⟩ dL_law_347 (fun H locs hP hP2 hS => ?_)
  refine lv_aload_n hx hb dL_law_350 rfl (lv_at hl 2 rfl) ?_
  refine kLi (As := []) (rest := [.int r]) (wd := wM ad2 cI cZ) (wd2 := wC ad cI) (q0 := 0) (ci := 7) ⟨hx, hb, hml, hown, hts⟩ hK (c_X7_turn (l := l) (D := D) hN2 hf2) (cw_L_44 hts) rfl rfl hP2 hP (dj_M hdj) hS hA2 hl rfl rfl (Nat.le_of_ble_eq_true rfl) ⟨Nat.le_refl _, Nat.le_refl _⟩ dL_law_351 (fun H locs hP2 hP hS => ?_)
  refine lv_icmp_eq (tgt := 854) hx hb dL_law_354 (by decide) (fun _ => ?_) (fun hq => absurd rfl hq)
  exact hk hR hP hP2 hS hl
set_option maxHeartbeats 4000000 in
set_option maxRecDepth 100000 in
theorem law_7 (X : lx p s m meth c b L xs D ad ad2 cI cZ) {Q : State → Prop} {σ τ : St} {x3 : Int32} (hin : ∀ j : Int32, 0 ≤ j → j ≤ 6 → vp_in (x3 + j) L) (hs : ∃ (r : Int32), f_X6_ofBlock (xs (x3 + 1).toNatClampNeg) (xs (x3 + 2).toNatClampNeg) σ = some r ∧ f_X7_ofBlock (xs (x3 + 1).toNatClampNeg) (xs (x3 + 2).toNatClampNeg) τ = some r ∧ Rel σ τ) (hk : ∀ {σ τ : St} {H : Heap} {locs : List Loc} {ls : Array Slot}, Rel σ τ → va_P D vwCl (wC ad cI σ) H → va_P D vwCl (wM ad2 cI cZ τ) H → va_S (fun q : Nat => s.heap.size ≤ q) s.heap H locs → lv_has ls 4 [(0, .ref b), (1, .ref (ad 0)), (2, .ref (ad2 0)), (3, .int x3)] → W p l e room_1 s m #[Value.ref b] below meth c H locs 64 1954 Q (F0 m 854 ls [])) {H : Heap} {locs : List Loc} {ls : Array Slot} (hP : va_P D vwCl (wC ad cI σ) H) (hP2 : va_P D vwCl (wM ad2 cI cZ τ) H) (hS : va_S (fun q : Nat => s.heap.size ≤ q) s.heap H locs) (hl : lv_has ls 4 [(0, .ref b), (1, .ref (ad 0)), (2, .ref (ad2 0)), (3, .int x3)]) : W p l e room_1 s m #[Value.ref b] below meth c H locs 64 1954 Q (F0 m 359 ls []) := by
  obtain ⟨hx, hb, hml, hown, hts, hX, hbl, hK, hN, hN2, hdj, hA1, hA2⟩ := id X
  have hbA : ¬ (fun q : Nat => s.heap.size ≤ q) b := Nat.not_le.mpr hbl
  obtain ⟨r, hf1, hf2, hR⟩ := hs
  refine lv_aload_n hx hb dL_law_359 rfl (lv_at hl 1 rfl) ?_
  refine lv_aload_n hx hb dL_law_360 rfl (lv_at hl 0 rfl) ?_
  refine lv_iload_n hx hb dL_law_361 rfl (lv_at hl 3 rfl) ?_
  refine lv_iconst (v := 1) hx hb dL_law_362 rfl ?_
  refine lv_iadd hx hb dL_law_363 ?_
  refine va_sld hx hb hX hbl hbA hS (hin 1 (by decide) (by decide)) dL_law_364 ?_
  refine lv_aload_n hx hb dL_law_365 rfl (lv_at hl 0 rfl) ?_
  refine lv_iload_n hx hb dL_law_366 rfl (lv_at hl 3 rfl) ?_
  refine lv_iconst (v := 2) hx hb dL_law_367 rfl ?_
  refine lv_iadd hx hb dL_law_368 ?_
  refine va_sld hx hb hX hbl hbA hS (hin 2 (by decide) (by decide)) dL_law_369 ?_
  refine kLi (As := [.int (xs (x3 + 1).toNatClampNeg), .int (xs (x3 + 2).toNatClampNeg)]) (rest := []) (wd := wC ad cI) (wd2 := wM ad2 cI cZ) (q0 := 0) (ci := 6) ⟨hx, hb, hml, hown, hts⟩ (hK.sub (tys' := [(cI, .int)]) [0] rfl) (c_X6_ofBlock (l := l) (D := D) hN hf1) (cw_L_45 hts) rfl rfl hP hP2 (dj_C hdj) hS hA1 hl rfl rfl (Nat.le_of_ble_eq_true rfl) ⟨Nat.le_refl _, Nat.le_refl _⟩ dL_law_370 (fun H locs hP hP2 hS => ?_)
  refine lv_aload_n hx hb dL_law_373 rfl (lv_at hl 2 rfl) ?_
  refine lv_aload_n hx hb dL_law_374 rfl (lv_at hl 0 rfl) ?_
  refine lv_iload_n hx hb dL_law_375 rfl (lv_at hl 3 rfl) ?_
  refine lv_iconst (v := 1) hx hb dL_law_376 rfl ?_
  refine lv_iadd hx hb dL_law_377 ?_
  refine va_sld hx hb hX hbl hbA hS (hin 1 (by decide) (by decide)) dL_law_378 ?_
  refine lv_aload_n hx hb dL_law_379 rfl (lv_at hl 0 rfl) ?_
  refine lv_iload_n hx hb dL_law_380 rfl (lv_at hl 3 rfl) ?_
  refine lv_iconst (v := 2) hx hb dL_law_381 rfl ?_
  refine lv_iadd hx hb dL_law_382 ?_
  refine va_sld hx hb hX hbl hbA hS (hin 2 (by decide) (by decide)) dL_law_383 ?_
  refine kLi (As := [.int (xs (x3 + 1).toNatClampNeg), .int (xs (x3 + 2).toNatClampNeg)]) (rest := [.int r]) (wd := wM ad2 cI cZ) (wd2 := wC ad cI) (q0 := 0) (ci := 7) ⟨hx, hb, hml, hown, hts⟩ hK (c_X7_ofBlock (l := l) (D := D) hN2 hf2) (cw_L_48 hts) rfl rfl hP2 hP (dj_M hdj) hS hA2 hl rfl rfl (Nat.le_of_ble_eq_true rfl) ⟨Nat.le_refl _, Nat.le_refl _⟩ dL_law_384 (fun H locs hP2 hP hS => ?_)
  refine lv_icmp_eq (tgt := 854) hx hb dL_law_387 (by decide) (fun _ => ?_) (fun hq => absurd rfl hq)
  exact hk hR hP hP2 hS hl
set_option maxHeartbeats 4000000 in
set_option maxRecDepth 100000 in
theorem law_8 (X : lx p s m meth c b L xs D ad ad2 cI cZ) {Q : State → Prop} {σ τ : St} {x3 : Int32} (hin : ∀ j : Int32, 0 ≤ j → j ≤ 6 → vp_in (x3 + j) L) (hs : ∃ (r : Int32), f_X6_ofLine (xs (x3 + 1).toNatClampNeg) (xs (x3 + 2).toNatClampNeg) σ = some r ∧ f_X7_ofLine (xs (x3 + 1).toNatClampNeg) (xs (x3 + 2).toNatClampNeg) τ = some r ∧ Rel σ τ) (hk : ∀ {σ τ : St} {H : Heap} {locs : List Loc} {ls : Array Slot}, Rel σ τ → va_P D vwCl (wC ad cI σ) H → va_P D vwCl (wM ad2 cI cZ τ) H → va_S (fun q : Nat => s.heap.size ≤ q) s.heap H locs → lv_has ls 4 [(0, .ref b), (1, .ref (ad 0)), (2, .ref (ad2 0)), (3, .int x3)] → W p l e room_1 s m #[Value.ref b] below meth c H locs 64 1954 Q (F0 m 854 ls [])) {H : Heap} {locs : List Loc} {ls : Array Slot} (hP : va_P D vwCl (wC ad cI σ) H) (hP2 : va_P D vwCl (wM ad2 cI cZ τ) H) (hS : va_S (fun q : Nat => s.heap.size ≤ q) s.heap H locs) (hl : lv_has ls 4 [(0, .ref b), (1, .ref (ad 0)), (2, .ref (ad2 0)), (3, .int x3)]) : W p l e room_1 s m #[Value.ref b] below meth c H locs 64 1954 Q (F0 m 392 ls []) := by
  obtain ⟨hx, hb, hml, hown, hts, hX, hbl, hK, hN, hN2, hdj, hA1, hA2⟩ := id X
  have hbA : ¬ (fun q : Nat => s.heap.size ≤ q) b := Nat.not_le.mpr hbl
  obtain ⟨r, hf1, hf2, hR⟩ := hs
  refine lv_aload_n hx hb dL_law_392 rfl (lv_at hl 1 rfl) ?_
  refine lv_aload_n hx hb dL_law_393 rfl (lv_at hl 0 rfl) ?_
  refine lv_iload_n hx hb dL_law_394 rfl (lv_at hl 3 rfl) ?_
  refine lv_iconst (v := 1) hx hb dL_law_395 rfl ?_
  refine lv_iadd hx hb dL_law_396 ?_
  refine va_sld hx hb hX hbl hbA hS (hin 1 (by decide) (by decide)) dL_law_397 ?_
  refine lv_aload_n hx hb dL_law_398 rfl (lv_at hl 0 rfl) ?_
  refine lv_iload_n hx hb dL_law_399 rfl (lv_at hl 3 rfl) ?_
  refine lv_iconst (v := 2) hx hb dL_law_400 rfl ?_
  refine lv_iadd hx hb dL_law_401 ?_
  refine va_sld hx hb hX hbl hbA hS (hin 2 (by decide) (by decide)) dL_law_402 ?_
  refine kLi (As := [.int (xs (x3 + 1).toNatClampNeg), .int (xs (x3 + 2).toNatClampNeg)]) (rest := []) (wd := wC ad cI) (wd2 := wM ad2 cI cZ) (q0 := 0) (ci := 6) ⟨hx, hb, hml, hown, hts⟩ (hK.sub (tys' := [(cI, .int)]) [0] rfl) (c_X6_ofLine (l := l) (D := D) hN hf1) (cw_L_49 hts) rfl rfl hP hP2 (dj_C hdj) hS hA1 hl rfl rfl (Nat.le_of_ble_eq_true rfl) ⟨Nat.le_refl _, Nat.le_refl _⟩ dL_law_403 (fun H locs hP hP2 hS => ?_)
  refine lv_aload_n hx hb dL_law_406 rfl (lv_at hl 2 rfl) ?_
  refine lv_aload_n hx hb dL_law_407 rfl (lv_at hl 0 rfl) ?_
  refine lv_iload_n hx hb dL_law_408 rfl (lv_at hl 3 rfl) ?_
  refine lv_iconst (v := 1) hx hb dL_law_409 rfl ?_
  refine lv_iadd hx hb dL_law_410 ?_
  refine va_sld hx hb hX hbl hbA hS (hin 1 (by decide) (by decide)) dL_law_411 ?_
  refine lv_aload_n hx hb dL_law_412 rfl (lv_at hl 0 rfl) ?_
  refine lv_iload_n hx hb dL_law_413 rfl (lv_at hl 3 rfl) ?_
  refine lv_iconst (v := 2) hx hb dL_law_414 rfl ?_
  refine lv_iadd hx hb dL_law_415 ?_
  refine va_sld hx hb hX hbl hbA hS (hin 2 (by decide) (by decide)) dL_law_416 ?_
  refine kLi (As := [.int (xs (x3 + 1).toNatClampNeg), .int (xs (x3 + 2).toNatClampNeg)]) (rest := [.int r]) (wd := wM ad2 cI cZ) (wd2 := wC ad cI) (q0 := 0) (ci := 7) ⟨hx, hb, hml, hown, hts⟩ hK (c_X7_ofLine (l := l) (D := D) hN2 hf2) (cw_L_52 hts) rfl rfl hP2 hP (dj_M hdj) hS hA2 hl rfl rfl (Nat.le_of_ble_eq_true rfl) ⟨Nat.le_refl _, Nat.le_refl _⟩ dL_law_417 (fun H locs hP2 hP hS => ?_)
  refine lv_icmp_eq (tgt := 854) hx hb dL_law_420 (by decide) (fun _ => ?_) (fun hq => absurd rfl hq)
  exact hk hR hP hP2 hS hl
set_option maxHeartbeats 4000000 in
set_option maxRecDepth 100000 in
theorem law_9 (X : lx p s m meth c b L xs D ad ad2 cI cZ) {Q : State → Prop} {σ τ : St} {x3 : Int32} (hin : ∀ j : Int32, 0 ≤ j → j ≤ 6 → vp_in (x3 + j) L) (hs : ∃ (r : Int32), f_X6_at (xs (x3 + 1).toNatClampNeg) (xs (x3 + 2).toNatClampNeg) (xs (x3 + 3).toNatClampNeg) σ = some r ∧ f_X7_at (xs (x3 + 1).toNatClampNeg) (xs (x3 + 2).toNatClampNeg) (xs (x3 + 3).toNatClampNeg) τ = some r ∧ Rel σ τ) (hk : ∀ {σ τ : St} {H : Heap} {locs : List Loc} {ls : Array Slot}, Rel σ τ → va_P D vwCl (wC ad cI σ) H → va_P D vwCl (wM ad2 cI cZ τ) H → va_S (fun q : Nat => s.heap.size ≤ q) s.heap H locs → lv_has ls 4 [(0, .ref b), (1, .ref (ad 0)), (2, .ref (ad2 0)), (3, .int x3)] → W p l e room_1 s m #[Value.ref b] below meth c H locs 64 1954 Q (F0 m 854 ls [])) {H : Heap} {locs : List Loc} {ls : Array Slot} (hP : va_P D vwCl (wC ad cI σ) H) (hP2 : va_P D vwCl (wM ad2 cI cZ τ) H) (hS : va_S (fun q : Nat => s.heap.size ≤ q) s.heap H locs) (hl : lv_has ls 4 [(0, .ref b), (1, .ref (ad 0)), (2, .ref (ad2 0)), (3, .int x3)]) : W p l e room_1 s m #[Value.ref b] below meth c H locs 64 1954 Q (F0 m 425 ls []) := by
  obtain ⟨hx, hb, hml, hown, hts, hX, hbl, hK, hN, hN2, hdj, hA1, hA2⟩ := id X
  have hbA : ¬ (fun q : Nat => s.heap.size ≤ q) b := Nat.not_le.mpr hbl
  obtain ⟨r, hf1, hf2, hR⟩ := hs
  refine lv_aload_n hx hb dL_law_425 rfl (lv_at hl 1 rfl) ?_
  refine lv_aload_n hx hb dL_law_426 rfl (lv_at hl 0 rfl) ?_
  refine lv_iload_n hx hb dL_law_427 rfl (lv_at hl 3 rfl) ?_
  refine lv_iconst (v := 1) hx hb dL_law_428 rfl ?_
  refine lv_iadd hx hb dL_law_429 ?_
  refine va_sld hx hb hX hbl hbA hS (hin 1 (by decide) (by decide)) dL_law_430 ?_
  refine lv_aload_n hx hb dL_law_431 rfl (lv_at hl 0 rfl) ?_
  refine lv_iload_n hx hb dL_law_432 rfl (lv_at hl 3 rfl) ?_
  refine lv_iconst (v := 2) hx hb dL_law_433 rfl ?_
  refine lv_iadd hx hb dL_law_434 ?_
  refine va_sld hx hb hX hbl hbA hS (hin 2 (by decide) (by decide)) dL_law_435 ?_
  refine lv_aload_n hx hb dL_law_436 rfl (lv_at hl 0 rfl) ?_
  refine lv_iload_n hx hb dL_law_437 rfl (lv_at hl 3 rfl) ?_
  refine lv_iconst (v := 3) hx hb dL_law_438 rfl ?_
  refine lv_iadd hx hb dL_law_439 ?_
  refine va_sld hx hb hX hbl hbA hS (hin 3 (by decide) (by decide)) dL_law_440 ?_
  refine kLi (As := [.int (xs (x3 + 1).toNatClampNeg), .int (xs (x3 + 2).toNatClampNeg), .int (xs (x3 + 3).toNatClampNeg)]) (rest := []) (wd := wC ad cI) (wd2 := wM ad2 cI cZ) (q0 := 0) (ci := 6) ⟨hx, hb, hml, hown, hts⟩ (hK.sub (tys' := [(cI, .int)]) [0] rfl) (c_X6_at (l := l) (D := D) hN hf1) (cw_L_53 hts) rfl rfl hP hP2 (dj_C hdj) hS hA1 hl rfl rfl (Nat.le_of_ble_eq_true rfl) ⟨Nat.le_refl _, Nat.le_refl _⟩ dL_law_441 (fun H locs hP hP2 hS => ?_)
  refine lv_aload_n hx hb dL_law_444 rfl (lv_at hl 2 rfl) ?_
  refine lv_aload_n hx hb dL_law_445 rfl (lv_at hl 0 rfl) ?_
  refine lv_iload_n hx hb dL_law_446 rfl (lv_at hl 3 rfl) ?_
  refine lv_iconst (v := 1) hx hb dL_law_447 rfl ?_
  refine lv_iadd hx hb dL_law_448 ?_
  refine va_sld hx hb hX hbl hbA hS (hin 1 (by decide) (by decide)) dL_law_449 ?_
  refine lv_aload_n hx hb dL_law_450 rfl (lv_at hl 0 rfl) ?_
  refine lv_iload_n hx hb dL_law_451 rfl (lv_at hl 3 rfl) ?_
  refine lv_iconst (v := 2) hx hb dL_law_452 rfl ?_
  refine lv_iadd hx hb dL_law_453 ?_
  refine va_sld hx hb hX hbl hbA hS (hin 2 (by decide) (by decide)) dL_law_454 ?_
  refine lv_aload_n hx hb dL_law_455 rfl (lv_at hl 0 rfl) ?_
  refine lv_iload_n hx hb dL_law_456 rfl (lv_at hl 3 rfl) ?_
  refine lv_iconst (v := 3) hx hb dL_law_457 rfl ?_
  refine lv_iadd hx hb dL_law_458 ?_
  refine va_sld hx hb hX hbl hbA hS (hin 3 (by decide) (by decide)) dL_law_459 ?_
  refine kLi (As := [.int (xs (x3 + 1).toNatClampNeg), .int (xs (x3 + 2).toNatClampNeg), .int (xs (x3 + 3).toNatClampNeg)]) (rest := [.int r]) (wd := wM ad2 cI cZ) (wd2 := wC ad cI) (q0 := 0) (ci := 7) ⟨hx, hb, hml, hown, hts⟩ hK (c_X7_at (l := l) (D := D) hN2 hf2) (cw_L_57 hts) rfl rfl hP2 hP (dj_M hdj) hS hA2 hl rfl rfl (Nat.le_of_ble_eq_true rfl) ⟨Nat.le_refl _, Nat.le_refl _⟩ dL_law_460 (fun H locs hP2 hP hS => ?_)
  refine lv_icmp_eq (tgt := 854) hx hb dL_law_463 (by decide) (fun _ => ?_) (fun hq => absurd rfl hq)
  exact hk hR hP hP2 hS hl
set_option maxHeartbeats 4000000 in
set_option maxRecDepth 100000 in
theorem law_10 (X : lx p s m meth c b L xs D ad ad2 cI cZ) {Q : State → Prop} {σ τ : St} {x3 : Int32} (hin : ∀ j : Int32, 0 ≤ j → j ≤ 6 → vp_in (x3 + j) L) (hs : ∃ (r : Int32), f_X6_reach (xs (x3 + 1).toNatClampNeg) (xs (x3 + 2).toNatClampNeg) σ = some r ∧ f_X7_reach (xs (x3 + 1).toNatClampNeg) (xs (x3 + 2).toNatClampNeg) τ = some r ∧ Rel σ τ) (hk : ∀ {σ τ : St} {H : Heap} {locs : List Loc} {ls : Array Slot}, Rel σ τ → va_P D vwCl (wC ad cI σ) H → va_P D vwCl (wM ad2 cI cZ τ) H → va_S (fun q : Nat => s.heap.size ≤ q) s.heap H locs → lv_has ls 4 [(0, .ref b), (1, .ref (ad 0)), (2, .ref (ad2 0)), (3, .int x3)] → W p l e room_1 s m #[Value.ref b] below meth c H locs 64 1954 Q (F0 m 854 ls [])) {H : Heap} {locs : List Loc} {ls : Array Slot} (hP : va_P D vwCl (wC ad cI σ) H) (hP2 : va_P D vwCl (wM ad2 cI cZ τ) H) (hS : va_S (fun q : Nat => s.heap.size ≤ q) s.heap H locs) (hl : lv_has ls 4 [(0, .ref b), (1, .ref (ad 0)), (2, .ref (ad2 0)), (3, .int x3)]) : W p l e room_1 s m #[Value.ref b] below meth c H locs 64 1954 Q (F0 m 468 ls []) := by
  obtain ⟨hx, hb, hml, hown, hts, hX, hbl, hK, hN, hN2, hdj, hA1, hA2⟩ := id X
  have hbA : ¬ (fun q : Nat => s.heap.size ≤ q) b := Nat.not_le.mpr hbl
  obtain ⟨r, hf1, hf2, hR⟩ := hs
  refine lv_aload_n hx hb dL_law_468 rfl (lv_at hl 1 rfl) ?_
  refine lv_aload_n hx hb dL_law_469 rfl (lv_at hl 0 rfl) ?_
  refine lv_iload_n hx hb dL_law_470 rfl (lv_at hl 3 rfl) ?_
  refine lv_iconst (v := 1) hx hb dL_law_471 rfl ?_
  refine lv_iadd hx hb dL_law_472 ?_
  refine va_sld hx hb hX hbl hbA hS (hin 1 (by decide) (by decide)) dL_law_473 ?_
  refine lv_aload_n hx hb dL_law_474 rfl (lv_at hl 0 rfl) ?_
  refine lv_iload_n hx hb dL_law_475 rfl (lv_at hl 3 rfl) ?_
  refine lv_iconst (v := 2) hx hb dL_law_476 rfl ?_
  refine lv_iadd hx hb dL_law_477 ?_
  refine va_sld hx hb hX hbl hbA hS (hin 2 (by decide) (by decide)) dL_law_478 ?_
  refine kLi (As := [.int (xs (x3 + 1).toNatClampNeg), .int (xs (x3 + 2).toNatClampNeg)]) (rest := []) (wd := wC ad cI) (wd2 := wM ad2 cI cZ) (q0 := 0) (ci := 6) ⟨hx, hb, hml, hown, hts⟩ (hK.sub (tys' := [(cI, .int)]) [0] rfl) (c_X6_reach (l := l) (D := D) hN hf1) (cw_L_58 hts) rfl rfl hP hP2 (dj_C hdj) hS hA1 hl rfl rfl (Nat.le_of_ble_eq_true rfl) ⟨Nat.le_refl _, Nat.le_refl _⟩ dL_law_479 (fun H locs hP hP2 hS => ?_)
  refine lv_aload_n hx hb dL_law_482 rfl (lv_at hl 2 rfl) ?_
  refine lv_aload_n hx hb dL_law_483 rfl (lv_at hl 0 rfl) ?_
  refine lv_iload_n hx hb dL_law_484 rfl (lv_at hl 3 rfl) ?_
  refine lv_iconst (v := 1) hx hb dL_law_485 rfl ?_
  refine lv_iadd hx hb dL_law_486 ?_
  refine va_sld hx hb hX hbl hbA hS (hin 1 (by decide) (by decide)) dL_law_487 ?_
  refine lv_aload_n hx hb dL_law_488 rfl (lv_at hl 0 rfl) ?_
  refine lv_iload_n hx hb dL_law_489 rfl (lv_at hl 3 rfl) ?_
  refine lv_iconst (v := 2) hx hb dL_law_490 rfl ?_
  refine lv_iadd hx hb dL_law_491 ?_
  refine va_sld hx hb hX hbl hbA hS (hin 2 (by decide) (by decide)) dL_law_492 ?_
  refine kLi (As := [.int (xs (x3 + 1).toNatClampNeg), .int (xs (x3 + 2).toNatClampNeg)]) (rest := [.int r]) (wd := wM ad2 cI cZ) (wd2 := wC ad cI) (q0 := 0) (ci := 7) ⟨hx, hb, hml, hown, hts⟩ hK (c_X7_reach (l := l) (D := D) hN2 hf2) (cw_L_61 hts) rfl rfl hP2 hP (dj_M hdj) hS hA2 hl rfl rfl (Nat.le_of_ble_eq_true rfl) ⟨Nat.le_refl _, Nat.le_refl _⟩ dL_law_493 (fun H locs hP2 hP hS => ?_)
  refine lv_icmp_eq (tgt := 854) hx hb dL_law_496 (by decide) (fun _ => ?_) (fun hq => absurd rfl hq)
  exact hk hR hP hP2 hS hl
set_option maxHeartbeats 4000000 in
set_option maxRecDepth 100000 in
theorem law_11 (X : lx p s m meth c b L xs D ad ad2 cI cZ) {Q : State → Prop} {σ τ : St} {x3 : Int32} (hin : ∀ j : Int32, 0 ≤ j → j ≤ 6 → vp_in (x3 + j) L) (hs : ∃ (r : Int32) (σ' : St), f_X6_under (xs (x3 + 1).toNatClampNeg) σ = some (r, σ') ∧ f_X7_under (xs (x3 + 1).toNatClampNeg) τ = some r ∧ Rel σ' τ) (hk : ∀ {σ τ : St} {H : Heap} {locs : List Loc} {ls : Array Slot}, Rel σ τ → va_P D vwCl (wC ad cI σ) H → va_P D vwCl (wM ad2 cI cZ τ) H → va_S (fun q : Nat => s.heap.size ≤ q) s.heap H locs → lv_has ls 4 [(0, .ref b), (1, .ref (ad 0)), (2, .ref (ad2 0)), (3, .int x3)] → W p l e room_1 s m #[Value.ref b] below meth c H locs 64 1954 Q (F0 m 854 ls [])) {H : Heap} {locs : List Loc} {ls : Array Slot} (hP : va_P D vwCl (wC ad cI σ) H) (hP2 : va_P D vwCl (wM ad2 cI cZ τ) H) (hS : va_S (fun q : Nat => s.heap.size ≤ q) s.heap H locs) (hl : lv_has ls 4 [(0, .ref b), (1, .ref (ad 0)), (2, .ref (ad2 0)), (3, .int x3)]) : W p l e room_1 s m #[Value.ref b] below meth c H locs 64 1954 Q (F0 m 501 ls []) := by
  obtain ⟨hx, hb, hml, hown, hts, hX, hbl, hK, hN, hN2, hdj, hA1, hA2⟩ := id X
  have hbA : ¬ (fun q : Nat => s.heap.size ≤ q) b := Nat.not_le.mpr hbl
  obtain ⟨r, σ', hf1, hf2, hR⟩ := hs
  refine lv_aload_n hx hb dL_law_501 rfl (lv_at hl 1 rfl) ?_
  refine lv_aload_n hx hb dL_law_502 rfl (lv_at hl 0 rfl) ?_
  refine lv_iload_n hx hb dL_law_503 rfl (lv_at hl 3 rfl) ?_
  refine lv_iconst (v := 1) hx hb dL_law_504 rfl ?_
  refine lv_iadd hx hb dL_law_505 ?_
  refine va_sld hx hb hX hbl hbA hS (hin 1 (by decide) (by decide)) dL_law_506 ?_
  refine kLi (As := [.int (xs (x3 + 1).toNatClampNeg)]) (rest := []) (wd := wC ad cI) (wd2 := wM ad2 cI cZ) (q0 := 0) (ci := 6) ⟨hx, hb, hml, hown, hts⟩ (hK.sub (tys' := [(cI, .int)]) [0] rfl) (c_X6_under (l := l) (D := D) hN hf1) (cw_L_62 hts) rfl rfl hP hP2 (dj_C hdj) hS hA1 hl rfl rfl (Nat.le_of_ble_eq_true rfl) ⟨Nat.le_refl _, Nat.le_refl _⟩ dL_law_507 (fun H locs hP hP2 hS => ?_)
  refine lv_aload_n hx hb dL_law_510 rfl (lv_at hl 2 rfl) ?_
  refine lv_aload_n hx hb dL_law_511 rfl (lv_at hl 0 rfl) ?_
  refine lv_iload_n hx hb dL_law_512 rfl (lv_at hl 3 rfl) ?_
  refine lv_iconst (v := 1) hx hb dL_law_513 rfl ?_
  refine lv_iadd hx hb dL_law_514 ?_
  refine va_sld hx hb hX hbl hbA hS (hin 1 (by decide) (by decide)) dL_law_515 ?_
  refine kLi (As := [.int (xs (x3 + 1).toNatClampNeg)]) (rest := [.int r]) (wd := wM ad2 cI cZ) (wd2 := wC ad cI) (q0 := 0) (ci := 7) ⟨hx, hb, hml, hown, hts⟩ hK (c_X7_under (l := l) (D := D) hN2 hf2) (cw_L_66 hts) rfl rfl hP2 hP (dj_M hdj) hS hA2 hl rfl rfl (Nat.le_of_ble_eq_true rfl) ⟨Nat.le_refl _, Nat.le_refl _⟩ dL_law_516 (fun H locs hP2 hP hS => ?_)
  refine lv_icmp_eq (tgt := 854) hx hb dL_law_519 (by decide) (fun _ => ?_) (fun hq => absurd rfl hq)
  exact hk hR hP hP2 hS hl
set_option maxHeartbeats 4000000 in
set_option maxRecDepth 100000 in
theorem law_12 (X : lx p s m meth c b L xs D ad ad2 cI cZ) {Q : State → Prop} {σ τ : St} {x3 : Int32} (hin : ∀ j : Int32, 0 ≤ j → j ≤ 6 → vp_in (x3 + j) L) (hs : ∃ (r : Int32) (σ' : St) (τ' : St), f_X6_story (xs (x3 + 1).toNatClampNeg) σ = some (r, σ') ∧ f_X7_story (xs (x3 + 1).toNatClampNeg) τ = some (r, τ') ∧ Rel σ' τ') (hk : ∀ {σ τ : St} {H : Heap} {locs : List Loc} {ls : Array Slot}, Rel σ τ → va_P D vwCl (wC ad cI σ) H → va_P D vwCl (wM ad2 cI cZ τ) H → va_S (fun q : Nat => s.heap.size ≤ q) s.heap H locs → lv_has ls 4 [(0, .ref b), (1, .ref (ad 0)), (2, .ref (ad2 0)), (3, .int x3)] → W p l e room_1 s m #[Value.ref b] below meth c H locs 64 1954 Q (F0 m 854 ls [])) {H : Heap} {locs : List Loc} {ls : Array Slot} (hP : va_P D vwCl (wC ad cI σ) H) (hP2 : va_P D vwCl (wM ad2 cI cZ τ) H) (hS : va_S (fun q : Nat => s.heap.size ≤ q) s.heap H locs) (hl : lv_has ls 4 [(0, .ref b), (1, .ref (ad 0)), (2, .ref (ad2 0)), (3, .int x3)]) : W p l e room_1 s m #[Value.ref b] below meth c H locs 64 1954 Q (F0 m 524 ls []) := by
  obtain ⟨hx, hb, hml, hown, hts, hX, hbl, hK, hN, hN2, hdj, hA1, hA2⟩ := id X
  have hbA : ¬ (fun q : Nat => s.heap.size ≤ q) b := Nat.not_le.mpr hbl
  obtain ⟨r, σ', τ', hf1, hf2, hR⟩ := hs
  refine lv_aload_n hx hb dL_law_524 rfl (lv_at hl 1 rfl) ?_
  refine lv_aload_n hx hb dL_law_525 rfl (lv_at hl 0 rfl) ?_
  refine lv_iload_n hx hb dL_law_526 rfl (lv_at hl 3 rfl) ?_
  refine lv_iconst (v := 1) hx hb dL_law_527 rfl ?_
  refine lv_iadd hx hb dL_law_528 ?_
  refine va_sld hx hb hX hbl hbA hS (hin 1 (by decide) (by decide)) dL_law_529 ?_
  refine kLi (As := [.int (xs (x3 + 1).toNatClampNeg)]) (rest := []) (wd := wC ad cI) (wd2 := wM ad2 cI cZ) (q0 := 0) (ci := 6) ⟨hx, hb, hml, hown, hts⟩ (hK.sub (tys' := [(cI, .int)]) [0] rfl) (c_X6_story (l := l) (D := D) hN hf1) (cw_L_67 hts) rfl rfl hP hP2 (dj_C hdj) hS hA1 hl rfl rfl (Nat.le_of_ble_eq_true rfl) ⟨Nat.le_refl _, Nat.le_refl _⟩ dL_law_530 (fun H locs hP hP2 hS => ?_)
  refine lv_aload_n hx hb dL_law_533 rfl (lv_at hl 2 rfl) ?_
  refine lv_aload_n hx hb dL_law_534 rfl (lv_at hl 0 rfl) ?_
  refine lv_iload_n hx hb dL_law_535 rfl (lv_at hl 3 rfl) ?_
  refine lv_iconst (v := 1) hx hb dL_law_536 rfl ?_
  refine lv_iadd hx hb dL_law_537 ?_
  refine va_sld hx hb hX hbl hbA hS (hin 1 (by decide) (by decide)) dL_law_538 ?_
  refine kLi (As := [.int (xs (x3 + 1).toNatClampNeg)]) (rest := [.int r]) (wd := wM ad2 cI cZ) (wd2 := wC ad cI) (q0 := 0) (ci := 7) ⟨hx, hb, hml, hown, hts⟩ hK (c_X7_story (l := l) (D := D) hN2 hf2) (cw_L_70 hts) rfl rfl hP2 hP (dj_M hdj) hS hA2 hl rfl rfl (Nat.le_of_ble_eq_true rfl) ⟨Nat.le_refl _, Nat.le_refl _⟩ dL_law_539 (fun H locs hP2 hP hS => ?_)
  refine lv_icmp_eq (tgt := 854) hx hb dL_law_542 (by decide) (fun _ => ?_) (fun hq => absurd rfl hq)
  exact hk hR hP hP2 hS hl
set_option maxHeartbeats 4000000 in
set_option maxRecDepth 100000 in
theorem law_13 (X : lx p s m meth c b L xs D ad ad2 cI cZ) {Q : State → Prop} {σ τ : St} {x3 : Int32} (hin : ∀ j : Int32, 0 ≤ j → j ≤ 6 → vp_in (x3 + j) L) (hs : ∃ (r : Int32) (σ' : St) (τ' : St), f_X6_takenBy (xs (x3 + 1).toNatClampNeg) σ = some (r, σ') ∧ f_X7_takenBy (xs (x3 + 1).toNatClampNeg) τ = some (r, τ') ∧ Rel σ' τ') (hk : ∀ {σ τ : St} {H : Heap} {locs : List Loc} {ls : Array Slot}, Rel σ τ → va_P D vwCl (wC ad cI σ) H → va_P D vwCl (wM ad2 cI cZ τ) H → va_S (fun q : Nat => s.heap.size ≤ q) s.heap H locs → lv_has ls 4 [(0, .ref b), (1, .ref (ad 0)), (2, .ref (ad2 0)), (3, .int x3)] → W p l e room_1 s m #[Value.ref b] below meth c H locs 64 1954 Q (F0 m 854 ls [])) {H : Heap} {locs : List Loc} {ls : Array Slot} (hP : va_P D vwCl (wC ad cI σ) H) (hP2 : va_P D vwCl (wM ad2 cI cZ τ) H) (hS : va_S (fun q : Nat => s.heap.size ≤ q) s.heap H locs) (hl : lv_has ls 4 [(0, .ref b), (1, .ref (ad 0)), (2, .ref (ad2 0)), (3, .int x3)]) : W p l e room_1 s m #[Value.ref b] below meth c H locs 64 1954 Q (F0 m 547 ls []) := by
  obtain ⟨hx, hb, hml, hown, hts, hX, hbl, hK, hN, hN2, hdj, hA1, hA2⟩ := id X
  have hbA : ¬ (fun q : Nat => s.heap.size ≤ q) b := Nat.not_le.mpr hbl
  obtain ⟨r, σ', τ', hf1, hf2, hR⟩ := hs
  refine lv_aload_n hx hb dL_law_547 rfl (lv_at hl 1 rfl) ?_
  refine lv_aload_n hx hb dL_law_548 rfl (lv_at hl 0 rfl) ?_
  refine lv_iload_n hx hb dL_law_549 rfl (lv_at hl 3 rfl) ?_
  refine lv_iconst (v := 1) hx hb dL_law_550 rfl ?_
  refine lv_iadd hx hb dL_law_551 ?_
  refine va_sld hx hb hX hbl hbA hS (hin 1 (by decide) (by decide)) dL_law_552 ?_
  refine kLi (As := [.int (xs (x3 + 1).toNatClampNeg)]) (rest := []) (wd := wC ad cI) (wd2 := wM ad2 cI cZ) (q0 := 0) (ci := 6) ⟨hx, hb, hml, hown, hts⟩ (hK.sub (tys' := [(cI, .int)]) [0] rfl) (c_X6_takenBy (l := l) (D := D) hN hf1) (cw_L_71 hts) rfl rfl hP hP2 (dj_C hdj) hS hA1 hl rfl rfl (Nat.le_of_ble_eq_true rfl) ⟨Nat.le_refl _, Nat.le_refl _⟩ dL_law_553 (fun H locs hP hP2 hS => ?_)
  refine lv_aload_n hx hb dL_law_556 rfl (lv_at hl 2 rfl) ?_
  refine lv_aload_n hx hb dL_law_557 rfl (lv_at hl 0 rfl) ?_
  refine lv_iload_n hx hb dL_law_558 rfl (lv_at hl 3 rfl) ?_
  refine lv_iconst (v := 1) hx hb dL_law_559 rfl ?_
  refine lv_iadd hx hb dL_law_560 ?_
  refine va_sld hx hb hX hbl hbA hS (hin 1 (by decide) (by decide)) dL_law_561 ?_
  refine kLi (As := [.int (xs (x3 + 1).toNatClampNeg)]) (rest := [.int r]) (wd := wM ad2 cI cZ) (wd2 := wC ad cI) (q0 := 0) (ci := 7) ⟨hx, hb, hml, hown, hts⟩ hK (c_X7_takenBy (l := l) (D := D) hN2 hf2) (cw_L_74 hts) rfl rfl hP2 hP (dj_M hdj) hS hA2 hl rfl rfl (Nat.le_of_ble_eq_true rfl) ⟨Nat.le_refl _, Nat.le_refl _⟩ dL_law_562 (fun H locs hP2 hP hS => ?_)
  refine lv_icmp_eq (tgt := 854) hx hb dL_law_565 (by decide) (fun _ => ?_) (fun hq => absurd rfl hq)
  exact hk hR hP hP2 hS hl
set_option maxHeartbeats 4000000 in
set_option maxRecDepth 100000 in
theorem law_14 (X : lx p s m meth c b L xs D ad ad2 cI cZ) {Q : State → Prop} {σ τ : St} {x3 : Int32} (hin : ∀ j : Int32, 0 ≤ j → j ≤ 6 → vp_in (x3 + j) L) (hs : ∃ (r : Int32) (σ' : St) (τ' : St), f_X6_ofStory (xs (x3 + 1).toNatClampNeg) (xs (x3 + 2).toNatClampNeg) σ = some (r, σ') ∧ f_X7_ofStory (xs (x3 + 1).toNatClampNeg) (xs (x3 + 2).toNatClampNeg) τ = some (r, τ') ∧ Rel σ' τ') (hk : ∀ {σ τ : St} {H : Heap} {locs : List Loc} {ls : Array Slot}, Rel σ τ → va_P D vwCl (wC ad cI σ) H → va_P D vwCl (wM ad2 cI cZ τ) H → va_S (fun q : Nat => s.heap.size ≤ q) s.heap H locs → lv_has ls 4 [(0, .ref b), (1, .ref (ad 0)), (2, .ref (ad2 0)), (3, .int x3)] → W p l e room_1 s m #[Value.ref b] below meth c H locs 64 1954 Q (F0 m 854 ls [])) {H : Heap} {locs : List Loc} {ls : Array Slot} (hP : va_P D vwCl (wC ad cI σ) H) (hP2 : va_P D vwCl (wM ad2 cI cZ τ) H) (hS : va_S (fun q : Nat => s.heap.size ≤ q) s.heap H locs) (hl : lv_has ls 4 [(0, .ref b), (1, .ref (ad 0)), (2, .ref (ad2 0)), (3, .int x3)]) : W p l e room_1 s m #[Value.ref b] below meth c H locs 64 1954 Q (F0 m 570 ls []) := by
  obtain ⟨hx, hb, hml, hown, hts, hX, hbl, hK, hN, hN2, hdj, hA1, hA2⟩ := id X
  have hbA : ¬ (fun q : Nat => s.heap.size ≤ q) b := Nat.not_le.mpr hbl
  obtain ⟨r, σ', τ', hf1, hf2, hR⟩ := hs
  refine lv_aload_n hx hb dL_law_570 rfl (lv_at hl 1 rfl) ?_
  refine lv_aload_n hx hb dL_law_571 rfl (lv_at hl 0 rfl) ?_
  refine lv_iload_n hx hb dL_law_572 rfl (lv_at hl 3 rfl) ?_
  refine lv_iconst (v := 1) hx hb dL_law_573 rfl ?_
  refine lv_iadd hx hb dL_law_574 ?_
  refine va_sld hx hb hX hbl hbA hS (hin 1 (by decide) (by decide)) dL_law_575 ?_
  refine lv_aload_n hx hb dL_law_576 rfl (lv_at hl 0 rfl) ?_
  refine lv_iload_n hx hb dL_law_577 rfl (lv_at hl 3 rfl) ?_
  refine lv_iconst (v := 2) hx hb dL_law_578 rfl ?_
  refine lv_iadd hx hb dL_law_579 ?_
  refine va_sld hx hb hX hbl hbA hS (hin 2 (by decide) (by decide)) dL_law_580 ?_
  refine kLi (As := [.int (xs (x3 + 1).toNatClampNeg), .int (xs (x3 + 2).toNatClampNeg)]) (rest := []) (wd := wC ad cI) (wd2 := wM ad2 cI cZ) (q0 := 0) (ci := 6) ⟨hx, hb, hml, hown, hts⟩ (hK.sub (tys' := [(cI, .int)]) [0] rfl) (c_X6_ofStory (l := l) (D := D) hN hf1) (cw_L_75 hts) rfl rfl hP hP2 (dj_C hdj) hS hA1 hl rfl rfl (Nat.le_of_ble_eq_true rfl) ⟨Nat.le_refl _, Nat.le_refl _⟩ dL_law_581 (fun H locs hP hP2 hS => ?_)
  refine lv_aload_n hx hb dL_law_584 rfl (lv_at hl 2 rfl) ?_
  refine lv_aload_n hx hb dL_law_585 rfl (lv_at hl 0 rfl) ?_
  refine lv_iload_n hx hb dL_law_586 rfl (lv_at hl 3 rfl) ?_
  refine lv_iconst (v := 1) hx hb dL_law_587 rfl ?_
  refine lv_iadd hx hb dL_law_588 ?_
  refine va_sld hx hb hX hbl hbA hS (hin 1 (by decide) (by decide)) dL_law_589 ?_
  refine lv_aload_n hx hb dL_law_590 rfl (lv_at hl 0 rfl) ?_
  refine lv_iload_n hx hb dL_law_591 rfl (lv_at hl 3 rfl) ?_
  refine lv_iconst (v := 2) hx hb dL_law_592 rfl ?_
  refine lv_iadd hx hb dL_law_593 ?_
  refine va_sld hx hb hX hbl hbA hS (hin 2 (by decide) (by decide)) dL_law_594 ?_
  refine kLi (As := [.int (xs (x3 + 1).toNatClampNeg), .int (xs (x3 + 2).toNatClampNeg)]) (rest := [.int r]) (wd := wM ad2 cI cZ) (wd2 := wC ad cI) (q0 := 0) (ci := 7) ⟨hx, hb, hml, hown, hts⟩ hK (c_X7_ofStory (l := l) (D := D) hN2 hf2) (cw_L_78 hts) rfl rfl hP2 hP (dj_M hdj) hS hA2 hl rfl rfl (Nat.le_of_ble_eq_true rfl) ⟨Nat.le_refl _, Nat.le_refl _⟩ dL_law_595 (fun H locs hP2 hP hS => ?_)
  refine lv_icmp_eq (tgt := 854) hx hb dL_law_598 (by decide) (fun _ => ?_) (fun hq => absurd rfl hq)
  exact hk hR hP hP2 hS hl
set_option maxHeartbeats 4000000 in
set_option maxRecDepth 100000 in
theorem law_15 (X : lx p s m meth c b L xs D ad ad2 cI cZ) {Q : State → Prop} {σ τ : St} {x3 : Int32} (hin : ∀ j : Int32, 0 ≤ j → j ≤ 6 → vp_in (x3 + j) L) (hs : ∃ (r : Int32) (σ' : St) (τ' : St), f_X6_text (xs (x3 + 1).toNatClampNeg) (xs (x3 + 2).toNatClampNeg) σ = some (r, σ') ∧ f_X7_text (xs (x3 + 1).toNatClampNeg) (xs (x3 + 2).toNatClampNeg) τ = some (r, τ') ∧ Rel σ' τ') (hk : ∀ {σ τ : St} {H : Heap} {locs : List Loc} {ls : Array Slot}, Rel σ τ → va_P D vwCl (wC ad cI σ) H → va_P D vwCl (wM ad2 cI cZ τ) H → va_S (fun q : Nat => s.heap.size ≤ q) s.heap H locs → lv_has ls 4 [(0, .ref b), (1, .ref (ad 0)), (2, .ref (ad2 0)), (3, .int x3)] → W p l e room_1 s m #[Value.ref b] below meth c H locs 64 1954 Q (F0 m 854 ls [])) {H : Heap} {locs : List Loc} {ls : Array Slot} (hP : va_P D vwCl (wC ad cI σ) H) (hP2 : va_P D vwCl (wM ad2 cI cZ τ) H) (hS : va_S (fun q : Nat => s.heap.size ≤ q) s.heap H locs) (hl : lv_has ls 4 [(0, .ref b), (1, .ref (ad 0)), (2, .ref (ad2 0)), (3, .int x3)]) : W p l e room_1 s m #[Value.ref b] below meth c H locs 64 1954 Q (F0 m 603 ls []) := by
  obtain ⟨hx, hb, hml, hown, hts, hX, hbl, hK, hN, hN2, hdj, hA1, hA2⟩ := id X
  have hbA : ¬ (fun q : Nat => s.heap.size ≤ q) b := Nat.not_le.mpr hbl
  obtain ⟨r, σ', τ', hf1, hf2, hR⟩ := hs
  refine lv_aload_n hx hb dL_law_603 rfl (lv_at hl 1 rfl) ?_
  refine lv_aload_n hx hb dL_law_604 rfl (lv_at hl 0 rfl) ?_
  refine lv_iload_n hx hb dL_law_605 rfl (lv_at hl 3 rfl) ?_
  refine lv_iconst (v := 1) hx hb dL_law_606 rfl ?_
  refine lv_iadd hx hb dL_law_607 ?_
  refine va_sld hx hb hX hbl hbA hS (hin 1 (by decide) (by decide)) dL_law_608 ?_
  refine lv_aload_n hx hb dL_law_609 rfl (lv_at hl 0 rfl) ?_
  refine lv_iload_n hx hb dL_law_610 rfl (lv_at hl 3 rfl) ?_
  refine lv_iconst (v := 2) hx hb dL_law_611 rfl ?_
  refine lv_iadd hx hb dL_law_612 ?_
  refine va_sld hx hb hX hbl hbA hS (hin 2 (by decide) (by decide)) dL_law_613 ?_
  refine kLi (As := [.int (xs (x3 + 1).toNatClampNeg), .int (xs (x3 + 2).toNatClampNeg)]) (rest := []) (wd := wC ad cI) (wd2 := wM ad2 cI cZ) (q0 := 0) (ci := 6) ⟨hx, hb, hml, hown, hts⟩ (hK.sub (tys' := [(cI, .int)]) [0] rfl) (c_X6_text (l := l) (D := D) hN hf1) (cw_L_79 hts) rfl rfl hP hP2 (dj_C hdj) hS hA1 hl rfl rfl (Nat.le_of_ble_eq_true rfl) ⟨Nat.le_refl _, Nat.le_refl _⟩ dL_law_614 (fun H locs hP hP2 hS => ?_)
  refine lv_aload_n hx hb dL_law_617 rfl (lv_at hl 2 rfl) ?_
  refine lv_aload_n hx hb dL_law_618 rfl (lv_at hl 0 rfl) ?_
  refine lv_iload_n hx hb dL_law_619 rfl (lv_at hl 3 rfl) ?_
  refine lv_iconst (v := 1) hx hb dL_law_620 rfl ?_
  refine lv_iadd hx hb dL_law_621 ?_
  refine va_sld hx hb hX hbl hbA hS (hin 1 (by decide) (by decide)) dL_law_622 ?_
  refine lv_aload_n hx hb dL_law_623 rfl (lv_at hl 0 rfl) ?_
  refine lv_iload_n hx hb dL_law_624 rfl (lv_at hl 3 rfl) ?_
  refine lv_iconst (v := 2) hx hb dL_law_625 rfl ?_
  refine lv_iadd hx hb dL_law_626 ?_
  refine va_sld hx hb hX hbl hbA hS (hin 2 (by decide) (by decide)) dL_law_627 ?_
  refine kLi (As := [.int (xs (x3 + 1).toNatClampNeg), .int (xs (x3 + 2).toNatClampNeg)]) (rest := [.int r]) (wd := wM ad2 cI cZ) (wd2 := wC ad cI) (q0 := 0) (ci := 7) ⟨hx, hb, hml, hown, hts⟩ hK (c_X7_text (l := l) (D := D) hN2 hf2) (cw_L_82 hts) rfl rfl hP2 hP (dj_M hdj) hS hA2 hl rfl rfl (Nat.le_of_ble_eq_true rfl) ⟨Nat.le_refl _, Nat.le_refl _⟩ dL_law_628 (fun H locs hP2 hP hS => ?_)
  refine lv_icmp_eq (tgt := 854) hx hb dL_law_631 (by decide) (fun _ => ?_) (fun hq => absurd rfl hq)
  exact hk hR hP hP2 hS hl
set_option maxHeartbeats 4000000 in
set_option maxRecDepth 100000 in
theorem law_16 (X : lx p s m meth c b L xs D ad ad2 cI cZ) {Q : State → Prop} {σ τ : St} {x3 : Int32} (hin : ∀ j : Int32, 0 ≤ j → j ≤ 6 → vp_in (x3 + j) L) (hs : ∃ (r : Int32) (σ' : St) (τ' : St), f_X6_mark (xs (x3 + 1).toNatClampNeg) (xs (x3 + 2).toNatClampNeg) (xs (x3 + 3).toNatClampNeg) (xs (x3 + 4).toNatClampNeg) σ = some (r, σ') ∧ f_X7_mark (xs (x3 + 1).toNatClampNeg) (xs (x3 + 2).toNatClampNeg) (xs (x3 + 3).toNatClampNeg) (xs (x3 + 4).toNatClampNeg) τ = some (r, τ') ∧ Rel σ' τ') (hk : ∀ {σ τ : St} {H : Heap} {locs : List Loc} {ls : Array Slot}, Rel σ τ → va_P D vwCl (wC ad cI σ) H → va_P D vwCl (wM ad2 cI cZ τ) H → va_S (fun q : Nat => s.heap.size ≤ q) s.heap H locs → lv_has ls 4 [(0, .ref b), (1, .ref (ad 0)), (2, .ref (ad2 0)), (3, .int x3)] → W p l e room_1 s m #[Value.ref b] below meth c H locs 64 1954 Q (F0 m 854 ls [])) {H : Heap} {locs : List Loc} {ls : Array Slot} (hP : va_P D vwCl (wC ad cI σ) H) (hP2 : va_P D vwCl (wM ad2 cI cZ τ) H) (hS : va_S (fun q : Nat => s.heap.size ≤ q) s.heap H locs) (hl : lv_has ls 4 [(0, .ref b), (1, .ref (ad 0)), (2, .ref (ad2 0)), (3, .int x3)]) : W p l e room_1 s m #[Value.ref b] below meth c H locs 64 1954 Q (F0 m 636 ls []) := by
  obtain ⟨hx, hb, hml, hown, hts, hX, hbl, hK, hN, hN2, hdj, hA1, hA2⟩ := id X
  have hbA : ¬ (fun q : Nat => s.heap.size ≤ q) b := Nat.not_le.mpr hbl
  obtain ⟨r, σ', τ', hf1, hf2, hR⟩ := hs
  refine lv_aload_n hx hb dL_law_636 rfl (lv_at hl 1 rfl) ?_
  refine lv_aload_n hx hb dL_law_637 rfl (lv_at hl 0 rfl) ?_
  refine lv_iload_n hx hb dL_law_638 rfl (lv_at hl 3 rfl) ?_
  refine lv_iconst (v := 1) hx hb dL_law_639 rfl ?_
  refine lv_iadd hx hb dL_law_640 ?_
  refine va_sld hx hb hX hbl hbA hS (hin 1 (by decide) (by decide)) dL_law_641 ?_
  refine lv_aload_n hx hb dL_law_642 rfl (lv_at hl 0 rfl) ?_
  refine lv_iload_n hx hb dL_law_643 rfl (lv_at hl 3 rfl) ?_
  refine lv_iconst (v := 2) hx hb dL_law_644 rfl ?_
  refine lv_iadd hx hb dL_law_645 ?_
  refine va_sld hx hb hX hbl hbA hS (hin 2 (by decide) (by decide)) dL_law_646 ?_
  refine lv_aload_n hx hb dL_law_647 rfl (lv_at hl 0 rfl) ?_
  refine lv_iload_n hx hb dL_law_648 rfl (lv_at hl 3 rfl) ?_
  refine lv_iconst (v := 3) hx hb dL_law_649 rfl ?_
  refine lv_iadd hx hb dL_law_650 ?_
  refine va_sld hx hb hX hbl hbA hS (hin 3 (by decide) (by decide)) dL_law_651 ?_
  refine lv_aload_n hx hb dL_law_652 rfl (lv_at hl 0 rfl) ?_
  refine lv_iload_n hx hb dL_law_653 rfl (lv_at hl 3 rfl) ?_
  refine lv_iconst (v := 4) hx hb dL_law_654 rfl ?_
  refine lv_iadd hx hb dL_law_655 ?_
  refine va_sld hx hb hX hbl hbA hS (hin 4 (by decide) (by decide)) dL_law_656 ?_
  refine kLi (As := [.int (xs (x3 + 1).toNatClampNeg), .int (xs (x3 + 2).toNatClampNeg), .int (xs (x3 + 3).toNatClampNeg), .int (xs (x3 + 4).toNatClampNeg)]) (rest := []) (wd := wC ad cI) (wd2 := wM ad2 cI cZ) (q0 := 0) (ci := 6) ⟨hx, hb, hml, hown, hts⟩ (hK.sub (tys' := [(cI, .int)]) [0] rfl) (c_X6_mark (l := l) (D := D) hN hf1) (cw_L_83 hts) rfl rfl hP hP2 (dj_C hdj) hS hA1 hl rfl rfl (Nat.le_of_ble_eq_true rfl) ⟨Nat.le_refl _, Nat.le_refl _⟩ dL_law_657 (fun H locs hP hP2 hS => ?_)
  refine lv_aload_n hx hb dL_law_660 rfl (lv_at hl 2 rfl) ?_
  refine lv_aload_n hx hb dL_law_661 rfl (lv_at hl 0 rfl) ?_
  refine lv_iload_n hx hb dL_law_662 rfl (lv_at hl 3 rfl) ?_
  refine lv_iconst (v := 1) hx hb dL_law_663 rfl ?_
  refine lv_iadd hx hb dL_law_664 ?_
  refine va_sld hx hb hX hbl hbA hS (hin 1 (by decide) (by decide)) dL_law_665 ?_
  refine lv_aload_n hx hb dL_law_666 rfl (lv_at hl 0 rfl) ?_
  refine lv_iload_n hx hb dL_law_667 rfl (lv_at hl 3 rfl) ?_
  refine lv_iconst (v := 2) hx hb dL_law_668 rfl ?_
  refine lv_iadd hx hb dL_law_669 ?_
  refine va_sld hx hb hX hbl hbA hS (hin 2 (by decide) (by decide)) dL_law_670 ?_
  refine lv_aload_n hx hb dL_law_671 rfl (lv_at hl 0 rfl) ?_
  refine lv_iload_n hx hb dL_law_672 rfl (lv_at hl 3 rfl) ?_
  refine lv_iconst (v := 3) hx hb dL_law_673 rfl ?_
  refine lv_iadd hx hb dL_law_674 ?_
  refine va_sld hx hb hX hbl hbA hS (hin 3 (by decide) (by decide)) dL_law_675 ?_
  refine lv_aload_n hx hb dL_law_676 rfl (lv_at hl 0 rfl) ?_
  refine lv_iload_n hx hb dL_law_677 rfl (lv_at hl 3 rfl) ?_
  refine lv_iconst (v := 4) hx hb dL_law_678 rfl ?_
  refine lv_iadd hx hb dL_law_679 ?_
  refine va_sld hx hb hX hbl hbA hS (hin 4 (by decide) (by decide)) dL_law_680 ?_
  refine kLi (As := [.int (xs (x3 + 1).toNatClampNeg), .int (xs (x3 + 2).toNatClampNeg), .int (xs (x3 + 3).toNatClampNeg), .int (xs (x3 + 4).toNatClampNeg)]) (rest := [.int r]) (wd := wM ad2 cI cZ) (wd2 := wC ad cI) (q0 := 0) (ci := 7) ⟨hx, hb, hml, hown, hts⟩ hK (c_X7_mark (l := l) (D := D) hN2 hf2) (cw_L_87 hts) rfl rfl hP2 hP (dj_M hdj) hS hA2 hl rfl rfl (Nat.le_of_ble_eq_true rfl) ⟨Nat.le_refl _, Nat.le_refl _⟩ dL_law_681 (fun H locs hP2 hP hS => ?_)
  refine lv_icmp_eq (tgt := 854) hx hb dL_law_684 (by decide) (fun _ => ?_) (fun hq => absurd rfl hq)
  exact hk hR hP hP2 hS hl
set_option maxHeartbeats 4000000 in
set_option maxRecDepth 100000 in
theorem law_17 (X : lx p s m meth c b L xs D ad ad2 cI cZ) {Q : State → Prop} {σ τ : St} {x3 : Int32} (hin : ∀ j : Int32, 0 ≤ j → j ≤ 6 → vp_in (x3 + j) L) (hs : ∃ (r : Int32) (σ' : St) (τ' : St), f_X6_unmark (xs (x3 + 1).toNatClampNeg) (xs (x3 + 2).toNatClampNeg) σ = some (r, σ') ∧ f_X7_unmark (xs (x3 + 1).toNatClampNeg) (xs (x3 + 2).toNatClampNeg) τ = some (r, τ') ∧ Rel σ' τ') (hk : ∀ {σ τ : St} {H : Heap} {locs : List Loc} {ls : Array Slot}, Rel σ τ → va_P D vwCl (wC ad cI σ) H → va_P D vwCl (wM ad2 cI cZ τ) H → va_S (fun q : Nat => s.heap.size ≤ q) s.heap H locs → lv_has ls 4 [(0, .ref b), (1, .ref (ad 0)), (2, .ref (ad2 0)), (3, .int x3)] → W p l e room_1 s m #[Value.ref b] below meth c H locs 64 1954 Q (F0 m 854 ls [])) {H : Heap} {locs : List Loc} {ls : Array Slot} (hP : va_P D vwCl (wC ad cI σ) H) (hP2 : va_P D vwCl (wM ad2 cI cZ τ) H) (hS : va_S (fun q : Nat => s.heap.size ≤ q) s.heap H locs) (hl : lv_has ls 4 [(0, .ref b), (1, .ref (ad 0)), (2, .ref (ad2 0)), (3, .int x3)]) : W p l e room_1 s m #[Value.ref b] below meth c H locs 64 1954 Q (F0 m 689 ls []) := by
  obtain ⟨hx, hb, hml, hown, hts, hX, hbl, hK, hN, hN2, hdj, hA1, hA2⟩ := id X
  have hbA : ¬ (fun q : Nat => s.heap.size ≤ q) b := Nat.not_le.mpr hbl
  obtain ⟨r, σ', τ', hf1, hf2, hR⟩ := hs
  refine lv_aload_n hx hb dL_law_689 rfl (lv_at hl 1 rfl) ?_
  refine lv_aload_n hx hb dL_law_690 rfl (lv_at hl 0 rfl) ?_
  refine lv_iload_n hx hb dL_law_691 rfl (lv_at hl 3 rfl) ?_
  refine lv_iconst (v := 1) hx hb dL_law_692 rfl ?_
  refine lv_iadd hx hb dL_law_693 ?_
  refine va_sld hx hb hX hbl hbA hS (hin 1 (by decide) (by decide)) dL_law_694 ?_
  refine lv_aload_n hx hb dL_law_695 rfl (lv_at hl 0 rfl) ?_
  refine lv_iload_n hx hb dL_law_696 rfl (lv_at hl 3 rfl) ?_
  refine lv_iconst (v := 2) hx hb dL_law_697 rfl ?_
  refine lv_iadd hx hb dL_law_698 ?_
  refine va_sld hx hb hX hbl hbA hS (hin 2 (by decide) (by decide)) dL_law_699 ?_
  refine kLi (As := [.int (xs (x3 + 1).toNatClampNeg), .int (xs (x3 + 2).toNatClampNeg)]) (rest := []) (wd := wC ad cI) (wd2 := wM ad2 cI cZ) (q0 := 0) (ci := 6) ⟨hx, hb, hml, hown, hts⟩ (hK.sub (tys' := [(cI, .int)]) [0] rfl) (c_X6_unmark (l := l) (D := D) hN hf1) (cw_L_88 hts) rfl rfl hP hP2 (dj_C hdj) hS hA1 hl rfl rfl (Nat.le_of_ble_eq_true rfl) ⟨Nat.le_refl _, Nat.le_refl _⟩ dL_law_700 (fun H locs hP hP2 hS => ?_)
  refine lv_aload_n hx hb dL_law_703 rfl (lv_at hl 2 rfl) ?_
  refine lv_aload_n hx hb dL_law_704 rfl (lv_at hl 0 rfl) ?_
  refine lv_iload_n hx hb dL_law_705 rfl (lv_at hl 3 rfl) ?_
  refine lv_iconst (v := 1) hx hb dL_law_706 rfl ?_
  refine lv_iadd hx hb dL_law_707 ?_
  refine va_sld hx hb hX hbl hbA hS (hin 1 (by decide) (by decide)) dL_law_708 ?_
  refine lv_aload_n hx hb dL_law_709 rfl (lv_at hl 0 rfl) ?_
  refine lv_iload_n hx hb dL_law_710 rfl (lv_at hl 3 rfl) ?_
  refine lv_iconst (v := 2) hx hb dL_law_711 rfl ?_
  refine lv_iadd hx hb dL_law_712 ?_
  refine va_sld hx hb hX hbl hbA hS (hin 2 (by decide) (by decide)) dL_law_713 ?_
  refine kLi (As := [.int (xs (x3 + 1).toNatClampNeg), .int (xs (x3 + 2).toNatClampNeg)]) (rest := [.int r]) (wd := wM ad2 cI cZ) (wd2 := wC ad cI) (q0 := 0) (ci := 7) ⟨hx, hb, hml, hown, hts⟩ hK (c_X7_unmark (l := l) (D := D) hN2 hf2) (cw_L_91 hts) rfl rfl hP2 hP (dj_M hdj) hS hA2 hl rfl rfl (Nat.le_of_ble_eq_true rfl) ⟨Nat.le_refl _, Nat.le_refl _⟩ dL_law_714 (fun H locs hP2 hP hS => ?_)
  refine lv_icmp_eq (tgt := 854) hx hb dL_law_717 (by decide) (fun _ => ?_) (fun hq => absurd rfl hq)
  exact hk hR hP hP2 hS hl
set_option maxHeartbeats 4000000 in
set_option maxRecDepth 100000 in
theorem law_18 (X : lx p s m meth c b L xs D ad ad2 cI cZ) {Q : State → Prop} {σ τ : St} {x3 : Int32} (hin : ∀ j : Int32, 0 ≤ j → j ≤ 6 → vp_in (x3 + j) L) (hs : ∃ (r : Int32), f_X6_ofMark (xs (x3 + 1).toNatClampNeg) (xs (x3 + 2).toNatClampNeg) (xs (x3 + 3).toNatClampNeg) σ = some r ∧ f_X7_ofMark (xs (x3 + 1).toNatClampNeg) (xs (x3 + 2).toNatClampNeg) (xs (x3 + 3).toNatClampNeg) τ = some r ∧ Rel σ τ) (hk : ∀ {σ τ : St} {H : Heap} {locs : List Loc} {ls : Array Slot}, Rel σ τ → va_P D vwCl (wC ad cI σ) H → va_P D vwCl (wM ad2 cI cZ τ) H → va_S (fun q : Nat => s.heap.size ≤ q) s.heap H locs → lv_has ls 4 [(0, .ref b), (1, .ref (ad 0)), (2, .ref (ad2 0)), (3, .int x3)] → W p l e room_1 s m #[Value.ref b] below meth c H locs 64 1954 Q (F0 m 854 ls [])) {H : Heap} {locs : List Loc} {ls : Array Slot} (hP : va_P D vwCl (wC ad cI σ) H) (hP2 : va_P D vwCl (wM ad2 cI cZ τ) H) (hS : va_S (fun q : Nat => s.heap.size ≤ q) s.heap H locs) (hl : lv_has ls 4 [(0, .ref b), (1, .ref (ad 0)), (2, .ref (ad2 0)), (3, .int x3)]) : W p l e room_1 s m #[Value.ref b] below meth c H locs 64 1954 Q (F0 m 722 ls []) := by
  obtain ⟨hx, hb, hml, hown, hts, hX, hbl, hK, hN, hN2, hdj, hA1, hA2⟩ := id X
  have hbA : ¬ (fun q : Nat => s.heap.size ≤ q) b := Nat.not_le.mpr hbl
  obtain ⟨r, hf1, hf2, hR⟩ := hs
  refine lv_aload_n hx hb dL_law_722 rfl (lv_at hl 1 rfl) ?_
  refine lv_aload_n hx hb dL_law_723 rfl (lv_at hl 0 rfl) ?_
  refine lv_iload_n hx hb dL_law_724 rfl (lv_at hl 3 rfl) ?_
  refine lv_iconst (v := 1) hx hb dL_law_725 rfl ?_
  refine lv_iadd hx hb dL_law_726 ?_
  refine va_sld hx hb hX hbl hbA hS (hin 1 (by decide) (by decide)) dL_law_727 ?_
  refine lv_aload_n hx hb dL_law_728 rfl (lv_at hl 0 rfl) ?_
  refine lv_iload_n hx hb dL_law_729 rfl (lv_at hl 3 rfl) ?_
  refine lv_iconst (v := 2) hx hb dL_law_730 rfl ?_
  refine lv_iadd hx hb dL_law_731 ?_
  refine va_sld hx hb hX hbl hbA hS (hin 2 (by decide) (by decide)) dL_law_732 ?_
  refine lv_aload_n hx hb dL_law_733 rfl (lv_at hl 0 rfl) ?_
  refine lv_iload_n hx hb dL_law_734 rfl (lv_at hl 3 rfl) ?_
  refine lv_iconst (v := 3) hx hb dL_law_735 rfl ?_
  refine lv_iadd hx hb dL_law_736 ?_
  refine va_sld hx hb hX hbl hbA hS (hin 3 (by decide) (by decide)) dL_law_737 ?_
  refine kLi (As := [.int (xs (x3 + 1).toNatClampNeg), .int (xs (x3 + 2).toNatClampNeg), .int (xs (x3 + 3).toNatClampNeg)]) (rest := []) (wd := wC ad cI) (wd2 := wM ad2 cI cZ) (q0 := 0) (ci := 6) ⟨hx, hb, hml, hown, hts⟩ (hK.sub (tys' := [(cI, .int)]) [0] rfl) (c_X6_ofMark (l := l) (D := D) hN hf1) (cw_L_92 hts) rfl rfl hP hP2 (dj_C hdj) hS hA1 hl rfl rfl (Nat.le_of_ble_eq_true rfl) ⟨Nat.le_refl _, Nat.le_refl _⟩ dL_law_738 (fun H locs hP hP2 hS => ?_)
  refine lv_aload_n hx hb dL_law_741 rfl (lv_at hl 2 rfl) ?_
  refine lv_aload_n hx hb dL_law_742 rfl (lv_at hl 0 rfl) ?_
  refine lv_iload_n hx hb dL_law_743 rfl (lv_at hl 3 rfl) ?_
  refine lv_iconst (v := 1) hx hb dL_law_744 rfl ?_
  refine lv_iadd hx hb dL_law_745 ?_
  refine va_sld hx hb hX hbl hbA hS (hin 1 (by decide) (by decide)) dL_law_746 ?_
  refine lv_aload_n hx hb dL_law_747 rfl (lv_at hl 0 rfl) ?_
  refine lv_iload_n hx hb dL_law_748 rfl (lv_at hl 3 rfl) ?_
  refine lv_iconst (v := 2) hx hb dL_law_749 rfl ?_
  refine lv_iadd hx hb dL_law_750 ?_
  refine va_sld hx hb hX hbl hbA hS (hin 2 (by decide) (by decide)) dL_law_751 ?_
  refine lv_aload_n hx hb dL_law_752 rfl (lv_at hl 0 rfl) ?_
  refine lv_iload_n hx hb dL_law_753 rfl (lv_at hl 3 rfl) ?_
  refine lv_iconst (v := 3) hx hb dL_law_754 rfl ?_
  refine lv_iadd hx hb dL_law_755 ?_
  refine va_sld hx hb hX hbl hbA hS (hin 3 (by decide) (by decide)) dL_law_756 ?_
  refine kLi (As := [.int (xs (x3 + 1).toNatClampNeg), .int (xs (x3 + 2).toNatClampNeg), .int (xs (x3 + 3).toNatClampNeg)]) (rest := [.int r]) (wd := wM ad2 cI cZ) (wd2 := wC ad cI) (q0 := 0) (ci := 7) ⟨hx, hb, hml, hown, hts⟩ hK (c_X7_ofMark (l := l) (D := D) hN2 hf2) (cw_L_95 hts) rfl rfl hP2 hP (dj_M hdj) hS hA2 hl rfl rfl (Nat.le_of_ble_eq_true rfl) ⟨Nat.le_refl _, Nat.le_refl _⟩ dL_law_757 (fun H locs hP2 hP hS => ?_)
  refine lv_icmp_eq (tgt := 854) hx hb dL_law_760 (by decide) (fun _ => ?_) (fun hq => absurd rfl hq)
  exact hk hR hP hP2 hS hl
set_option maxHeartbeats 4000000 in
set_option maxRecDepth 100000 in
theorem law_19 (X : lx p s m meth c b L xs D ad ad2 cI cZ) {Q : State → Prop} {σ τ : St} {x3 : Int32} (hin : ∀ j : Int32, 0 ≤ j → j ≤ 6 → vp_in (x3 + j) L) (hs : ∃ (r : Int32) (σ' : St) (τ' : St), f_X6_ofArticle (xs (x3 + 1).toNatClampNeg) (xs (x3 + 2).toNatClampNeg) σ = some (r, σ') ∧ f_X7_ofArticle (xs (x3 + 1).toNatClampNeg) (xs (x3 + 2).toNatClampNeg) τ = some (r, τ') ∧ Rel σ' τ') (hk : ∀ {σ τ : St} {H : Heap} {locs : List Loc} {ls : Array Slot}, Rel σ τ → va_P D vwCl (wC ad cI σ) H → va_P D vwCl (wM ad2 cI cZ τ) H → va_S (fun q : Nat => s.heap.size ≤ q) s.heap H locs → lv_has ls 4 [(0, .ref b), (1, .ref (ad 0)), (2, .ref (ad2 0)), (3, .int x3)] → W p l e room_1 s m #[Value.ref b] below meth c H locs 64 1954 Q (F0 m 854 ls [])) {H : Heap} {locs : List Loc} {ls : Array Slot} (hP : va_P D vwCl (wC ad cI σ) H) (hP2 : va_P D vwCl (wM ad2 cI cZ τ) H) (hS : va_S (fun q : Nat => s.heap.size ≤ q) s.heap H locs) (hl : lv_has ls 4 [(0, .ref b), (1, .ref (ad 0)), (2, .ref (ad2 0)), (3, .int x3)]) : W p l e room_1 s m #[Value.ref b] below meth c H locs 64 1954 Q (F0 m 765 ls []) := by
  obtain ⟨hx, hb, hml, hown, hts, hX, hbl, hK, hN, hN2, hdj, hA1, hA2⟩ := id X
  have hbA : ¬ (fun q : Nat => s.heap.size ≤ q) b := Nat.not_le.mpr hbl
  obtain ⟨r, σ', τ', hf1, hf2, hR⟩ := hs
  refine lv_aload_n hx hb dL_law_765 rfl (lv_at hl 1 rfl) ?_
  refine lv_aload_n hx hb dL_law_766 rfl (lv_at hl 0 rfl) ?_
  refine lv_iload_n hx hb dL_law_767 rfl (lv_at hl 3 rfl) ?_
  refine lv_iconst (v := 1) hx hb dL_law_768 rfl ?_
  refine lv_iadd hx hb dL_law_769 ?_
  refine va_sld hx hb hX hbl hbA hS (hin 1 (by decide) (by decide)) dL_law_770 ?_
  refine lv_aload_n hx hb dL_law_771 rfl (lv_at hl 0 rfl) ?_
  refine lv_iload_n hx hb dL_law_772 rfl (lv_at hl 3 rfl) ?_
  refine lv_iconst (v := 2) hx hb dL_law_773 rfl ?_
  refine lv_iadd hx hb dL_law_774 ?_
  refine va_sld hx hb hX hbl hbA hS (hin 2 (by decide) (by decide)) dL_law_775 ?_
  refine kLi (As := [.int (xs (x3 + 1).toNatClampNeg), .int (xs (x3 + 2).toNatClampNeg)]) (rest := []) (wd := wC ad cI) (wd2 := wM ad2 cI cZ) (q0 := 0) (ci := 6) ⟨hx, hb, hml, hown, hts⟩ (hK.sub (tys' := [(cI, .int)]) [0] rfl) (c_X6_ofArticle (l := l) (D := D) hN hf1) (cw_L_96 hts) rfl rfl hP hP2 (dj_C hdj) hS hA1 hl rfl rfl (Nat.le_of_ble_eq_true rfl) ⟨Nat.le_refl _, Nat.le_refl _⟩ dL_law_776 (fun H locs hP hP2 hS => ?_)
  refine lv_aload_n hx hb dL_law_779 rfl (lv_at hl 2 rfl) ?_
  refine lv_aload_n hx hb dL_law_780 rfl (lv_at hl 0 rfl) ?_
  refine lv_iload_n hx hb dL_law_781 rfl (lv_at hl 3 rfl) ?_
  refine lv_iconst (v := 1) hx hb dL_law_782 rfl ?_
  refine lv_iadd hx hb dL_law_783 ?_
  refine va_sld hx hb hX hbl hbA hS (hin 1 (by decide) (by decide)) dL_law_784 ?_
  refine lv_aload_n hx hb dL_law_785 rfl (lv_at hl 0 rfl) ?_
  refine lv_iload_n hx hb dL_law_786 rfl (lv_at hl 3 rfl) ?_
  refine lv_iconst (v := 2) hx hb dL_law_787 rfl ?_
  refine lv_iadd hx hb dL_law_788 ?_
  refine va_sld hx hb hX hbl hbA hS (hin 2 (by decide) (by decide)) dL_law_789 ?_
  refine kLi (As := [.int (xs (x3 + 1).toNatClampNeg), .int (xs (x3 + 2).toNatClampNeg)]) (rest := [.int r]) (wd := wM ad2 cI cZ) (wd2 := wC ad cI) (q0 := 0) (ci := 7) ⟨hx, hb, hml, hown, hts⟩ hK (c_X7_ofArticle (l := l) (D := D) hN2 hf2) (cw_L_99 hts) rfl rfl hP2 hP (dj_M hdj) hS hA2 hl rfl rfl (Nat.le_of_ble_eq_true rfl) ⟨Nat.le_refl _, Nat.le_refl _⟩ dL_law_790 (fun H locs hP2 hP hS => ?_)
  refine lv_icmp_eq (tgt := 854) hx hb dL_law_793 (by decide) (fun _ => ?_) (fun hq => absurd rfl hq)
  exact hk hR hP hP2 hS hl
set_option maxHeartbeats 4000000 in
set_option maxRecDepth 100000 in
theorem law_20 (X : lx p s m meth c b L xs D ad ad2 cI cZ) {Q : State → Prop} {σ τ : St} {x3 : Int32} (hin : ∀ j : Int32, 0 ≤ j → j ≤ 6 → vp_in (x3 + j) L) (hs : ∃ (r : Int32) (σ' : St) (τ' : St), f_X6_read (xs (x3 + 1).toNatClampNeg) (xs (x3 + 2).toNatClampNeg) σ = some (r, σ') ∧ f_X7_read (xs (x3 + 1).toNatClampNeg) (xs (x3 + 2).toNatClampNeg) τ = some (r, τ') ∧ Rel σ' τ') (hk : ∀ {σ τ : St} {H : Heap} {locs : List Loc} {ls : Array Slot}, Rel σ τ → va_P D vwCl (wC ad cI σ) H → va_P D vwCl (wM ad2 cI cZ τ) H → va_S (fun q : Nat => s.heap.size ≤ q) s.heap H locs → lv_has ls 4 [(0, .ref b), (1, .ref (ad 0)), (2, .ref (ad2 0)), (3, .int x3)] → W p l e room_1 s m #[Value.ref b] below meth c H locs 64 1954 Q (F0 m 854 ls [])) {H : Heap} {locs : List Loc} {ls : Array Slot} (hP : va_P D vwCl (wC ad cI σ) H) (hP2 : va_P D vwCl (wM ad2 cI cZ τ) H) (hS : va_S (fun q : Nat => s.heap.size ≤ q) s.heap H locs) (hl : lv_has ls 4 [(0, .ref b), (1, .ref (ad 0)), (2, .ref (ad2 0)), (3, .int x3)]) : W p l e room_1 s m #[Value.ref b] below meth c H locs 64 1954 Q (F0 m 798 ls []) := by
  obtain ⟨hx, hb, hml, hown, hts, hX, hbl, hK, hN, hN2, hdj, hA1, hA2⟩ := id X
  have hbA : ¬ (fun q : Nat => s.heap.size ≤ q) b := Nat.not_le.mpr hbl
  obtain ⟨r, σ', τ', hf1, hf2, hR⟩ := hs
  refine lv_aload_n hx hb dL_law_798 rfl (lv_at hl 1 rfl) ?_
  refine lv_aload_n hx hb dL_law_799 rfl (lv_at hl 0 rfl) ?_
  refine lv_iload_n hx hb dL_law_800 rfl (lv_at hl 3 rfl) ?_
  refine lv_iconst (v := 1) hx hb dL_law_801 rfl ?_
  refine lv_iadd hx hb dL_law_802 ?_
  refine va_sld hx hb hX hbl hbA hS (hin 1 (by decide) (by decide)) dL_law_803 ?_
  refine lv_aload_n hx hb dL_law_804 rfl (lv_at hl 0 rfl) ?_
  refine lv_iload_n hx hb dL_law_805 rfl (lv_at hl 3 rfl) ?_
  refine lv_iconst (v := 2) hx hb dL_law_806 rfl ?_
  refine lv_iadd hx hb dL_law_807 ?_
  refine va_sld hx hb hX hbl hbA hS (hin 2 (by decide) (by decide)) dL_law_808 ?_
  refine kLi (As := [.int (xs (x3 + 1).toNatClampNeg), .int (xs (x3 + 2).toNatClampNeg)]) (rest := []) (wd := wC ad cI) (wd2 := wM ad2 cI cZ) (q0 := 0) (ci := 6) ⟨hx, hb, hml, hown, hts⟩ (hK.sub (tys' := [(cI, .int)]) [0] rfl) (c_X6_read (l := l) (D := D) hN hf1) (cw_L_100 hts) rfl rfl hP hP2 (dj_C hdj) hS hA1 hl rfl rfl (Nat.le_of_ble_eq_true rfl) ⟨Nat.le_refl _, Nat.le_refl _⟩ dL_law_809 (fun H locs hP hP2 hS => ?_)
  refine lv_aload_n hx hb dL_law_812 rfl (lv_at hl 2 rfl) ?_
  refine lv_aload_n hx hb dL_law_813 rfl (lv_at hl 0 rfl) ?_
  refine lv_iload_n hx hb dL_law_814 rfl (lv_at hl 3 rfl) ?_
  refine lv_iconst (v := 1) hx hb dL_law_815 rfl ?_
  refine lv_iadd hx hb dL_law_816 ?_
  refine va_sld hx hb hX hbl hbA hS (hin 1 (by decide) (by decide)) dL_law_817 ?_
  refine lv_aload_n hx hb dL_law_818 rfl (lv_at hl 0 rfl) ?_
  refine lv_iload_n hx hb dL_law_819 rfl (lv_at hl 3 rfl) ?_
  refine lv_iconst (v := 2) hx hb dL_law_820 rfl ?_
  refine lv_iadd hx hb dL_law_821 ?_
  refine va_sld hx hb hX hbl hbA hS (hin 2 (by decide) (by decide)) dL_law_822 ?_
  refine kLi (As := [.int (xs (x3 + 1).toNatClampNeg), .int (xs (x3 + 2).toNatClampNeg)]) (rest := [.int r]) (wd := wM ad2 cI cZ) (wd2 := wC ad cI) (q0 := 0) (ci := 7) ⟨hx, hb, hml, hown, hts⟩ hK (c_X7_read (l := l) (D := D) hN2 hf2) (cw_L_103 hts) rfl rfl hP2 hP (dj_M hdj) hS hA2 hl rfl rfl (Nat.le_of_ble_eq_true rfl) ⟨Nat.le_refl _, Nat.le_refl _⟩ dL_law_823 (fun H locs hP2 hP hS => ?_)
  refine lv_icmp_eq (tgt := 854) hx hb dL_law_826 (by decide) (fun _ => ?_) (fun hq => absurd rfl hq)
  exact hk hR hP hP2 hS hl
set_option maxHeartbeats 4000000 in
set_option maxRecDepth 100000 in
theorem law_21 (X : lx p s m meth c b L xs D ad ad2 cI cZ) {Q : State → Prop} {σ τ : St} {x3 : Int32} (hin : ∀ j : Int32, 0 ≤ j → j ≤ 6 → vp_in (x3 + j) L) (hs : ∃ (r : Int32) (σ' : St) (τ' : St), f_X6_many (xs (x3 + 1).toNatClampNeg) σ = some (r, σ') ∧ f_X7_many (xs (x3 + 1).toNatClampNeg) τ = some (r, τ') ∧ Rel σ' τ') (hk : ∀ {σ τ : St} {H : Heap} {locs : List Loc} {ls : Array Slot}, Rel σ τ → va_P D vwCl (wC ad cI σ) H → va_P D vwCl (wM ad2 cI cZ τ) H → va_S (fun q : Nat => s.heap.size ≤ q) s.heap H locs → lv_has ls 4 [(0, .ref b), (1, .ref (ad 0)), (2, .ref (ad2 0)), (3, .int x3)] → W p l e room_1 s m #[Value.ref b] below meth c H locs 64 1954 Q (F0 m 854 ls [])) {H : Heap} {locs : List Loc} {ls : Array Slot} (hP : va_P D vwCl (wC ad cI σ) H) (hP2 : va_P D vwCl (wM ad2 cI cZ τ) H) (hS : va_S (fun q : Nat => s.heap.size ≤ q) s.heap H locs) (hl : lv_has ls 4 [(0, .ref b), (1, .ref (ad 0)), (2, .ref (ad2 0)), (3, .int x3)]) : W p l e room_1 s m #[Value.ref b] below meth c H locs 64 1954 Q (F0 m 831 ls []) := by
  obtain ⟨hx, hb, hml, hown, hts, hX, hbl, hK, hN, hN2, hdj, hA1, hA2⟩ := id X
  have hbA : ¬ (fun q : Nat => s.heap.size ≤ q) b := Nat.not_le.mpr hbl
  obtain ⟨r, σ', τ', hf1, hf2, hR⟩ := hs
  refine lv_aload_n hx hb dL_law_831 rfl (lv_at hl 1 rfl) ?_
  refine lv_aload_n hx hb dL_law_832 rfl (lv_at hl 0 rfl) ?_
  refine lv_iload_n hx hb dL_law_833 rfl (lv_at hl 3 rfl) ?_
  refine lv_iconst (v := 1) hx hb dL_law_834 rfl ?_
  refine lv_iadd hx hb dL_law_835 ?_
  refine va_sld hx hb hX hbl hbA hS (hin 1 (by decide) (by decide)) dL_law_836 ?_
  refine kLi (As := [.int (xs (x3 + 1).toNatClampNeg)]) (rest := []) (wd := wC ad cI) (wd2 := wM ad2 cI cZ) (q0 := 0) (ci := 6) ⟨hx, hb, hml, hown, hts⟩ (hK.sub (tys' := [(cI, .int)]) [0] rfl) (c_X6_many (l := l) (D := D) hN hf1) (cw_L_104 hts) rfl rfl hP hP2 (dj_C hdj) hS hA1 hl rfl rfl (Nat.le_of_ble_eq_true rfl) ⟨Nat.le_refl _, Nat.le_refl _⟩ dL_law_837 (fun H locs hP hP2 hS => ?_)
  refine lv_aload_n hx hb dL_law_840 rfl (lv_at hl 2 rfl) ?_
  refine lv_aload_n hx hb dL_law_841 rfl (lv_at hl 0 rfl) ?_
  refine lv_iload_n hx hb dL_law_842 rfl (lv_at hl 3 rfl) ?_
  refine lv_iconst (v := 1) hx hb dL_law_843 rfl ?_
  refine lv_iadd hx hb dL_law_844 ?_
  refine va_sld hx hb hX hbl hbA hS (hin 1 (by decide) (by decide)) dL_law_845 ?_
  refine kLi (As := [.int (xs (x3 + 1).toNatClampNeg)]) (rest := [.int r]) (wd := wM ad2 cI cZ) (wd2 := wC ad cI) (q0 := 0) (ci := 7) ⟨hx, hb, hml, hown, hts⟩ hK (c_X7_many (l := l) (D := D) hN2 hf2) (cw_L_107 hts) rfl rfl hP2 hP (dj_M hdj) hS hA2 hl rfl rfl (Nat.le_of_ble_eq_true rfl) ⟨Nat.le_refl _, Nat.le_refl _⟩ dL_law_846 (fun H locs hP2 hP hS => ?_)
  refine lv_icmp_eq (tgt := 854) hx hb dL_law_849 (by decide) (fun _ => ?_) (fun hq => absurd rfl hq)
  exact hk hR hP hP2 hS hl
theorem lw_idx {i L : Nat} (hL : L ≤ 3584) (hi : i ≤ 4000) (h : ¬ nI L - 7 < nI i) : i + 7 ≤ L := by
  have h7 : (7 : Int32) = nI 7 := rfl
  rw [h7, Int32.lt_iff_toInt_lt, pk_sub_toInt (by omega) (by omega), nI_toInt (by omega)] at h
  omega
theorem lw_in {i L : Nat} (hL : L ≤ 3584) (h : i + 7 ≤ L) : ∀ j : Int32, 0 ≤ j → j ≤ 6 → vp_in (nI i + j) L := by
  intro j h0 h6
  obtain ⟨k, hk, rfl⟩ := nI_of2 (M := 6) (n := 6) (by decide) (by intro q; exact absurd h0 (Int32.not_le.mpr q)) h6
  rw [nI_add]
  exact vp_in_nI (by omega) (by omega)
set_option maxHeartbeats 4000000 in
set_option maxRecDepth 100000 in
theorem law_body (X : lx p s m meth c b L xs D ad ad2 cI cZ) {Q : State → Prop} {σ τ : St} {x3 : Int32} (hR : Rel σ τ) (hin : ∀ j : Int32, 0 ≤ j → j ≤ 6 → vp_in (x3 + j) L) (hk : ∀ {σ τ : St} {H : Heap} {locs : List Loc} {ls : Array Slot}, Rel σ τ → va_P D vwCl (wC ad cI σ) H → va_P D vwCl (wM ad2 cI cZ τ) H → va_S (fun q : Nat => s.heap.size ≤ q) s.heap H locs → lv_has ls 4 [(0, .ref b), (1, .ref (ad 0)), (2, .ref (ad2 0)), (3, .int x3)] → W p l e room_1 s m #[Value.ref b] below meth c H locs 64 1954 Q (F0 m 854 ls [])) {H : Heap} {locs : List Loc} {ls : Array Slot} (hP : va_P D vwCl (wC ad cI σ) H) (hP2 : va_P D vwCl (wM ad2 cI cZ τ) H) (hS : va_S (fun q : Nat => s.heap.size ≤ q) s.heap H locs) (hl : lv_has ls 4 [(0, .ref b), (1, .ref (ad 0)), (2, .ref (ad2 0)), (3, .int x3)]) : W p l e room_1 s m #[Value.ref b] below meth c H locs 64 1954 Q (F0 m 27 ls []) := by
  obtain ⟨hx, hb, hml, hown, hts, hX, hbl, hK, hN, hN2, hdj, hA1, hA2⟩ := id X
  have hbA : ¬ (fun q : Nat => s.heap.size ≤ q) b := Nat.not_le.mpr hbl
  refine lv_aload_n hx hb dL_law_27 rfl (lv_at hl 0 rfl) ?_
  refine lv_iload_n hx hb dL_law_28 rfl (lv_at hl 3 rfl) ?_
  refine va_sld hx hb hX hbl hbA hS (by have h := hin 0 (by decide) (by decide); rwa [Int32.add_zero] at h) dL_law_29 ?_
  refine lv_bipush (v := 31) hx hb dL_law_30 rfl ?_
  refine lv_iand hx hb dL_law_32 ?_
  refine lv_topi (fun y ey => ?_)
  by_cases q0 : y = 0
  · refine lv_tableIn (off := 103) (tgt := 136) hx hb dL_law_33 (by rw [q0]; decide) (by rw [q0]; decide) (by rw [q0]; rfl) (by decide) ?_
    exact law_0 X hin (st_block hR _ _ _ _ _ _) hk hP hP2 hS hl
  by_cases q1 : y = 1
  · refine lv_tableIn (off := 178) (tgt := 211) hx hb dL_law_33 (by rw [q1]; decide) (by rw [q1]; decide) (by rw [q1]; rfl) (by decide) ?_
    exact law_1 X hin (st_words hR _ _) hk hP hP2 hS hl
  by_cases q2 : y = 2
  · refine lv_tableIn (off := 211) (tgt := 244) hx hb dL_law_33 (by rw [q2]; decide) (by rw [q2]; decide) (by rw [q2]; rfl) (by decide) ?_
    exact law_2 X hin (st_line hR _ _ _ _ _) hk hP hP2 hS hl
  by_cases q3 : y = 3
  · refine lv_tableIn (off := 274) (tgt := 307) hx hb dL_law_33 (by rw [q3]; decide) (by rw [q3]; decide) (by rw [q3]; rfl) (by decide) ?_
    exact law_3 X hin (st_back hR) hk hP hP2 hS hl
  by_cases q4 : y = 4
  · refine lv_tableIn (off := 287) (tgt := 320) hx hb dL_law_33 (by rw [q4]; decide) (by rw [q4]; decide) (by rw [q4]; rfl) (by decide) ?_
    exact law_4 X hin (st_erase hR) hk hP hP2 hS hl
  by_cases q5 : y = 5
  · refine lv_tableIn (off := 300) (tgt := 333) hx hb dL_law_33 (by rw [q5]; decide) (by rw [q5]; decide) (by rw [q5]; rfl) (by decide) ?_
    exact law_5 X hin (st_clear hR) hk hP hP2 hS hl
  by_cases q6 : y = 6
  · refine lv_tableIn (off := 313) (tgt := 346) hx hb dL_law_33 (by rw [q6]; decide) (by rw [q6]; decide) (by rw [q6]; rfl) (by decide) ?_
    exact law_6 X hin (st_turn hR) hk hP hP2 hS hl
  by_cases q7 : y = 7
  · refine lv_tableIn (off := 326) (tgt := 359) hx hb dL_law_33 (by rw [q7]; decide) (by rw [q7]; decide) (by rw [q7]; rfl) (by decide) ?_
    exact law_7 X hin (st_ofBlock hR _ _) hk hP hP2 hS hl
  by_cases q8 : y = 8
  · refine lv_tableIn (off := 359) (tgt := 392) hx hb dL_law_33 (by rw [q8]; decide) (by rw [q8]; decide) (by rw [q8]; rfl) (by decide) ?_
    exact law_8 X hin (st_ofLine hR _ _) hk hP hP2 hS hl
  by_cases q9 : y = 9
  · refine lv_tableIn (off := 392) (tgt := 425) hx hb dL_law_33 (by rw [q9]; decide) (by rw [q9]; decide) (by rw [q9]; rfl) (by decide) ?_
    exact law_9 X hin (st_at hR _ _ _) hk hP hP2 hS hl
  by_cases q10 : y = 10
  · refine lv_tableIn (off := 435) (tgt := 468) hx hb dL_law_33 (by rw [q10]; decide) (by rw [q10]; decide) (by rw [q10]; rfl) (by decide) ?_
    exact law_10 X hin (st_reach hR _ _) hk hP hP2 hS hl
  by_cases q11 : y = 11
  · refine lv_tableIn (off := 468) (tgt := 501) hx hb dL_law_33 (by rw [q11]; decide) (by rw [q11]; decide) (by rw [q11]; rfl) (by decide) ?_
    exact law_11 X hin (st_under hR _) hk hP hP2 hS hl
  by_cases q12 : y = 12
  · refine lv_tableIn (off := 491) (tgt := 524) hx hb dL_law_33 (by rw [q12]; decide) (by rw [q12]; decide) (by rw [q12]; rfl) (by decide) ?_
    exact law_12 X hin (st_story hR _) hk hP hP2 hS hl
  by_cases q13 : y = 13
  · refine lv_tableIn (off := 514) (tgt := 547) hx hb dL_law_33 (by rw [q13]; decide) (by rw [q13]; decide) (by rw [q13]; rfl) (by decide) ?_
    exact law_13 X hin (st_takenBy hR _) hk hP hP2 hS hl
  by_cases q14 : y = 14
  · refine lv_tableIn (off := 537) (tgt := 570) hx hb dL_law_33 (by rw [q14]; decide) (by rw [q14]; decide) (by rw [q14]; rfl) (by decide) ?_
    exact law_14 X hin (st_ofStory hR _ _) hk hP hP2 hS hl
  by_cases q15 : y = 15
  · refine lv_tableIn (off := 570) (tgt := 603) hx hb dL_law_33 (by rw [q15]; decide) (by rw [q15]; decide) (by rw [q15]; rfl) (by decide) ?_
    exact law_15 X hin (st_text hR _ _) hk hP hP2 hS hl
  by_cases q16 : y = 16
  · refine lv_tableIn (off := 603) (tgt := 636) hx hb dL_law_33 (by rw [q16]; decide) (by rw [q16]; decide) (by rw [q16]; rfl) (by decide) ?_
    exact law_16 X hin (st_mark hR _ _ _ _) hk hP hP2 hS hl
  by_cases q17 : y = 17
  · refine lv_tableIn (off := 656) (tgt := 689) hx hb dL_law_33 (by rw [q17]; decide) (by rw [q17]; decide) (by rw [q17]; rfl) (by decide) ?_
    exact law_17 X hin (st_unmark hR _ _) hk hP hP2 hS hl
  by_cases q18 : y = 18
  · refine lv_tableIn (off := 689) (tgt := 722) hx hb dL_law_33 (by rw [q18]; decide) (by rw [q18]; decide) (by rw [q18]; rfl) (by decide) ?_
    exact law_18 X hin (st_ofMark hR _ _ _) hk hP hP2 hS hl
  by_cases q19 : y = 19
  · refine lv_tableIn (off := 732) (tgt := 765) hx hb dL_law_33 (by rw [q19]; decide) (by rw [q19]; decide) (by rw [q19]; rfl) (by decide) ?_
    exact law_19 X hin (st_ofArticle hR _ _) hk hP hP2 hS hl
  by_cases q20 : y = 20
  · refine lv_tableIn (off := 765) (tgt := 798) hx hb dL_law_33 (by rw [q20]; decide) (by rw [q20]; decide) (by rw [q20]; rfl) (by decide) ?_
    exact law_20 X hin (st_read hR _ _) hk hP hP2 hS hl
  by_cases q21 : y = 21
  · refine lv_tableIn (off := 798) (tgt := 831) hx hb dL_law_33 (by rw [q21]; decide) (by rw [q21]; decide) (by rw [q21]; rfl) (by decide) ?_
    exact law_21 X hin (st_many hR _) hk hP hP2 hS hl
  refine lv_tableOut (tgt := 854) hx hb dL_law_33 (sw_out 21 (by decide) (fun j hj => ?_)) (by decide) ?_
  · match j, hj with
    | 0, _ => exact q0
    | 1, _ => exact q1
    | 2, _ => exact q2
    | 3, _ => exact q3
    | 4, _ => exact q4
    | 5, _ => exact q5
    | 6, _ => exact q6
    | 7, _ => exact q7
    | 8, _ => exact q8
    | 9, _ => exact q9
    | 10, _ => exact q10
    | 11, _ => exact q11
    | 12, _ => exact q12
    | 13, _ => exact q13
    | 14, _ => exact q14
    | 15, _ => exact q15
    | 16, _ => exact q16
    | 17, _ => exact q17
    | 18, _ => exact q18
    | 19, _ => exact q19
    | 20, _ => exact q20
    | 21, _ => exact q21
    | j + 22, hj => exact absurd hj (by omega)
  · exact hk hR hP hP2 hS hl
set_option maxHeartbeats 4000000 in
set_option maxRecDepth 100000 in
theorem law_loop (hL : L ≤ 3584) (hr : meth.sig.returnType = ret) (hlocks : meth.locks = false) (X : lx p s m meth c b L xs D ad ad2 cI cZ) : ∀ (n i : Nat), i ≤ 4000 → L + 1 ≤ i + n → ∀ {σ τ : St} {H : Heap} {locs : List Loc} {ls : Array Slot} {x3 : Int32}, x3 = nI i → Rel σ τ → va_P D vwCl (wC ad cI σ) H → va_P D vwCl (wM ad2 cI cZ τ) H → va_S (fun q : Nat => s.heap.size ≤ q) s.heap H locs → lv_has ls 4 [(0, .ref b), (1, .ref (ad 0)), (2, .ref (ad2 0)), (3, .int x3)] → W p l e room_1 s m #[Value.ref b] below meth c H locs 64 1954 (lw_Z below #[Value.ref b] s) (F0 m 18 ls []) := by
  obtain ⟨hx, hb, hml, hown, hts, hX, hbl, hK, hN, hN2, hdj, hA1, hA2⟩ := id X
  have hbA : ¬ (fun q : Nat => s.heap.size ≤ q) b := Nat.not_le.mpr hbl
  have fin : ∀ {H : Heap} {locs : List Loc} {ls : Array Slot}, va_S (fun q : Nat => s.heap.size ≤ q) s.heap H locs → W p l e room_1 s m #[Value.ref b] below meth c H locs 64 1954 (lw_Z below #[Value.ref b] s) (F0 m 860 ls []) := by
    intro H locs ls hS
    refine lv_iconst (v := 1) hx hb dL_law_860 rfl ?_
    refine va_forget (fun q hq => hS.2.2 q hq) ?_
    exact lw_ret hx hb hr hlocks dL_law_861
  intro n
  induction n with
  | zero =>
    intro i hi hn σ τ H locs ls x3 ex hR hP hP2 hS hl
    refine lv_iload_n hx hb dL_law_18 rfl (lv_at hl 3 rfl) ?_
    refine lv_aload_n hx hb dL_law_19 rfl (lv_at hl 0 rfl) ?_
    refine va_slen hx hb hX hbl hbA hS dL_law_20 ?_
    refine lv_bipush (v := 7) hx hb dL_law_21 rfl ?_
    refine lv_isub hx hb dL_law_23 ?_
    refine lv_icmp_gt (tgt := 860) hx hb dL_law_24 (by decide) (fun hq => fin hS) (fun hq => ?_)
    subst ex
    exact absurd (lw_idx hL hi hq) (by omega)
  | succ n ih =>
    intro i hi hn σ τ H locs ls x3 ex hR hP hP2 hS hl
    refine lv_iload_n hx hb dL_law_18 rfl (lv_at hl 3 rfl) ?_
    refine lv_aload_n hx hb dL_law_19 rfl (lv_at hl 0 rfl) ?_
    refine va_slen hx hb hX hbl hbA hS dL_law_20 ?_
    refine lv_bipush (v := 7) hx hb dL_law_21 rfl ?_
    refine lv_isub hx hb dL_law_23 ?_
    refine lv_icmp_gt (tgt := 860) hx hb dL_law_24 (by decide) (fun hq => fin hS) (fun hq => ?_)
    subst ex
    have hi7 := lw_idx hL hi hq
    refine law_body X hR (lw_in hL hi7) (fun hR hP hP2 hS hl => ?_) hP hP2 hS hl
    refine lv_iinc (v := nI (i + 7)) (lv' := [(3, .int (nI (i + 7))), (0, .ref b), (1, .ref (ad 0)), (2, .ref (ad2 0))]) hx hb dL_law_854 hl (k := 3) rfl (by rw [← nI_add]; rfl) (by decide) rfl (fun ls hl => ?_)
    refine lv_goto (tgt := 18) hx hb dL_law_857 (by decide) ?_
    exact ih (i + 7) (by omega) (by omega) rfl hR hP hP2 hS (lv_sub hl [1, 2, 3, 0] rfl)
end LAW
