/-! questions about articles -/
set_option maxHeartbeats 1000000 in
theorem st_ofArticle {σ τ : St} (h : Rel σ τ) (a1 a2 : Int32) : ∃ (r : Int32) (σ' : St) (τ' : St), f_X6_ofArticle a1 a2 σ = some (r, σ') ∧ f_X7_ofArticle a1 a2 τ = some (r, τ') ∧ Rel σ' τ' := by
  obtain ⟨n, ln, hB, hW, hs⟩ := id h
  have hn := hB.1
  obtain ⟨σ1, τs, τ1, p1, p2, p3, p4, p5, p6, p7, p8, p9, p10, p11, p12, ⟨S, f, AR, on, hD, hE⟩, p14⟩ := q_all hB hW hs
  have hmn := RT_len f n
  have h2 := E_ar hE.1
  have h3 := E_len hE.1
  unfold f_X6_ofArticle f_X7_ofArticle
  rw [p1, bs_ok, isArt_ok p3 hE.1.2.2.2.1 (by omega)]
  simp only [hasA_ok hE.1.2.2.1, bi_ok, bp_ok, ite01]
  rcases idx_or a1 (show AR.length < 2 ^ 31 by omega) with q | ⟨r, hrm, rfl⟩
  · rw [if_pos q, if_pos q]; exact ⟨-1, σ1, τ1, rfl, rfl, p11⟩
  · rw [if_neg (idx_in (by omega) hrm), if_neg (idx_in (by omega) hrm)]
    have hr : AR[r]? = some AR[r] := List.getElem?_eq_getElem hrm
    generalize AR[r] = l at hr
    have hne : AR ≠ [] := fun e => by rw [e] at hrm; simp at hrm
    have h4 := off_s hr
    have h5 := off_le AR (r + 1)
    have e26 : τ1 26 r = nI (off AR r) := hE.1.2.2.2.2.2.2.1 r (by omega) hne
    have e26' : τ1 26 (r + 1) = nI (off AR r + l.length) := by rw [hE.1.2.2.2.2.2.2.1 (r + 1) (by omega) hne, h4]
    obtain ⟨⟨x, t, g1, g2, g3⟩, g4, g5, g6, g7, g8⟩ := hE.1.2.2.2.2.2.2.2 r l hr
    have hlp : 0 < l.length := by rw [g1]; simp
    have hlm : ∀ s ∈ l, s < (RT f n).length := fun s hs => hE.1.2.1 s (List.mem_flatten.mpr ⟨l, List.mem_of_getElem? hr, hs⟩)
    have hxm : x < (RT f n).length := hlm x (by rw [g1]; exact List.mem_cons_self)
    have e28 : τ1 28 (off AR r) = nI x := by
      have := g6 0 x (by rw [g1]; rfl)
      rwa [Nat.add_zero] at this
    simp only [nI_1, ld24 (show r < 24 by omega), ld25 (show r < 25 by omega), ld25 (show r + 1 < 25 by omega), e26, e26', ld24 (show off AR r < 24 by omega), e28, g2, g5, g3, pk_sub (show off AR r ≤ off AR r + l.length by omega), show off AR r + l.length - off AR r = l.length by omega]
    by_cases q0 : a2 = 0
    · simp only [if_pos q0]; exact ⟨_, σ1, τ1, rfl, rfl, p11⟩
    simp only [if_neg q0]
    by_cases q1 : a2 = 1
    · simp only [if_pos q1]; exact ⟨_, σ1, τ1, rfl, rfl, p11⟩
    simp only [if_neg q1]
    by_cases q2 : a2 = 2
    · simp only [if_pos q2]
      have c := p_at1 p7 hD (nI r) n 0 64 0 (by omega) (by omega)
      have mm := p_sum p7 p8 hD hE hr 0 (fun _ => 1) (Or.inl ⟨rfl, rfl⟩) l.length 0 64 0 (by omega) (by omega)
      rw [List.drop_zero, gl_eq p7 hD hE hr, Nat.add_zero] at mm
      have c' : f_X0_textsOf (nI r) σ1 = _ := c
      have m' : f_X7_sumOf (nI r) 0 τ1 = f_X7_sumOf_L10 τ1 64 (nI r) 0 0 (nI (off AR r)) := by
        unfold f_X7_sumOf
        rw [ld25 (by omega), e26]
      rw [c', m', mm, bi_ok, bi_ok]; exact ⟨_, σ1, τ1, rfl, rfl, p11⟩
    simp only [if_neg q2]
    by_cases q3 : a2 = 3
    · simp only [if_pos q3]
      have c := p_aw1 p7 hD (nI r) n 0 64 0 (by omega) (by omega)
      have mm := p_sum p7 p8 hD hE hr 1 (σ1 13) (Or.inr ⟨rfl, rfl⟩) l.length 0 64 0 (by omega) (by omega)
      rw [List.drop_zero, gl_eq p7 hD hE hr, Nat.add_zero] at mm
      have c' : f_X0_wordsOf (nI r) σ1 = _ := c
      have m' : f_X7_sumOf (nI r) 1 τ1 = f_X7_sumOf_L10 τ1 64 (nI r) 1 0 (nI (off AR r)) := by
        unfold f_X7_sumOf
        rw [ld25 (by omega), e26]
      rw [c', m', mm, bi_ok, bi_ok]; exact ⟨_, σ1, τ1, rfl, rfl, p11⟩
    simp only [if_neg q3]
    by_cases q4 : a2 = 4
    · simp only [if_pos q4]
      obtain ⟨z, z1, z2⟩ := p_pgL p7 hD rfl (fun s hs => (hE.1.2.2.2.2.2.1 s hs).1) (nI r) n 0 64 0 (by omega) (by omega)
      have z1' : f_X0_pagesOf (nI r) σ1 = some z := z1
      have z2' : f_X7_pagesOf (nI r) τ1 = some z := z2
      rw [z1', z2', bi_ok, bi_ok]; exact ⟨_, σ1, τ1, rfl, rfl, p11⟩
    simp only [if_neg q4]
    by_cases q5 : a2 = 5
    · simp only [if_pos q5]
      unfold f_X0_isRing
      simp only [ld24 (show r < 24 by omega), g2, ld24 (show x < 24 by omega), gb0, gb1]
      by_cases z : σ1 29 x = -9
      · simp only [if_pos z, bi_ok, if_true, reduceIte]; exact ⟨_, σ1, τ1, rfl, rfl, p11⟩
      · simp only [if_neg z, bi_ok, o10, if_false, reduceIte]; exact ⟨_, σ1, τ1, rfl, rfl, p11⟩
    simp only [if_neg q5]
    by_cases q6 : a2 = 6
    · simp only [if_pos q6]
      have hlast : l[l.length - 1]? = some l[l.length - 1] := List.getElem?_eq_getElem (by omega)
      generalize l[l.length - 1] = y at hlast
      have hgl : l.getLast? = some y := by rw [List.getLast?_eq_getElem?]; exact hlast
      have hym : y < (RT f n).length := hlm y (List.mem_of_getElem? hlast)
      have e28y : τ1 28 (off AR r + l.length - 1) = nI y := by
        have := g6 (l.length - 1) y hlast
        rwa [show off AR r + (l.length - 1) = off AR r + l.length - 1 by omega] at this
      obtain ⟨z, hz, z1, z2⟩ := p_brk (by omega) hE hym
      rw [g4 y hgl, nI_sub1 (by omega), ld24 (by omega), e28y, z1, z2, bi_ok, bi_ok]
      rcases hz with e | e
      · rw [if_pos e, if_pos e]; exact ⟨_, σ1, τ1, rfl, rfl, p11⟩
      · rw [if_neg (by rw [e]; decide), if_neg (by rw [e]; decide)]; exact ⟨_, σ1, τ1, rfl, rfl, p11⟩
    simp only [if_neg q6]
    exact ⟨-2, σ1, τ1, rfl, rfl, p11⟩
theorem st_read {σ τ : St} (h : Rel σ τ) (a1 a2 : Int32) : ∃ (r : Int32) (σ' : St) (τ' : St), f_X6_read a1 a2 σ = some (r, σ') ∧ f_X7_read a1 a2 τ = some (r, τ') ∧ Rel σ' τ' := by
  obtain ⟨n, ln, hB, hW, hs⟩ := id h
  have hn := hB.1
  obtain ⟨σ1, τs, τ1, p1, p2, p3, p4, p5, p6, p7, p8, p9, p10, p11, p12, ⟨S, f, AR, on, hD, hE⟩, p14⟩ := q_all hB hW hs
  have hmn := RT_len f n
  have h2 := E_ar hE.1
  have h3 := E_len hE.1
  unfold f_X6_read f_X7_read
  rw [p1, bs_ok, isArt_ok p3 hE.1.2.2.2.1 (by omega)]
  simp only [hasA_ok hE.1.2.2.1, bi_ok, bp_ok, ite01, below_v, within_v, lt_23]
  rcases idx_or a1 (show AR.length < 2 ^ 31 by omega) with q | ⟨r, hrm, rfl⟩
  · rw [if_pos q, if_pos q]; exact ⟨-1, σ1, τ1, rfl, rfl, p11⟩
  · rw [if_neg (idx_in (by omega) hrm), if_neg (idx_in (by omega) hrm)]
    by_cases q1 : a2 < 0 ∨ 24 ≤ a2
    · rw [if_pos q1, if_pos q1]; exact ⟨-2, σ1, τ1, rfl, rfl, p11⟩
    · rw [if_neg q1, if_neg q1]
      obtain ⟨i, hi, rfl⟩ := rng (m := 24) (by decide) q1
      have hr : AR[r]? = some AR[r] := List.getElem?_eq_getElem hrm
      generalize AR[r] = l at hr
      have hne : AR ≠ [] := fun e => by rw [e] at hrm; simp at hrm
      have h4 := off_s hr
      have h5 := off_le AR (r + 1)
      have e26 : τ1 26 r = nI (off AR r) := hE.1.2.2.2.2.2.2.1 r (by omega) hne
      obtain ⟨⟨x, t, g1, g2, g3⟩, g4, g5, g6, g7, g8⟩ := hE.1.2.2.2.2.2.2.2 r l hr
      obtain ⟨v, v1, v2⟩ := p_rd p7 p8 hD hE hr l.length 0 64 i (nI x) (by omega) (by omega) hi (fun y hy => by
        rw [g1] at hy
        have : x = y := by simpa using hy
        rw [this])
      have v1' : f_X0_blockAt (nI r) (nI i) σ1 = some v := by
        unfold f_X0_blockAt
        rw [ld24 (by omega), g2]; exact v1
      rw [v1', bi_ok, ld25 (by omega), e26]
      rw [Nat.add_zero] at v2
      exact ⟨v, σ1, τ1, rfl, v2, p11⟩
/-! how many -/
theorem p_mk {n ln : Nat} {σ τ : St} (h : B0 n ln σ τ) (x : Int32) : ∀ (d k g : Nat) (a : Int32), k + d = n → d < g → f_X1_manyOf_L4 σ g x a (nI k) = some (a + sm (fun _ => 1) ((rl k d).filter (fun k => decide (σ 8 k = x)))) ∧ f_X7_manyOfKind_L4 τ g x a (nI k) = some (a + sm (fun _ => 1) ((rl k d).filter (fun k => decide (σ 8 k = x)))) := by
  obtain ⟨hn, hln, c1, c2, c3, c4, hB, -⟩ := h
  intro d
  induction d with
  | zero =>
    intro k g a hk hg
    obtain ⟨g, rfl⟩ : ∃ z, g = z + 1 := ⟨g - 1, by omega⟩
    rw [rl, List.filter_nil, sm, Int32.add_zero]
    constructor
    · rw [f_X1_manyOf_L4, lf_ok, c1, if_pos (nI_le (by omega) (by omega))]
    · rw [f_X7_manyOfKind_L4, lf_ok, c2, if_pos (nI_le (by omega) (by omega))]
  | succ d ih =>
    intro k g a hk hg
    obtain ⟨g, rfl⟩ : ∃ z, g = z + 1 := ⟨g - 1, by omega⟩
    have hk1 : k < n := by omega
    obtain ⟨i1, i2⟩ := ih (k + 1) g (if σ 8 k = x then a + 1 else a) (by omega) (by omega)
    rw [sum_step, f_X1_manyOf_L4, f_X7_manyOfKind_L4]
    simp only [lf_ok, c1, c2, if_neg (nle_of hk1 (show n < 2 ^ 31 by omega)), ld24 (show k < 24 by omega), (hB k hk1).2.1, nI_1, i32_add0]
    rw [← i1]
    constructor
    · by_cases q : σ 8 k = x
      · rw [if_pos q, if_pos q]
      · rw [if_neg q, if_neg q]
    · rw [i1, ← i2]
      by_cases q : σ 8 k = x
      · rw [if_pos q, if_pos q]
      · rw [if_neg q, if_neg q]
set_option maxHeartbeats 1000000 in
theorem p_mj {n ln : Nat} {σ τ : St} (h : B0 n ln σ τ) (h17 : ∀ j, j < n → τ 17 j = σ 22 j ∧ (σ 22 j = -9 ∨ σ 8 j = 1)) : ∀ (d k g : Nat) (a : Int32), k + d = n → d < g → ∃ r : Int32, f_X5_manyJoined_L4 σ g a (nI k) = some r ∧ f_X7_manyTexts_L4 τ g 1 a (nI k) = some r := by
  obtain ⟨hn, hln, c1, c2, c3, c4, hB, -⟩ := h
  intro d
  induction d with
  | zero =>
    intro k g a hk hg
    obtain ⟨g, rfl⟩ : ∃ z, g = z + 1 := ⟨g - 1, by omega⟩
    refine ⟨a, ?_, ?_⟩
    · rw [f_X5_manyJoined_L4, lf_ok, c1, if_pos (nI_le (by omega) (by omega))]
    · rw [f_X7_manyTexts_L4, lf_ok, c2, if_pos (nI_le (by omega) (by omega))]
  | succ d ih =>
    intro k g a hk hg
    obtain ⟨g, rfl⟩ : ∃ z, g = z + 1 := ⟨g - 1, by omega⟩
    have hk1 : k < n := by omega
    obtain ⟨e17, hor⟩ := h17 k hk1
    rw [f_X5_manyJoined_L4, f_X7_manyTexts_L4]
    simp only [lf_ok, c1, c2, if_neg (nle_of hk1 (show n < 2 ^ 31 by omega)), ld24 (show k < 24 by omega), (hB k hk1).2.1, e17, f_X7_manyTexts_B51, f_X7_manyTexts_B55, f_X7_manyTexts_B56, nI_1, i32_add0, o10, eq_self, if_true, if_false, reduceIte]
    have i1 := ih (k + 1) g a (by omega) (by omega)
    have i2 := ih (k + 1) g (a + 1) (by omega) (by omega)
    by_cases q : σ 22 k = -9
    · simp only [if_pos q, ite_self]; exact i1
    · simp only [if_neg q, if_pos (hor.resolve_left q)]; exact i2
theorem p_ml {n ln : Nat} {σ τ : St} (h : B0 n ln σ τ) : ∀ (d k g : Nat) (a : Int32), k + d = n → d < g → f_X7_manyTexts_L4 τ g 0 a (nI k) = some (a + sm (fun _ => 1) ((rl k d).filter (fun k => decide (σ 8 k = 1 ∧ τ 16 k = -9)))) := by
  obtain ⟨hn, hln, c1, c2, c3, c4, hB, -⟩ := h
  intro d
  induction d with
  | zero =>
    intro k g a hk hg
    obtain ⟨g, rfl⟩ : ∃ z, g = z + 1 := ⟨g - 1, by omega⟩
    rw [rl, List.filter_nil, sm, Int32.add_zero, f_X7_manyTexts_L4, lf_ok, c2, if_pos (nI_le (by omega) (by omega))]
  | succ d ih =>
    intro k g a hk hg
    obtain ⟨g, rfl⟩ : ∃ z, g = z + 1 := ⟨g - 1, by omega⟩
    have hk1 : k < n := by omega
    rw [sum_step, ← ih (k + 1) g _ (by omega) (by omega), f_X7_manyTexts_L4]
    simp only [lf_ok, c2, if_neg (nle_of hk1 (show n < 2 ^ 31 by omega)), ld24 (show k < 24 by omega), (hB k hk1).2.1, f_X7_manyTexts_B51, f_X7_manyTexts_B55, f_X7_manyTexts_B56, nI_1, i32_add0, o10, eq_self, if_true, if_false, reduceIte]
    by_cases q1 : σ 8 k = 1
    · rw [if_pos q1]
      by_cases q2 : τ 16 k = -9
      · rw [if_pos q2, if_pos ⟨q1, q2⟩]
      · rw [if_neg q2, if_neg (fun z => q2 z.2)]
    · rw [if_neg q1, if_neg (fun z => q1 z.1)]
theorem p_left {n ln : Nat} {σ τ : St} {S : List Nat} {f : Nat → Int32} (h : B0 n ln σ τ) (hD : D1 n σ τ S f) : ∃ r : Int32, f_X5_manyLeftOver σ = some r ∧ f_X7_manyTexts 0 τ = some r := by
  have hn := h.1
  have hmn := RT_len f n
  have c := (p_mk h 0 n 0 64 0 (by omega) (by omega)).1
  have mm := p_ml h n 0 64 0 (by omega) (by omega)
  rw [sm_one, Int32.zero_add] at c mm
  have hcnt : (RT f n).length = ((rl 0 n).filter (fun k => decide (σ 8 k = 0))).length + ((rl 0 n).filter (fun k => decide (σ 8 k = 1 ∧ τ 16 k = -9))).length := by
    have e := sm_eq (fun _ => 1) (RT f n) ((rl 0 n).filter (fun k => decide (σ 8 k = 0)) ++ (rl 0 n).filter (fun k => decide (σ 8 k = 1 ∧ τ 16 k = -9))) (RT_nodup f n) (by
      rw [List.nodup_append]
      refine ⟨List.Pairwise.filter _ (rl_nodup n 0), List.Pairwise.filter _ (rl_nodup n 0), fun a ha b hb e => ?_⟩
      subst e
      have h1 : σ 8 a = 0 := by simpa using (List.mem_filter.mp ha).2
      have h2 : σ 8 a = 1 ∧ τ 16 a = -9 := by simpa using (List.mem_filter.mp hb).2
      exact absurd (h1.symm.trans h2.1) (by decide)) (fun y => by
      rw [RT_mem, List.mem_append, List.mem_filter, List.mem_filter, rl_mem]
      constructor
      · rintro ⟨h1, h2⟩
        obtain ⟨-, -, -, -, -, d6, d7, d8, d9⟩ := hD.2.1 y h1
        rcases kd3 h h1 with k | k | k
        · exact Or.inl ⟨⟨Nat.zero_le _, by omega⟩, by simpa using k⟩
        · exact Or.inr ⟨⟨Nat.zero_le _, by omega⟩, by simpa using ⟨k, (d7 k).mpr h2⟩⟩
        · exact absurd h2 (d9 k)
      · rintro (⟨⟨-, h1⟩, h2⟩ | ⟨⟨-, h1⟩, h2⟩)
        · have h2' : σ 8 y = 0 := by simpa using h2
          obtain ⟨-, -, -, -, -, d6, d7, d8, d9⟩ := hD.2.1 y (by omega)
          exact ⟨by omega, d8 h2'⟩
        · have h2' : σ 8 y = 1 ∧ τ 16 y = -9 := by simpa using h2
          obtain ⟨-, -, -, -, -, d6, d7, d8, d9⟩ := hD.2.1 y (by omega)
          exact ⟨by omega, (d7 h2'.1).mp h2'.2⟩)
    rw [sm_one, sm_one, List.length_append] at e
    have hle : ((rl 0 n).filter (fun k => decide (σ 8 k = 0))).length ≤ n ∧ ((rl 0 n).filter (fun k => decide (σ 8 k = 1 ∧ τ 16 k = -9))).length ≤ n := by
      have hrl : (rl 0 n).length ≤ n := nodup_len n _ (rl_nodup n 0) (fun y hy => by have := (rl_mem y n 0).mp hy; omega)
      exact ⟨Nat.le_trans (List.length_filter_le _ _) hrl, Nat.le_trans (List.length_filter_le _ _) hrl⟩
    exact (nI_eq (by omega) (by omega)).mp e
  have c' : f_X1_manyOf 0 σ = some (nI ((rl 0 n).filter (fun k => decide (σ 8 k = 0))).length) := c
  have m' : f_X7_manyTexts 0 τ = some (nI ((rl 0 n).filter (fun k => decide (σ 8 k = 1 ∧ τ 16 k = -9))).length) := mm
  refine ⟨_, ?_, m'⟩
  unfold f_X5_manyLeftOver
  rw [lf_ok, hD.2.2.2.2.2.2.1, c', bi_ok, hcnt, pk_sub (by omega)]
  congr 2
  omega
theorem p_mr {m : Nat} {AR : List (List Nat)} {on : Nat → Int32} {σ τ : St} (hm : m ≤ 24) (h : D2 m AR on σ τ) : ∀ (d k g : Nat) (a : Int32), k + d = AR.length → d < g → ∃ r : Int32, f_X0_manyRings_L4 σ g a (nI k) = some r ∧ f_X7_manyRings_L4 τ g a (nI k) = some r := by
  have h2 := E_ar h.1
  have h3 := E_len h.1
  intro d
  induction d with
  | zero =>
    intro k g a hk hg
    obtain ⟨g, rfl⟩ : ∃ z, g = z + 1 := ⟨g - 1, by omega⟩
    refine ⟨a, ?_, ?_⟩
    · rw [f_X0_manyRings_L4, lf_ok, h.1.2.2.1, if_pos (nI_le (by omega) (by omega))]
    · rw [f_X7_manyRings_L4, lf_ok, h.1.2.2.2.1, if_pos (nI_le (by omega) (by omega))]
  | succ d ih =>
    intro k g a hk hg
    obtain ⟨g, rfl⟩ : ∃ z, g = z + 1 := ⟨g - 1, by omega⟩
    have hk1 : k < AR.length := by omega
    have hr : AR[k]? = some AR[k] := List.getElem?_eq_getElem hk1
    generalize AR[k] = l at hr
    obtain ⟨⟨x, t, g1, g2, g3⟩, -⟩ := h.1.2.2.2.2.2.2.2 k l hr
    have hxm : x < m := h.1.2.1 x (List.mem_flatten.mpr ⟨l, List.mem_of_getElem? hr, by rw [g1]; exact List.mem_cons_self⟩)
    rw [f_X0_manyRings_L4, f_X7_manyRings_L4]
    unfold f_X0_isRing
    simp only [lf_ok, h.1.2.2.1, h.1.2.2.2.1, if_neg (nle_of hk1 (show AR.length < 2 ^ 31 by omega)), ld24 (show k < 24 by omega), g2, ld24 (show x < 24 by omega), g3, gb0, gb1, nI_1, i32_add0]
    by_cases q : σ 29 x = -9
    · simp only [if_pos q, bi_ok, if_true, reduceIte]; exact ih (k + 1) g a (by omega) (by omega)
    · simp only [if_neg q, bi_ok, o10, if_false, reduceIte]; exact ih (k + 1) g (a + 1) (by omega) (by omega)
theorem p_mb {m : Nat} {AR : List (List Nat)} {on : Nat → Int32} {σ τ : St} (hm : m ≤ 24) (h : D2 m AR on σ τ) (h5 : σ 5 3 = nI m) (h5' : τ 0 21 = nI m) : ∀ (d k g : Nat) (a : Int32), k + d = m → d < g → ∃ r : Int32, f_X0_manyBroken_L4 σ g a (nI k) = some r ∧ f_X7_manyBroken_L4 τ g a (nI k) = some r := by
  intro d
  induction d with
  | zero =>
    intro k g a hk hg
    obtain ⟨g, rfl⟩ : ∃ z, g = z + 1 := ⟨g - 1, by omega⟩
    refine ⟨a, ?_, ?_⟩
    · rw [f_X0_manyBroken_L4, lf_ok, h5, if_pos (nI_le (by omega) (by omega))]
    · rw [f_X7_manyBroken_L4, lf_ok, h5', if_pos (nI_le (by omega) (by omega))]
  | succ d ih =>
    intro k g a hk hg
    obtain ⟨g, rfl⟩ : ∃ z, g = z + 1 := ⟨g - 1, by omega⟩
    have hk1 : k < m := by omega
    obtain ⟨r, hr, r1, r2⟩ := p_brk hm h hk1
    rw [f_X0_manyBroken_L4, f_X7_manyBroken_L4]
    simp only [lf_ok, h5, h5', if_neg (nle_of hk1 (show m < 2 ^ 31 by omega)), r1, r2, bi_ok, nI_1, i32_add0]
    rcases hr with e | e
    · rw [if_pos e, if_pos e]; exact ih (k + 1) g a (by omega) (by omega)
    · rw [if_neg (by rw [e]; decide), if_neg (by rw [e]; decide)]; exact ih (k + 1) g (a + 1) (by omega) (by omega)
set_option maxHeartbeats 1000000 in
theorem p_mi {n ln : Nat} {σ τ : St} {S : List Nat} {f : Nat → Int32} {AR : List (List Nat)} {on : Nat → Int32} (h : B0 n ln σ τ) (hD : D1 n σ τ S f) (hE : D2 (RT f n).length AR on σ τ) : ∀ (d k g : Nat) (a : Int32), k + d = n → d < g → ∃ r : Int32, f_X0_manyIdleFrom_L4 σ g a (nI k) = some r ∧ f_X7_manyIdle_L4 τ g a (nI k) = some r := by
  have hB := h
  have hmn := RT_len f n
  obtain ⟨hn, hln, c1, c2, c3, c4, hBk, hR, hM, hL⟩ := h
  intro d
  induction d with
  | zero =>
    intro k g a hk hg
    obtain ⟨g, rfl⟩ : ∃ z, g = z + 1 := ⟨g - 1, by omega⟩
    refine ⟨a, ?_, ?_⟩
    · rw [f_X0_manyIdleFrom_L4, lf_ok, c1, if_pos (nI_le (by omega) (by omega))]
    · rw [f_X7_manyIdle_L4, lf_ok, c2, if_pos (nI_le (by omega) (by omega))]
  | succ d ih =>
    intro k g a hk hg
    obtain ⟨g, rfl⟩ : ∃ z, g = z + 1 := ⟨g - 1, by omega⟩
    have hk1 : k < n := by omega
    have hm := hasM σ k 1 (by omega) (by decide)
    rw [← nI_lit1] at hm
    obtain ⟨-, ⟨m1, -, -⟩, m3⟩ := hM k hk1
    have i1 := ih (k + 1) g a (by omega) (by omega)
    have i2 := ih (k + 1) g (a + 1) (by omega) (by omega)
    rw [f_X0_manyIdleFrom_L4, f_X7_manyIdle_L4]
    simp only [lf_ok, c1, c2, if_neg (nle_of hk1 (show n < 2 ^ 31 by omega)), ld24 (show k < 24 by omega), hm, bi_ok, (hBk k hk1).2.1, nI_21, ld48 (show 2 * k + 1 < 48 by omega), m1, f_X7_manyIdle_B57, f_X7_manyIdle_B58, nI_1, i32_add0, o10, eq_self, if_true, if_false, reduceIte, ite01]
    by_cases q : σ 8 k = 2
    · rw [if_pos q, if_pos (m3 q).2]; exact i1
    · rw [if_neg q]
      by_cases q2 : σ 14 (2 * k + 1) = -9
      · rw [if_pos q2, if_pos q2]; exact i1
      · rw [if_neg q2, if_neg q2]
        obtain ⟨s, b, s1, s2, s3, s4⟩ := sto_rng hn hD.1 hk1 ((hD.2.1 k hk1).2.2.2.2.2.1 q)
        have e24 : σ 24 k = nI s := by rw [(hD.2.1 k hk1).2.2.2.1]; exact s3
        have e21 : τ 21 k = nI s := by rw [(hD.2.1 k hk1).2.2.2.2.1]; exact s3
        rw [e24, e21, if_neg (nI_ne9 (by omega)), ld24 (by omega), ld24 (by omega), (hE.2.2 s s2).2.2.2]
        by_cases q3 : σ 29 s = -9
        · rw [if_pos q3, if_pos q3]; exact i2
        · rw [if_neg q3, if_neg q3]; exact i1
set_option maxHeartbeats 1000000 in
theorem p_mlp {n ln : Nat} {σ τ : St} (h : B0 n ln σ τ) (h15 : ∀ j, j < n → τ 15 j = σ 21 j) : ∀ (d k g : Nat) (a : Int32), k + d = n → d < g → ∃ r : Int32, f_X5_manyLoosePictures_L4 σ g a (nI k) = some r ∧ f_X7_manyLost_L4 τ g a (nI k) = some r := by
  obtain ⟨hn, hln, c1, c2, c3, c4, hB, -⟩ := h
  intro d
  induction d with
  | zero =>
    intro k g a hk hg
    obtain ⟨g, rfl⟩ : ∃ z, g = z + 1 := ⟨g - 1, by omega⟩
    refine ⟨a, ?_, ?_⟩
    · rw [f_X5_manyLoosePictures_L4, lf_ok, c1, if_pos (nI_le (by omega) (by omega))]
    · rw [f_X7_manyLost_L4, lf_ok, c2, if_pos (nI_le (by omega) (by omega))]
  | succ d ih =>
    intro k g a hk hg
    obtain ⟨g, rfl⟩ : ∃ z, g = z + 1 := ⟨g - 1, by omega⟩
    have hk1 : k < n := by omega
    have i1 := ih (k + 1) g a (by omega) (by omega)
    have i2 := ih (k + 1) g (a + 1) (by omega) (by omega)
    rw [f_X5_manyLoosePictures_L4, f_X7_manyLost_L4]
    simp only [lf_ok, c1, c2, if_neg (nle_of hk1 (show n < 2 ^ 31 by omega)), ld24 (show k < 24 by omega), (hB k hk1).2.1, h15 k hk1, f_X7_manyLost_B38, nI_1, i32_add0]
    by_cases q1 : σ 8 k = 2 <;> by_cases q2 : σ 21 k = -9 <;> simp only [q1, q2, if_true, if_false, reduceIte] <;> first | exact i1 | exact i2
set_option maxHeartbeats 1000000 in
theorem st_many {σ τ : St} (h : Rel σ τ) (a1 : Int32) : ∃ (r : Int32) (σ' : St) (τ' : St), f_X6_many a1 σ = some (r, σ') ∧ f_X7_many a1 τ = some (r, τ') ∧ Rel σ' τ' := by
  obtain ⟨n, ln, hB, hW, hs⟩ := id h
  have hn := hB.1
  obtain ⟨σ1, τs, τ1, p1, p2, p3, p4, p5, p6, p7, p8, p9, p10, p11, p12, ⟨S, f, AR, on, hD, hE⟩, p14⟩ := q_all hB hW hs
  have hmn := RT_len f n
  have h2 := E_ar hE.1
  have h3 := E_len hE.1
  obtain ⟨-, -, c1, c2, c3, c4, -⟩ := id p7
  unfold f_X6_many f_X7_many
  rw [p1, p3, bs_ok, bs_ok]
  simp only [lf_ok, c1, c2, c3, c4, hD.2.2.2.2.2.2.1, hD.2.2.2.2.2.2.2.1, hE.1.2.2.1, hE.1.2.2.2.1]
  by_cases q0 : a1 = 0
  · simp only [if_pos q0]; exact ⟨_, σ1, τ1, rfl, rfl, p11⟩
  simp only [if_neg q0]
  by_cases q1 : a1 = 1
  · simp only [if_pos q1]; exact ⟨_, σ1, τ1, rfl, rfl, p11⟩
  simp only [if_neg q1]
  have mk : ∀ x : Int32, ∃ r : Int32, f_X1_manyOf x σ1 = some r ∧ f_X7_manyOfKind x τ1 = some r := fun x => by
    obtain ⟨z1, z2⟩ := p_mk p7 x n 0 64 0 (by omega) (by omega)
    exact ⟨_, z1, z2⟩
  by_cases q2 : a1 = 2
  · simp only [if_pos q2]
    obtain ⟨r, r1, r2⟩ := mk 0
    rw [r1, r2, bi_ok, bi_ok]; exact ⟨_, σ1, τ1, rfl, rfl, p11⟩
  simp only [if_neg q2]
  by_cases q3 : a1 = 3
  · simp only [if_pos q3]
    obtain ⟨r, r1, r2⟩ := mk 1
    rw [r1, r2, bi_ok, bi_ok]; exact ⟨_, σ1, τ1, rfl, rfl, p11⟩
  simp only [if_neg q3]
  by_cases q4 : a1 = 4
  · simp only [if_pos q4]; exact ⟨_, σ1, τ1, rfl, rfl, p11⟩
  simp only [if_neg q4]
  by_cases q5 : a1 = 5
  · simp only [if_pos q5]
    obtain ⟨r, r1, r2⟩ := p_mj p7 (fun j hj => ⟨(hD.2.1 j hj).2.1, (hD.2.1 j hj).2.2.1⟩) n 0 64 0 (by omega) (by omega)
    have r1' : f_X5_manyJoined σ1 = some r := r1
    have r2' : f_X7_manyTexts 1 τ1 = some r := r2
    rw [r1', r2', bi_ok, bi_ok]; exact ⟨_, σ1, τ1, rfl, rfl, p11⟩
  simp only [if_neg q5]
  by_cases q6 : a1 = 6
  · simp only [if_pos q6]
    obtain ⟨r, r1, r2⟩ := p_left p7 hD
    rw [r1, r2, bi_ok, bi_ok]; exact ⟨_, σ1, τ1, rfl, rfl, p11⟩
  simp only [if_neg q6]
  by_cases q7 : a1 = 7
  · simp only [if_pos q7]; exact ⟨_, σ1, τ1, rfl, rfl, p11⟩
  simp only [if_neg q7]
  by_cases q8 : a1 = 8
  · simp only [if_pos q8]
    obtain ⟨r, r1, r2⟩ := p_mr (by omega) hE AR.length 0 64 0 (by omega) (by omega)
    have r1' : f_X0_manyRings σ1 = some r := r1
    have r2' : f_X7_manyRings τ1 = some r := r2
    rw [r1', r2', bi_ok, bi_ok]; exact ⟨_, σ1, τ1, rfl, rfl, p11⟩
  simp only [if_neg q8]
  by_cases q9 : a1 = 9
  · simp only [if_pos q9]
    obtain ⟨r, r1, r2⟩ := p_mb (by omega) hE hD.2.2.2.2.2.2.1 hD.2.2.2.2.2.2.2.1 (RT f n).length 0 64 0 (by omega) (by omega)
    have r1' : f_X0_manyBroken σ1 = some r := r1
    have r2' : f_X7_manyBroken τ1 = some r := r2
    rw [r1', r2', bi_ok, bi_ok]; exact ⟨_, σ1, τ1, rfl, rfl, p11⟩
  simp only [if_neg q9]
  by_cases q10 : a1 = 10
  · simp only [if_pos q10]
    obtain ⟨r, r1, r2⟩ := p_mi p7 hD hE n 0 64 0 (by omega) (by omega)
    have r1' : f_X0_manyIdleFrom σ1 = some r := r1
    have r2' : f_X7_manyIdle τ1 = some r := r2
    rw [r1', r2', bi_ok, bi_ok]; exact ⟨_, σ1, τ1, rfl, rfl, p11⟩
  simp only [if_neg q10]
  by_cases q11 : a1 = 11
  · simp only [if_pos q11]
    obtain ⟨r, r1, r2⟩ := p_mlp p7 (fun j hj => (hD.2.1 j hj).1) n 0 64 0 (by omega) (by omega)
    have r1' : f_X5_manyLoosePictures σ1 = some r := r1
    have r2' : f_X7_manyLost τ1 = some r := r2
    rw [r1', r2', bi_ok, bi_ok]; exact ⟨_, σ1, τ1, rfl, rfl, p11⟩
  simp only [if_neg q11]
  exact ⟨-2, σ1, τ1, rfl, rfl, p11⟩
