/-! questions about stories -/
set_option maxHeartbeats 1000000 in
theorem p_picL {n ln : Nat} {σ τ : St} (h : B0 n ln σ τ) (hst : ∀ j, j < n → τ 21 j = σ 24 j) (s : Int32) : ∀ (d k g : Nat) (a : Int32), k + d = n → d < g → ∃ r : Int32, f_X5_picturesOf_L4 σ g s a (nI k) = some r ∧ f_X7_manyIn_L5 τ g s 1 a (nI k) = some r := by
  obtain ⟨hn, hln, c1, c2, c3, c4, hB, -⟩ := h
  intro d
  induction d with
  | zero =>
    intro k g a hk hg
    obtain ⟨g, rfl⟩ : ∃ z, g = z + 1 := ⟨g - 1, by omega⟩
    refine ⟨a, ?_, ?_⟩
    · rw [f_X5_picturesOf_L4, lf_ok, c1, if_pos (nI_le (by omega) (by omega))]
    · rw [f_X7_manyIn_L5, lf_ok, c2, if_pos (nI_le (by omega) (by omega))]
  | succ d ih =>
    intro k g a hk hg
    obtain ⟨g, rfl⟩ : ∃ z, g = z + 1 := ⟨g - 1, by omega⟩
    have hk1 : k < n := by omega
    have hk24 : k < 24 := by omega
    rw [f_X5_picturesOf_L4, f_X7_manyIn_L5]
    simp only [lf_ok, c1, c2, if_neg (nle_of hk1 (show n < 2 ^ 31 by omega)), ld24 hk24, (hB k hk1).2.1, hst k hk1, f_X7_manyIn_B54, f_X7_manyIn_B77, nI_1, o10, eq_self, if_true, if_false, reduceIte, i32_add0]
    have i1 := ih (k + 1) g a (by omega) (by omega)
    have i2 := ih (k + 1) g (a + 1) (by omega) (by omega)
    by_cases q1 : σ 8 k = 2 <;> by_cases q2 : σ 24 k = s <;> simp only [q1, q2, if_true, if_false, reduceIte] <;> first | exact i1 | exact i2
set_option maxHeartbeats 1000000 in
theorem p_jndL {n ln : Nat} {σ τ : St} (h : B0 n ln σ τ) (hst : ∀ j, j < n → τ 21 j = σ 24 j ∧ τ 17 j = σ 22 j) (s : Int32) : ∀ (d k g : Nat) (a : Int32), k + d = n → d < g → ∃ r : Int32, f_X5_joinedOf_L4 σ g s a (nI k) = some r ∧ f_X7_manyIn_L5 τ g s 0 a (nI k) = some r := by
  obtain ⟨hn, hln, c1, c2, c3, c4, hB, -⟩ := h
  intro d
  induction d with
  | zero =>
    intro k g a hk hg
    obtain ⟨g, rfl⟩ : ∃ z, g = z + 1 := ⟨g - 1, by omega⟩
    refine ⟨a, ?_, ?_⟩
    · rw [f_X5_joinedOf_L4, lf_ok, c1, if_pos (nI_le (by omega) (by omega))]
    · rw [f_X7_manyIn_L5, lf_ok, c2, if_pos (nI_le (by omega) (by omega))]
  | succ d ih =>
    intro k g a hk hg
    obtain ⟨g, rfl⟩ : ∃ z, g = z + 1 := ⟨g - 1, by omega⟩
    have hk1 : k < n := by omega
    have hk24 : k < 24 := by omega
    rw [f_X5_joinedOf_L4, f_X7_manyIn_L5]
    simp only [lf_ok, c1, c2, if_neg (nle_of hk1 (show n < 2 ^ 31 by omega)), ld24 hk24, (hst k hk1).1, (hst k hk1).2, f_X7_manyIn_B54, f_X7_manyIn_B77, nI_1, o10, eq_self, if_true, if_false, reduceIte, i32_add0]
    have i1 := ih (k + 1) g a (by omega) (by omega)
    have i2 := ih (k + 1) g (a + 1) (by omega) (by omega)
    by_cases q1 : σ 22 k = -9 <;> by_cases q2 : σ 24 k = s <;> simp only [q1, q2, if_true, if_false, reduceIte] <;> first | exact i1 | exact i2
theorem p_brk {m : Nat} {AR : List (List Nat)} {on : Nat → Int32} {σ τ : St} (hm : m ≤ 24) (h : D2 m AR on σ τ) {s : Nat} (hs : s < m) : ∃ r : Int32, (r = 0 ∨ r = 1) ∧ f_X0_isBroken (nI s) σ = some r ∧ f_X7_isBroken (nI s) τ = some r := by
  obtain ⟨a1, a2, a3, a4⟩ := h.2.2 s hs
  unfold f_X0_isBroken f_X7_isBroken
  simp only [ld24 (show s < 24 by omega), a1, a2, a3, gb0, gb1]
  by_cases q1 : on s = -9
  · rw [if_pos q1, if_pos q1, if_pos rfl]; exact ⟨0, Or.inl rfl, rfl, rfl⟩
  · rw [if_neg q1, if_neg q1, if_neg (show ¬ (1 : Int32) = 0 by decide)]
    by_cases q2 : σ 28 s = -9
    · rw [if_pos q2]; exact ⟨1, Or.inr rfl, rfl, rfl⟩
    · rw [if_neg q2]; exact ⟨0, Or.inl rfl, rfl, rfl⟩
theorem st_under {σ τ : St} (h : Rel σ τ) (a1 : Int32) : ∃ (r : Int32) (σ' : St), f_X6_under a1 σ = some (r, σ') ∧ f_X7_under a1 τ = some r ∧ Rel σ' τ := by
  obtain ⟨n, ln, hB, hW, hs⟩ := id h
  obtain ⟨hn, hln, c1, c2, c3, c4, hBk, -⟩ := id hB
  unfold f_X6_under f_X7_under
  simp only [has_ok c1, isBlock_ok c2 hn, bi_ok, ite01]
  rcases idx_or a1 (show n < 2 ^ 31 by omega) with q | ⟨k, hk, rfl⟩
  · rw [if_pos q, if_pos q]; exact ⟨-1, σ, rfl, rfl, h⟩
  · rw [if_neg (idx_in (by omega) hk), if_neg (idx_in (by omega) hk)]
    simp only [ld24 (show k < 24 by omega), (hBk k hk).2.1]
    by_cases q0 : σ 8 k = 0
    · rw [if_pos q0, if_pos q0]; exact ⟨-3, σ, rfl, rfl, h⟩
    · rw [if_neg q0, if_neg q0]
      obtain ⟨σ1, τs, τ1, p1, p2, p3, p4, p5, p6, p7, p8, p9, p10, p11, p12, p13, p14⟩ := q_all hB hW hs
      rw [p1, bs_ok, p14 k hk, bi_ok]
      exact ⟨_, σ1, rfl, rfl, p9⟩
theorem st_story {σ τ : St} (h : Rel σ τ) (a1 : Int32) : ∃ (r : Int32) (σ' : St) (τ' : St), f_X6_story a1 σ = some (r, σ') ∧ f_X7_story a1 τ = some (r, τ') ∧ Rel σ' τ' := by
  obtain ⟨n, ln, hB, hW, hs⟩ := id h
  obtain ⟨hn, hln, c1, c2, c3, c4, hBk, -⟩ := id hB
  unfold f_X6_story f_X7_story
  simp only [has_ok c1, isBlock_ok c2 hn, bi_ok, ite01]
  rcases idx_or a1 (show n < 2 ^ 31 by omega) with q | ⟨k, hk, rfl⟩
  · rw [if_pos q, if_pos q]; exact ⟨-1, σ, τ, rfl, rfl, h⟩
  · rw [if_neg (idx_in (by omega) hk), if_neg (idx_in (by omega) hk)]
    obtain ⟨σ1, τs, τ1, p1, p2, p3, p4, p5, p6, p7, p8, p9, p10, p11, ⟨S, f, hD⟩, p13, p14⟩ := q_all hB hW hs
    rw [p1, p2, bs_ok, bs_ok, ld24 (by omega), ld24 (by omega), (hD.2.1 k hk).2.2.2.1, (hD.2.1 k hk).2.2.2.2.1]
    exact ⟨_, σ1, τs, rfl, rfl, p10⟩
theorem st_takenBy {σ τ : St} (h : Rel σ τ) (a1 : Int32) : ∃ (r : Int32) (σ' : St) (τ' : St), f_X6_takenBy a1 σ = some (r, σ') ∧ f_X7_takenBy a1 τ = some (r, τ') ∧ Rel σ' τ' := by
  obtain ⟨n, ln, hB, hW, hs⟩ := id h
  obtain ⟨hn, hln, c1, c2, c3, c4, hBk, -⟩ := id hB
  unfold f_X6_takenBy f_X7_takenBy
  simp only [has_ok c1, isBlock_ok c2 hn, bi_ok, ite01]
  rcases idx_or a1 (show n < 2 ^ 31 by omega) with q | ⟨k, hk, rfl⟩
  · rw [if_pos q, if_pos q]; exact ⟨-1, σ, τ, rfl, rfl, h⟩
  · rw [if_neg (idx_in (by omega) hk), if_neg (idx_in (by omega) hk)]
    simp only [ld24 (show k < 24 by omega), (hBk k hk).2.1]
    by_cases q0 : σ 8 k = 1
    · rw [if_pos q0, if_pos q0]
      obtain ⟨σ1, τs, τ1, p1, p2, p3, p4, p5, p6, p7, p8, p9, p10, p11, ⟨S, f, hD⟩, p13, p14⟩ := q_all hB hW hs
      rw [p1, p2, bs_ok, bs_ok, (hD.2.1 k hk).2.1]
      exact ⟨_, σ1, τs, rfl, rfl, p10⟩
    · rw [if_neg q0, if_neg q0]; exact ⟨-3, σ, τ, rfl, rfl, h⟩
theorem hasS_ok {σ : St} {m : Nat} (hc : σ 5 3 = nI m) (x : Int32) : f_X5_has x σ = some (if x < 0 ∨ nI m ≤ x then 0 else 1) := by
  unfold f_X5_has
  rw [lf_ok, hc]
  by_cases h1 : x < 0 <;> by_cases h2 : nI m ≤ x <;> simp [h1, h2, gb0, gb1]
theorem hasA_ok {σ : St} {m : Nat} (hc : σ 6 3 = nI m) (x : Int32) : f_X0_has x σ = some (if x < 0 ∨ nI m ≤ x then 0 else 1) := by
  unfold f_X0_has
  rw [lf_ok, hc]
  by_cases h1 : x < 0 <;> by_cases h2 : nI m ≤ x <;> simp [h1, h2, gb0, gb1]
theorem gb01 {α : Type} {c : Prop} [Decidable c] {k : Option α} : gb (if c then 0 else 1) k = k := by
  by_cases h : c
  · rw [if_pos h, gb0]
  · rw [if_neg h, gb1]
theorem isStory_ok {τ τ1 : St} {m : Nat} (hf : f_X7_findArticles τ = some τ1) (hc : τ1 0 21 = nI m) (hm : m ≤ 24) (x : Int32) : f_X7_isStory x τ = some (if x < 0 ∨ nI m ≤ x then 0 else 1, τ1) := by
  unfold f_X7_isStory
  rw [hf, bs_ok, lf_ok, hc, within_n x m (by omega), bi_ok, gb01]
theorem isArt_ok {τ τ1 : St} {m : Nat} (hf : f_X7_findArticles τ = some τ1) (hc : τ1 0 28 = nI m) (hm : m ≤ 24) (x : Int32) : f_X7_isArticle x τ = some (if x < 0 ∨ nI m ≤ x then 0 else 1, τ1) := by
  unfold f_X7_isArticle
  rw [hf, bs_ok, lf_ok, hc, within_n x m (by omega), bi_ok, gb01]
theorem st_text {σ τ : St} (h : Rel σ τ) (a1 a2 : Int32) : ∃ (r : Int32) (σ' : St) (τ' : St), f_X6_text a1 a2 σ = some (r, σ') ∧ f_X7_text a1 a2 τ = some (r, τ') ∧ Rel σ' τ' := by
  obtain ⟨n, ln, hB, hW, hs⟩ := id h
  have hn := hB.1
  obtain ⟨σ1, τs, τ1, p1, p2, p3, p4, p5, p6, p7, p8, p9, p10, p11, p12, ⟨S, f, AR, on, hD, hE⟩, p14⟩ := q_all hB hW hs
  have hmn := RT_len f n
  unfold f_X6_text f_X7_text
  rw [p1, bs_ok, isStory_ok p3 hD.2.2.2.2.2.2.2.1 (by omega)]
  simp only [hasS_ok hD.2.2.2.2.2.2.1, bi_ok, bp_ok, ite01, below_v, within_v, lt_23]
  rcases idx_or a1 (show (RT f n).length < 2 ^ 31 by omega) with q | ⟨s, hsm, rfl⟩
  · rw [if_pos q, if_pos q]; exact ⟨-1, σ1, τ1, rfl, rfl, p11⟩
  · rw [if_neg (idx_in (by omega) hsm), if_neg (idx_in (by omega) hsm)]
    by_cases q1 : a2 < 0 ∨ 24 ≤ a2
    · rw [if_pos q1, if_pos q1]; exact ⟨-2, σ1, τ1, rfl, rfl, p11⟩
    · rw [if_neg q1, if_neg q1]
      obtain ⟨i, hi, rfl⟩ := rng (m := 24) (by decide) q1
      have hb0 : (RT f n)[s]? = some (RT f n)[s] := List.getElem?_eq_getElem hsm
      generalize (RT f n)[s] = b at hb0
      obtain ⟨hbn, fb, es⟩ := RT_get hb0
      obtain ⟨x1, x2, x3, x4, x5⟩ := q_txt p7 p8 hD hb0
      have hv : τ1 20 s = nI b := by have := hD.2.2.2.2.2.2.2.2.2.1 s b hb0; rwa [Nat.zero_add] at this
      have hl : (fl f b S).length ≤ 24 := Nat.le_trans (fl_len f b S) (hD.sc p7).2.2.1
      rw [x5 i (by omega), bi_ok]
      simp only [ld24 (show s < 24 by omega), hv, ld24 (show b < 24 by omega), x2, nI_24, ld576 (show 24 * b + i < 576 by omega)]
      by_cases q2 : (fl f b S).length ≤ i
      · rw [if_pos (nI_le q2 (by omega)), List.getElem?_eq_none q2]
        exact ⟨-9, σ1, τ1, rfl, rfl, p11⟩
      · have hlt : i < (fl f b S).length := by omega
        rw [if_neg (nle_of hlt (by omega)), (hD.2.2.2.2.2.2.2.2.2.2 b hbn).2 i _ (List.getElem?_eq_getElem hlt), List.getElem?_eq_getElem hlt]
        exact ⟨_, σ1, τ1, rfl, rfl, p11⟩
set_option maxHeartbeats 1000000 in
theorem st_ofStory {σ τ : St} (h : Rel σ τ) (a1 a2 : Int32) : ∃ (r : Int32) (σ' : St) (τ' : St), f_X6_ofStory a1 a2 σ = some (r, σ') ∧ f_X7_ofStory a1 a2 τ = some (r, τ') ∧ Rel σ' τ' := by
  obtain ⟨n, ln, hB, hW, hs⟩ := id h
  have hn := hB.1
  obtain ⟨σ1, τs, τ1, p1, p2, p3, p4, p5, p6, p7, p8, p9, p10, p11, p12, ⟨S, f, AR, on, hD, hE⟩, p14⟩ := q_all hB hW hs
  have hmn := RT_len f n
  unfold f_X6_ofStory f_X7_ofStory
  rw [p1, bs_ok, isStory_ok p3 hD.2.2.2.2.2.2.2.1 (by omega)]
  simp only [hasS_ok hD.2.2.2.2.2.2.1, bi_ok, bp_ok, ite01]
  rcases idx_or a1 (show (RT f n).length < 2 ^ 31 by omega) with q | ⟨s, hsm, rfl⟩
  · rw [if_pos q, if_pos q]; exact ⟨-1, σ1, τ1, rfl, rfl, p11⟩
  · rw [if_neg (idx_in (by omega) hsm), if_neg (idx_in (by omega) hsm)]
    have hb0 : (RT f n)[s]? = some (RT f n)[s] := List.getElem?_eq_getElem hsm
    generalize (RT f n)[s] = b at hb0
    obtain ⟨hbn, fb, es⟩ := RT_get hb0
    obtain ⟨x1, x2, x3, x4, x5⟩ := q_txt p7 p8 hD hb0
    have hv : τ1 20 s = nI b := by have := hD.2.2.2.2.2.2.2.2.2.1 s b hb0; rwa [Nat.zero_add] at this
    have hv2 : σ1 25 s = nI b := by have := hD.2.2.2.2.2.2.2.2.1 s b hb0; rwa [Nat.zero_add] at this
    have hl : (fl f b S).length ≤ 24 := Nat.le_trans (fl_len f b S) (hD.sc p7).2.2.1
    have e8 := (p7.2.2.2.2.2.2.1 b hbn).2.1
    obtain ⟨y1, y2, y3, y4⟩ := hE.2.2 s hsm
    have hh : f_X5_headOf (nI s) σ1 = some (if σ1 8 b = 0 then nI b else -9) := by
      unfold f_X5_headOf
      simp only [ld24 (show s < 24 by omega), hv2, ld24 (show b < 24 by omega)]
      by_cases z : σ1 8 b = 0
      · rw [if_pos z, if_pos z]
      · rw [if_neg z, if_neg z]
    simp only [ld24 (show s < 24 by omega), hv, ld24 (show b < 24 by omega), e8, x1, x2, x3, x4, hh, bi_ok, y3, y4, (hE.1.2.2.2.2.2.1 s hsm).1]
    by_cases q0 : a2 = 0
    · simp only [if_pos q0]
      by_cases z : σ1 8 b = 0
      · rw [if_pos z, if_pos z]; exact ⟨_, σ1, τ1, rfl, rfl, p11⟩
      · rw [if_neg z, if_neg z]; exact ⟨_, σ1, τ1, rfl, rfl, p11⟩
    simp only [if_neg q0]
    by_cases q1 : a2 = 1
    · simp only [if_pos q1]; exact ⟨_, σ1, τ1, rfl, rfl, p11⟩
    simp only [if_neg q1]
    by_cases q2 : a2 = 2
    · simp only [if_pos q2]; exact ⟨_, σ1, τ1, rfl, rfl, p11⟩
    simp only [if_neg q2]
    by_cases q3 : a2 = 3
    · simp only [if_pos q3]
      obtain ⟨r, r1, r2⟩ := p_picL p7 (fun j hj => (hD.2.1 j hj).2.2.2.2.1.trans (hD.2.1 j hj).2.2.2.1.symm) (nI s) n 0 64 0 (by omega) (by omega)
      have r1' : f_X5_picturesOf (nI s) σ1 = some r := r1
      have r2' : f_X7_manyIn (nI s) 1 τ1 = some r := r2
      rw [r1', r2', bi_ok, bi_ok]; exact ⟨_, σ1, τ1, rfl, rfl, p11⟩
    simp only [if_neg q3]
    by_cases q4 : a2 = 4
    · simp only [if_pos q4]
      obtain ⟨r, r1, r2⟩ := p_jndL p7 (fun j hj => ⟨(hD.2.1 j hj).2.2.2.2.1.trans (hD.2.1 j hj).2.2.2.1.symm, (hD.2.1 j hj).2.1⟩) (nI s) n 0 64 0 (by omega) (by omega)
      have r1' : f_X5_joinedOf (nI s) σ1 = some r := r1
      have r2' : f_X7_manyIn (nI s) 0 τ1 = some r := r2
      rw [r1', r2', bi_ok, bi_ok]; exact ⟨_, σ1, τ1, rfl, rfl, p11⟩
    simp only [if_neg q4]
    by_cases q5 : a2 = 5
    · simp only [if_pos q5]; exact ⟨_, σ1, τ1, rfl, rfl, p11⟩
    simp only [if_neg q5]
    by_cases q6 : a2 = 6
    · simp only [if_pos q6]; exact ⟨_, σ1, τ1, rfl, rfl, p11⟩
    simp only [if_neg q6]
    by_cases q7 : a2 = 7
    · simp only [if_pos q7]; exact ⟨_, σ1, τ1, rfl, rfl, p11⟩
    simp only [if_neg q7]
    by_cases q8 : a2 = 8
    · simp only [if_pos q8]
      obtain ⟨r, hr, r1, r2⟩ := p_brk (by omega) hE hsm
      rw [r1, r2, bi_ok, bi_ok]
      rcases hr with z | z
      · rw [if_pos z, if_pos z]; exact ⟨_, σ1, τ1, rfl, rfl, p11⟩
      · rw [if_neg (by rw [z]; decide), if_neg (by rw [z]; decide)]; exact ⟨_, σ1, τ1, rfl, rfl, p11⟩
    simp only [if_neg q8]
    exact ⟨-2, σ1, τ1, rfl, rfl, p11⟩
