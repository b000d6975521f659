/-! a line comes -/
set_option maxHeartbeats 1000000 in
theorem line_in {σ τ : St} (h : Rel σ τ) (p w A L : Nat) (hp : p < 4) (hw : w < 2) (hA : A < 30) (hL : L < 30) (hw0 : w = 0 → A < 8) (hw1 : w = 1 → L < 8) (a3 a4 a5 : Int32) : ∃ (r : Int32) (σ' : St) (τ' : St), f_X6_line_B43 (nI p) (nI w) a3 a4 a5 (nI (A + 1)) (nI (L + 1)) σ = some (r, σ') ∧ f_X7_line_B45 (nI p) (nI w) a3 a4 a5 (nI A) (nI L) τ = some (r, τ') ∧ Rel σ' τ' := by
  obtain ⟨n, ln, hB, hW, hs⟩ := id h
  obtain ⟨hn, hln, c1, c2, c3, c4, hBk, hR, hM, hLl⟩ := id hB
  unfold f_X6_line_B43 f_X7_line_B45
  simp only [within_v, span_v, bi_ok, ite01, lf_ok, sf_ok, gb1, c3, c4, lt_lit A (by omega)]
  by_cases q1 : a3 < 1
  · rw [if_pos q1, if_pos (Or.inl q1)]; exact ⟨-2, σ, τ, rfl, rfl, h⟩
  rw [if_neg q1]
  by_cases q2 : nI (A + 1) ≤ a3
  · rw [if_pos q2, if_pos (Or.inr q2)]; exact ⟨-2, σ, τ, rfl, rfl, h⟩
  have d1 : ¬ (a3 < 1 ∨ nI (A + 1) ≤ a3) := fun z => z.elim q1 q2
  rw [if_neg q2, if_neg d1]
  by_cases q3 : a4 < 0
  · rw [if_pos (Or.inl q3), if_pos (Or.inl q3)]; exact ⟨-2, σ, τ, rfl, rfl, h⟩
  by_cases q4 : a5 < a4
  · rw [if_pos (Or.inr (Or.inl q4)), if_pos (Or.inr q4)]; exact ⟨-2, σ, τ, rfl, rfl, h⟩
  by_cases q5 : nI (L + 1) ≤ a5
  · have d3 : ¬ (a4 < 0 ∨ a5 < a4) := fun z => z.elim q3 q4
    rw [if_pos (Or.inr (Or.inr q5)), if_neg d3, if_neg (Int32.not_le.mpr ((lt_lit L (by omega) a5).mpr q5))]; exact ⟨-2, σ, τ, rfl, rfl, h⟩
  have d2 : ¬ (a4 < 0 ∨ a5 < a4 ∨ nI (L + 1) ≤ a5) := fun z => z.elim q3 (fun z => z.elim q4 q5)
  have d3 : ¬ (a4 < 0 ∨ a5 < a4) := fun z => z.elim q3 q4
  have d4 : a5 ≤ nI L := Int32.not_lt.mp (fun z => q5 ((lt_lit L (by omega) a5).mp z))
  rw [if_neg d2, if_neg d3, if_pos d4]
  have n5 : ¬ a5 < 0 := fun z => q4 (Int32.lt_of_lt_of_le z (Int32.not_lt.mp q3))
  obtain ⟨b, hb, rfl⟩ := rng (x := a5) (m := L + 1) (by omega) (fun z => z.elim n5 q5)
  obtain ⟨a, ha, rfl⟩ := nI_of q3
  have hab : a ≤ b := by
    rcases Nat.lt_or_ge b a with z | z
    · exact absurd (nI_lt z ha) q4
    · exact z
  have n3 : ¬ a3 < 0 := fun z => q1 (Int32.lt_of_lt_of_le z (by decide))
  obtain ⟨x, hx, rfl⟩ := rng (x := a3) (m := A + 1) (by omega) (fun z => z.elim n3 q2)
  have hx1 : 1 ≤ x := by
    rcases Nat.eq_zero_or_pos x with z | z
    · subst z; exact absurd (show nI 0 < 1 by decide) q1
    · exact z
  by_cases hf : ln = 12
  · subst hf
    rw [if_neg (by decide), if_pos (by decide)]
    exact ⟨-4, σ, τ, rfl, rfl, h⟩
  · have h12 : ln < 12 := by omega
    rw [if_pos (show nI ln < 12 from nI_lt (show ln < 12 from h12) (by decide)), if_neg (fun e => hf ((nI_eq (by omega) (by decide)).mp (e.trans (rfl : (12 : Int32) = nI 12))))]
    unfold f_X2_add
    simp only [lf_ok, sf_ok, sd12 h12, ss_c _ (show 3 ≠ 0 by decide), ss_c _ (show 3 ≠ 16 by decide), ss_c _ (show 3 ≠ 17 by decide), ss_c _ (show 3 ≠ 18 by decide), ss_c _ (show 3 ≠ 19 by decide), ss_c _ (show 3 ≠ 20 by decide), c3, bp_ok, nI_1, ss_c _ (show 0 ≠ 10 by decide), ss_c _ (show 0 ≠ 11 by decide), ss_c _ (show 0 ≠ 12 by decide), ss_c _ (show 0 ≠ 13 by decide), ss_c _ (show 0 ≠ 14 by decide), c4, ss_same, nI_pred]
    refine ⟨nI ln, _, _, rfl, rfl, ?_⟩
    generalize eσ : ss (ss (ss (ss (ss (ss (ss σ 0 6 1) 16 ln (nI p)) 17 ln (nI w)) 18 ln (nI x)) 19 ln (nI a)) 20 ln (nI b)) 3 0 (nI (ln + 1)) = σ'
    generalize eτ : ss (ss (ss (ss (ss (ss τ 10 ln (nI p)) 11 ln (nI w)) 12 ln (nI x)) 13 ln (nI a)) 14 ln (nI b)) 0 10 (nI (ln + 1)) = τ'
    have s16 : ∀ j, σ' 16 j = if j = ln then nI p else σ 16 j := fun j => by rw [← eσ]; simp [ss, upd]
    have s17 : ∀ j, σ' 17 j = if j = ln then nI w else σ 17 j := fun j => by rw [← eσ]; simp [ss, upd]
    have s18 : ∀ j, σ' 18 j = if j = ln then nI x else σ 18 j := fun j => by rw [← eσ]; simp [ss, upd]
    have s19 : ∀ j, σ' 19 j = if j = ln then nI a else σ 19 j := fun j => by rw [← eσ]; simp [ss, upd]
    have s20 : ∀ j, σ' 20 j = if j = ln then nI b else σ 20 j := fun j => by rw [← eσ]; simp [ss, upd]
    have s3 : σ' 3 0 = nI (ln + 1) := by rw [← eσ]; simp [ss, upd]
    have s0 : σ' 0 6 = 1 := by rw [← eσ]; simp [ss, upd]
    have sl : ∀ c, c = 1 ∨ (7 ≤ c ∧ c ≤ 15) → σ' c = σ c := fun c hc => by
      rw [← eσ, ss_c _ (by omega), ss_c _ (by omega), ss_c _ (by omega), ss_c _ (by omega), ss_c _ (by omega), ss_c _ (by omega), ss_c _ (by omega)]
    have t10 : ∀ j, τ' 10 j = if j = ln then nI p else τ 10 j := fun j => by rw [← eτ]; simp [ss, upd]
    have t11 : ∀ j, τ' 11 j = if j = ln then nI w else τ 11 j := fun j => by rw [← eτ]; simp [ss, upd]
    have t12 : ∀ j, τ' 12 j = if j = ln then nI x else τ 12 j := fun j => by rw [← eτ]; simp [ss, upd]
    have t13 : ∀ j, τ' 13 j = if j = ln then nI a else τ 13 j := fun j => by rw [← eτ]; simp [ss, upd]
    have t14 : ∀ j, τ' 14 j = if j = ln then nI b else τ 14 j := fun j => by rw [← eτ]; simp [ss, upd]
    have t0 : τ' 0 0 = τ 0 0 := by rw [← eτ]; simp [ss, upd]
    have t010 : τ' 0 10 = nI (ln + 1) := by rw [← eτ]; simp [ss, upd]
    have tl : ∀ c, 1 ≤ c ∧ c ≤ 9 → τ' c = τ c := fun c hc => by
      rw [← eτ, ss_c _ (by omega), ss_c _ (by omega), ss_c _ (by omega), ss_c _ (by omega), ss_c _ (by omega), ss_c _ (by omega)]
    clear eσ eτ
    refine ⟨n, ln + 1, ⟨hn, by omega, by rw [sl 1 (by decide)]; exact c1, by rw [t0]; exact c2, s3, t010, fun k hk => ?_, fun k hk => ?_, fun k hk => ?_, fun k hk => ?_⟩, fun k hk => ?_, Or.inl s0⟩
    · unfold Bk
      rw [sl 7 (by decide), sl 8 (by decide), sl 9 (by decide), sl 10 (by decide), sl 11 (by decide), sl 12 (by decide), tl 1 (by decide), tl 2 (by decide), tl 3 (by decide), tl 4 (by decide), tl 5 (by decide), tl 6 (by decide)]
      exact hBk k hk
    · unfold Rk
      rw [sl 7 (by decide), sl 8 (by decide), sl 9 (by decide), sl 10 (by decide), sl 11 (by decide), sl 12 (by decide)]
      exact hR k hk
    · unfold Mk
      rw [sl 8 (by decide), sl 14 (by decide), sl 15 (by decide), tl 8 (by decide), tl 9 (by decide)]
      exact hM k hk
    · unfold Lk Ll
      rw [s16, s17, s18, s19, s20, t10, t11, t12, t13, t14]
      by_cases z : k = ln
      · subst z
        simp only [if_true, eq_self, reduceIte]
        exact ⟨⟨trivial, trivial, trivial, trivial, trivial⟩, p, w, x, a, b, hp, hw, hx1, by omega, hab, by omega, fun e => by have := hw0 e; omega, fun e => by have := hw1 e; omega, rfl, rfl, rfl, rfl, rfl⟩
      · simp only [if_neg z]; exact hLl k (by omega)
    · rw [sl 8 (by decide), sl 13 (by decide), tl 7 (by decide)]; exact hW k hk
theorem st_line {σ τ : St} (h : Rel σ τ) (a1 a2 a3 a4 a5 : Int32) : ∃ (r : Int32) (σ' : St) (τ' : St), f_X6_line a1 a2 a3 a4 a5 σ = some (r, σ') ∧ f_X7_line a1 a2 a3 a4 a5 τ = some (r, τ') ∧ Rel σ' τ' := by
  unfold f_X6_line f_X7_line f_X6_line_B30 f_X7_line_B32
  simp only [within_v, below_v, bi_ok, ite01, lt_3, lt_1]
  by_cases q1 : a1 < 0 ∨ 4 ≤ a1
  · rw [if_pos q1, if_pos q1]; exact ⟨-2, σ, τ, rfl, rfl, h⟩
  rw [if_neg q1, if_neg q1]
  by_cases q2 : a2 < 0 ∨ 2 ≤ a2
  · rw [if_pos q2, if_pos q2]; exact ⟨-2, σ, τ, rfl, rfl, h⟩
  rw [if_neg q2, if_neg q2]
  obtain ⟨p, hp, rfl⟩ := rng (m := 4) (by decide) q1
  obtain ⟨w, hw, rfl⟩ := rng (m := 2) (by decide) q2
  by_cases q3 : w = 0
  · subst q3
    have e : nI 0 = 0 := rfl
    simp only [e, if_true, reduceIte]
    exact line_in h p 0 7 29 hp (by decide) (by decide) (by decide) (fun _ => by decide) (fun e => absurd e (by decide)) a3 a4 a5
  · have e : ¬ nI w = 0 := nI_ne0 (by omega) (by omega)
    simp only [if_neg e]
    exact line_in h p w 29 7 hp hw (by decide) (by decide) (fun z => absurd z q3) (fun _ => by decide) a3 a4 a5
/-! questions about blocks, lines and marks as they are -/
theorem st_ofBlock {σ τ : St} (h : Rel σ τ) (a1 a2 : Int32) : ∃ (r : Int32), f_X6_ofBlock a1 a2 σ = some r ∧ f_X7_ofBlock a1 a2 τ = some r ∧ Rel σ τ := by
  obtain ⟨n, ln, hB, hW, hs⟩ := id h
  obtain ⟨hn, hln, c1, c2, c3, c4, hBk, -⟩ := id hB
  unfold f_X6_ofBlock f_X7_ofBlock
  simp only [has_ok c1, isBlock_ok c2 hn, bi_ok, ite01]
  rcases idx_or a1 (show n < 2 ^ 31 by omega) with q | ⟨k, hk, rfl⟩
  · rw [if_pos q, if_pos q]; exact ⟨-1, rfl, rfl, h⟩
  · rw [if_neg (idx_in (by omega) hk), if_neg (idx_in (by omega) hk)]
    obtain ⟨l1, l2, l3, l4, l5, l6⟩ := hBk k hk
    simp only [ld24 (show k < 24 by omega), l1, l2, l3, l4, l5, l6]
    by_cases q0 : a2 = 0
    · simp only [if_pos q0]; exact ⟨_, rfl, rfl, h⟩
    simp only [if_neg q0]
    by_cases q1 : a2 = 1
    · simp only [if_pos q1]; exact ⟨_, rfl, rfl, h⟩
    simp only [if_neg q1]
    by_cases q2 : a2 = 2
    · simp only [if_pos q2]; exact ⟨_, rfl, rfl, h⟩
    simp only [if_neg q2]
    by_cases q3 : a2 = 3
    · simp only [if_pos q3]; exact ⟨_, rfl, rfl, h⟩
    simp only [if_neg q3]
    by_cases q4 : a2 = 4
    · simp only [if_pos q4]; exact ⟨_, rfl, rfl, h⟩
    simp only [if_neg q4]
    by_cases q5 : a2 = 5
    · simp only [if_pos q5]; exact ⟨_, rfl, rfl, h⟩
    simp only [if_neg q5]
    by_cases q6 : a2 = 6
    · simp only [if_pos q6]
      by_cases q7 : σ 8 k = 1
      · rw [if_pos q7, (hW k hk).1 q7]; exact ⟨_, rfl, rfl, h⟩
      · rw [if_neg q7, (hW k hk).2 q7]; exact ⟨_, rfl, rfl, h⟩
    simp only [if_neg q6]
    exact ⟨-2, rfl, rfl, h⟩
theorem st_ofLine {σ τ : St} (h : Rel σ τ) (a1 a2 : Int32) : ∃ (r : Int32), f_X6_ofLine a1 a2 σ = some r ∧ f_X7_ofLine a1 a2 τ = some r ∧ Rel σ τ := by
  obtain ⟨n, ln, hB, hW, hs⟩ := id h
  obtain ⟨hn, hln, c1, c2, c3, c4, hBk, hR, hM, hL⟩ := id hB
  unfold f_X6_ofLine f_X7_ofLine
  simp only [hasL_ok c3, lf_ok, c4, within_n _ ln (by omega), bi_ok, ite01]
  rcases idx_or a1 (show ln < 2 ^ 31 by omega) with q | ⟨k, hk, rfl⟩
  · rw [if_pos q, if_pos q]; exact ⟨-1, rfl, rfl, h⟩
  · rw [if_neg (idx_in (by omega) hk), if_neg (idx_in (by omega) hk)]
    obtain ⟨⟨l1, l2, l3, l4, l5⟩, -⟩ := hL k hk
    simp only [ld12 (show k < 12 by omega), l1, l2, l3, l4, l5]
    by_cases q0 : a2 = 0
    · simp only [if_pos q0]; exact ⟨_, rfl, rfl, h⟩
    simp only [if_neg q0]
    by_cases q1 : a2 = 1
    · simp only [if_pos q1]; exact ⟨_, rfl, rfl, h⟩
    simp only [if_neg q1]
    by_cases q2 : a2 = 2
    · simp only [if_pos q2]; exact ⟨_, rfl, rfl, h⟩
    simp only [if_neg q2]
    by_cases q3 : a2 = 3
    · simp only [if_pos q3]; exact ⟨_, rfl, rfl, h⟩
    simp only [if_neg q3]
    by_cases q4 : a2 = 4
    · simp only [if_pos q4]; exact ⟨_, rfl, rfl, h⟩
    simp only [if_neg q4]
    exact ⟨-2, rfl, rfl, h⟩
theorem st_at {σ τ : St} (h : Rel σ τ) (a1 a2 a3 : Int32) : ∃ (r : Int32), f_X6_at a1 a2 a3 σ = some r ∧ f_X7_at a1 a2 a3 τ = some r ∧ Rel σ τ := by
  obtain ⟨n, ln, hB, hW, hs⟩ := id h
  have hn := hB.1
  unfold f_X6_at f_X7_at
  simp only [within_v, below_v, bi_ok, ite01, lt_3, lt_7, lt_29]
  by_cases q1 : a1 < 0 ∨ 4 ≤ a1
  · simp only [if_pos q1]; exact ⟨-2, rfl, rfl, h⟩
  simp only [if_neg q1]
  by_cases q2 : a2 < 0 ∨ 8 ≤ a2
  · simp only [if_pos q2]; exact ⟨-2, rfl, rfl, h⟩
  simp only [if_neg q2]
  by_cases q3 : a3 < 0 ∨ 30 ≤ a3
  · simp only [if_pos q3]; exact ⟨-2, rfl, rfl, h⟩
  simp only [if_neg q3]
  obtain ⟨r, r1, r2⟩ := p_atL hB a1 a2 a3 n 0 64 (by omega) (by omega)
  have r1' : f_X1_firstIn a1 a2 a2 a3 a3 σ = some r := r1
  rw [r1', bi_ok]
  exact ⟨r, rfl, r2, h⟩
theorem st_reach {σ τ : St} (h : Rel σ τ) (a1 a2 : Int32) : ∃ (r : Int32), f_X6_reach a1 a2 σ = some r ∧ f_X7_reach a1 a2 τ = some r ∧ Rel σ τ := by
  obtain ⟨n, ln, hB, hW, hs⟩ := id h
  obtain ⟨hn, hln, c1, c2, c3, c4, hBk, -⟩ := id hB
  unfold f_X6_reach f_X7_reach f_X7_isHead
  simp only [has_ok c1, isBlock_ok c2 hn, bi_ok, ite01, gb0, gb1]
  rcases idx_or a1 (show n < 2 ^ 31 by omega) with q | ⟨k, hk, rfl⟩
  · simp only [if_pos q, bi_ok, if_true, reduceIte]; exact ⟨-1, rfl, rfl, h⟩
  · simp only [if_neg (idx_in (show n < 2 ^ 31 by omega) hk), ld24 (show k < 24 by omega), (hBk k hk).2.1]
    by_cases q0 : σ 8 k = 0
    · simp only [if_pos q0, bi_ok, o10, if_false, reduceIte, within_v, below_v, ite01, lt_7]
      by_cases q1 : a2 < 0 ∨ 8 ≤ a2
      · simp only [if_pos q1]; exact ⟨-2, rfl, rfl, h⟩
      · simp only [if_neg q1]
        obtain ⟨r, -, r1, r2⟩ := p_lastRow hB k hk a2
        rw [r1, r2, bi_ok]
        exact ⟨r, rfl, rfl, h⟩
    · simp only [if_neg q0, bi_ok, if_true, reduceIte]; exact ⟨-1, rfl, rfl, h⟩
/-! marks -/
theorem mkj {n ln : Nat} {σ τ : St} (h : B0 n ln σ τ) {k w : Nat} (hk : k < n) (hw : w < 2) : Mk σ τ (2 * k + w) := by
  obtain ⟨m1, m2, -⟩ := h.2.2.2.2.2.2.2.2.1 k hk
  have : w = 0 ∨ w = 1 := by omega
  rcases this with rfl | rfl
  · exact m1
  · exact m2
theorem st_ofMark {σ τ : St} (h : Rel σ τ) (a1 a2 a3 : Int32) : ∃ (r : Int32), f_X6_ofMark a1 a2 a3 σ = some r ∧ f_X7_ofMark a1 a2 a3 τ = some r ∧ Rel σ τ := by
  obtain ⟨n, ln, hB, hW, hs⟩ := id h
  obtain ⟨hn, hln, c1, c2, c3, c4, hBk, -⟩ := id hB
  unfold f_X6_ofMark f_X7_ofMark f_X3_pageOf f_X3_wordOf
  simp only [has_ok c1, isBlock_ok c2 hn, bi_ok, ite01, within_v, below_v, lt_1]
  rcases idx_or a1 (show n < 2 ^ 31 by omega) with q | ⟨k, hk, rfl⟩
  · rw [if_pos q, if_pos q]; exact ⟨-1, rfl, rfl, h⟩
  · rw [if_neg (idx_in (by omega) hk), if_neg (idx_in (by omega) hk)]
    by_cases q1 : a2 < 0 ∨ 2 ≤ a2
    · simp only [if_pos q1]; exact ⟨-2, rfl, rfl, h⟩
    simp only [if_neg q1]
    obtain ⟨w, hw, rfl⟩ := rng (m := 2) (by decide) q1
    by_cases q2 : a3 < 0 ∨ 2 ≤ a3
    · simp only [if_pos q2]; exact ⟨-2, rfl, rfl, h⟩
    obtain ⟨m1, m2, m3⟩ := mkj hB hk hw
    simp only [if_neg q2, nI_2, nI_add, ld48 (show 2 * k + w < 48 by omega), m1, bi_ok]
    by_cases q3 : a3 = 0
    · simp only [if_pos q3, ite_self]; exact ⟨_, rfl, rfl, h⟩
    · simp only [if_neg q3]
      by_cases q4 : σ 14 (2 * k + w) = -9
      · rw [if_pos q4, m2 q4, q4]; exact ⟨_, rfl, rfl, h⟩
      · rw [if_neg q4, m3 q4]; exact ⟨_, rfl, rfl, h⟩
theorem mark_set {n ln : Nat} {σ τ : St} (hB : B0 n ln σ τ) (hW : Wd n σ τ) {k w : Nat} (hk : k < n) (hw : w < 2) (v1 v2 : Int32) (hv : v1 = -9 → v2 = -9) (hp : σ 8 k = 2 → v1 = -9) (τ' : St) (t8 : ∀ j, τ' 8 j = if j = 2 * k + w then v1 else τ 8 j) (t9 : ∀ j, v1 ≠ -9 ∨ j ≠ 2 * k + w → τ' 9 j = if j = 2 * k + w then v2 else τ 9 j) (tl : ∀ c, c ≠ 8 → c ≠ 9 → τ' c = τ c) : Rel (ss (ss (ss σ 14 (2 * k + w) v1) 15 (2 * k + w) v2) 0 6 1) τ' := by
  obtain ⟨hn, hln, c1, c2, c3, c4, hBk, hR, hM, hL⟩ := id hB
  generalize eσ : ss (ss (ss σ 14 (2 * k + w) v1) 15 (2 * k + w) v2) 0 6 1 = σ'
  have s14 : ∀ j, σ' 14 j = if j = 2 * k + w then v1 else σ 14 j := fun j => by rw [← eσ]; simp [ss, upd]
  have s15 : ∀ j, σ' 15 j = if j = 2 * k + w then v2 else σ 15 j := fun j => by rw [← eσ]; simp [ss, upd]
  have s0 : σ' 0 6 = 1 := by rw [← eσ]; simp [ss, upd]
  have sl : ∀ c, c ≠ 0 → c ≠ 14 → c ≠ 15 → σ' c = σ c := fun c z1 z2 z3 => by rw [← eσ, ss_c _ z1, ss_c _ z3, ss_c _ z2]
  clear eσ
  have hj : ∀ j, Mk σ τ j → Mk σ' τ' j := by
    intro j hm
    unfold Mk
    rw [s14, s15, t8]
    by_cases z : j = 2 * k + w
    · subst z
      rw [if_pos rfl, if_pos rfl, if_pos rfl]
      exact ⟨rfl, hv, fun y => by rw [t9 _ (Or.inl y), if_pos rfl]⟩
    · rw [if_neg z, if_neg z, if_neg z, t9 j (Or.inr z), if_neg z]; exact hm
  refine ⟨n, ln, ⟨hn, hln, by rw [sl 1 (by decide) (by decide) (by decide)]; exact c1, by rw [tl 0 (by decide) (by decide)]; exact c2, by rw [sl 3 (by decide) (by decide) (by decide)]; exact c3, by rw [tl 0 (by decide) (by decide)]; exact c4, fun j hjn => ?_, fun j hjn => ?_, fun j hjn => ?_, fun j hjn => ?_⟩, fun j hjn => ?_, Or.inl s0⟩
  · unfold Bk
    rw [sl 7 (by decide) (by decide) (by decide), sl 8 (by decide) (by decide) (by decide), sl 9 (by decide) (by decide) (by decide), sl 10 (by decide) (by decide) (by decide), sl 11 (by decide) (by decide) (by decide), sl 12 (by decide) (by decide) (by decide), tl 1 (by decide) (by decide), tl 2 (by decide) (by decide), tl 3 (by decide) (by decide), tl 4 (by decide) (by decide), tl 5 (by decide) (by decide), tl 6 (by decide) (by decide)]
    exact hBk j hjn
  · unfold Rk
    rw [sl 7 (by decide) (by decide) (by decide), sl 8 (by decide) (by decide) (by decide), sl 9 (by decide) (by decide) (by decide), sl 10 (by decide) (by decide) (by decide), sl 11 (by decide) (by decide) (by decide), sl 12 (by decide) (by decide) (by decide)]
    exact hR j hjn
  · obtain ⟨m1, m2, m3⟩ := hM j hjn
    refine ⟨hj _ m1, hj _ m2, fun q => ?_⟩
    rw [sl 8 (by decide) (by decide) (by decide)] at q
    rw [s14, s14]
    constructor
    · by_cases z : 2 * j = 2 * k + w
      · have : j = k := by omega
        subst this
        rw [if_pos z]; exact hp q
      · rw [if_neg z]; exact (m3 q).1
    · by_cases z : 2 * j + 1 = 2 * k + w
      · have : j = k := by omega
        subst this
        rw [if_pos z]; exact hp q
      · rw [if_neg z]; exact (m3 q).2
  · unfold Lk Ll
    rw [sl 16 (by decide) (by decide) (by decide), sl 17 (by decide) (by decide) (by decide), sl 18 (by decide) (by decide) (by decide), sl 19 (by decide) (by decide) (by decide), sl 20 (by decide) (by decide) (by decide), tl 10 (by decide) (by decide), tl 11 (by decide) (by decide), tl 12 (by decide) (by decide), tl 13 (by decide) (by decide), tl 14 (by decide) (by decide)]
    exact hL j hjn
  · rw [sl 8 (by decide) (by decide) (by decide), sl 13 (by decide) (by decide) (by decide), tl 7 (by decide) (by decide)]; exact hW j hjn
theorem st_unmark {σ τ : St} (h : Rel σ τ) (a1 a2 : Int32) : ∃ (r : Int32) (σ' : St) (τ' : St), f_X6_unmark a1 a2 σ = some (r, σ') ∧ f_X7_unmark a1 a2 τ = some (r, τ') ∧ Rel σ' τ' := by
  obtain ⟨n, ln, hB, hW, hs⟩ := id h
  obtain ⟨hn, hln, c1, c2, c3, c4, hBk, -⟩ := id hB
  unfold f_X6_unmark f_X7_unmark f_X6_unmark_B41 f_X7_unmark_B42 f_X3_forget f_X3_put
  simp only [has_ok c1, isBlock_ok c2 hn, bi_ok, ite01, within_v, below_v, lt_1]
  rcases idx_or a1 (show n < 2 ^ 31 by omega) with q | ⟨k, hk, rfl⟩
  · rw [if_pos q, if_pos q]; exact ⟨-1, σ, τ, rfl, rfl, h⟩
  · rw [if_neg (idx_in (by omega) hk), if_neg (idx_in (by omega) hk)]
    by_cases q1 : a2 < 0 ∨ 2 ≤ a2
    · simp only [if_pos q1]; exact ⟨-2, σ, τ, rfl, rfl, h⟩
    obtain ⟨w, hw, rfl⟩ := rng (m := 2) (by decide) q1
    obtain ⟨m1, m2, m3⟩ := mkj hB hk hw
    simp only [if_neg q1, hasM σ k w (by omega) hw, bi_ok, nI_2, nI_add, ld48 (show 2 * k + w < 48 by omega), sd48 (show 2 * k + w < 48 by omega), bs_ok, gb1, sf_ok, m1, ite01]
    have hr := mark_set hB hW hk hw (-9) (-9) (fun _ => rfl) (fun _ => rfl) (ss τ 8 (2 * k + w) (-9)) (fun j => by rw [ss_if]) (fun j hj => by
      rw [ss_c _ (by decide), if_neg (hj.resolve_left (fun z => z rfl))]) (fun c z1 z2 => by rw [ss_c _ z1])
    by_cases q2 : σ 14 (2 * k + w) = -9
    · rw [if_pos q2, if_pos q2]; exact ⟨0, _, _, rfl, rfl, hr⟩
    · rw [if_neg q2, if_neg q2]; exact ⟨1, _, _, rfl, rfl, hr⟩
theorem st_mark {σ τ : St} (h : Rel σ τ) (a1 a2 a3 a4 : Int32) : ∃ (r : Int32) (σ' : St) (τ' : St), f_X6_mark a1 a2 a3 a4 σ = some (r, σ') ∧ f_X7_mark a1 a2 a3 a4 τ = some (r, τ') ∧ Rel σ' τ' := by
  obtain ⟨n, ln, hB, hW, hs⟩ := id h
  obtain ⟨hn, hln, c1, c2, c3, c4, hBk, -⟩ := id hB
  unfold f_X6_mark f_X7_mark f_X6_mark_B74 f_X7_mark_B68 f_X6_mark_B91 f_X7_mark_B88 f_X3_put
  simp only [has_ok c1, isBlock_ok c2 hn, bi_ok, ite01, within_v, below_v, lt_1, lt_3, lt_99]
  rcases idx_or a1 (show n < 2 ^ 31 by omega) with q | ⟨k, hk, rfl⟩
  · rw [if_pos q, if_pos q]; exact ⟨-1, σ, τ, rfl, rfl, h⟩
  · rw [if_neg (idx_in (by omega) hk), if_neg (idx_in (by omega) hk)]
    by_cases q1 : a2 < 0 ∨ 2 ≤ a2
    · simp only [if_pos q1]; exact ⟨-2, σ, τ, rfl, rfl, h⟩
    by_cases q2 : a3 < 0 ∨ 4 ≤ a3
    · simp only [if_neg q1, if_pos q2]; exact ⟨-2, σ, τ, rfl, rfl, h⟩
    by_cases q3 : a4 < 0 ∨ 100 ≤ a4
    · simp only [if_neg q1, if_neg q2, if_pos q3]; exact ⟨-2, σ, τ, rfl, rfl, h⟩
    obtain ⟨w, hw, rfl⟩ := rng (m := 2) (by decide) q1
    obtain ⟨p, hp, rfl⟩ := rng (m := 4) (by decide) q2
    obtain ⟨m1, m2, m3⟩ := mkj hB hk hw
    simp only [if_neg q1, if_neg q2, if_neg q3, ld24 (show k < 24 by omega), (hBk k hk).2.1, hasM σ k w (by omega) hw, bi_ok, nI_2, nI_add, ld48 (show 2 * k + w < 48 by omega), sd48 (show 2 * k + w < 48 by omega), bs_ok, gb1, sf_ok, m1, ite01]
    by_cases q4 : σ 8 k = 2
    · simp only [if_pos q4]; exact ⟨-3, σ, τ, rfl, rfl, h⟩
    simp only [if_neg q4]
    have hr := mark_set hB hW hk hw (nI p) a4 (fun z => absurd z (nI_ne9 (by omega))) (fun z => absurd z q4) (ss (ss τ 8 (2 * k + w) (nI p)) 9 (2 * k + w) a4) (fun j => by rw [ss_c _ (by decide), ss_if]) (fun j hj => by rw [ss_if, ss_c _ (by decide)]) (fun c z1 z2 => by rw [ss_c _ z2, ss_c _ z1])
    by_cases q5 : σ 8 k = 0 <;> by_cases q6 : nI w = 0 <;> by_cases q7 : σ 14 (2 * k + w) = -9 <;> simp only [q5, q6, q7, if_true, if_false, reduceIte] <;> first | exact ⟨-3, σ, τ, rfl, rfl, h⟩ | exact ⟨0, _, _, rfl, rfl, hr⟩ | exact ⟨1, _, _, rfl, rfl, hr⟩
