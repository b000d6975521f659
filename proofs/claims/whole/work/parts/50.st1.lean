/-! calls that change blocks and lines -/
def fMb (τ τ' : St) : Prop := τ' 0 0 = τ 0 0 ∧ τ' 0 10 = τ 0 10 ∧ ∀ c, (1 ≤ c ∧ c ≤ 6) ∨ (8 ≤ c ∧ c ≤ 14) → τ' c = τ c
theorem B0.Mb {n ln : Nat} {σ τ τ' : St} (h : B0 n ln σ τ) (f : fMb τ τ') : B0 n ln σ τ' := by
  unfold B0 Bk Rk Mk Lk Ll at h ⊢
  rw [f.1, f.2.1, f.2.2 1 (by decide), f.2.2 2 (by decide), f.2.2 3 (by decide), f.2.2 4 (by decide), f.2.2 5 (by decide), f.2.2 6 (by decide), f.2.2 8 (by decide), f.2.2 9 (by decide), f.2.2 10 (by decide), f.2.2 11 (by decide), f.2.2 12 (by decide), f.2.2 13 (by decide), f.2.2 14 (by decide)]
  exact h
theorem B0.cnt {n ln n' ln' : Nat} {σ τ σ' τ' : St} (h : B0 n ln σ τ) (h1 : n' ≤ n) (h2 : ln' ≤ ln) (a1 : σ' 1 0 = nI n') (a2 : τ' 0 0 = nI n') (a3 : σ' 3 0 = nI ln') (a4 : τ' 0 10 = nI ln') (f : ∀ c, (7 ≤ c ∧ c ≤ 12) ∨ (14 ≤ c ∧ c ≤ 20) → σ' c = σ c) (g : ∀ c, 1 ≤ c → c ≤ 14 → τ' c = τ c) : B0 n' ln' σ' τ' := by
  obtain ⟨hn, hln, c1, c2, c3, c4, hB, hR, hM, hL⟩ := h
  refine ⟨by omega, by omega, a1, a2, a3, a4, fun k hk => ?_, fun k hk => ?_, fun k hk => ?_, fun k hk => ?_⟩
  · unfold Bk; rw [f 7 (by decide), f 8 (by decide), f 9 (by decide), f 10 (by decide), f 11 (by decide), f 12 (by decide), g 1 (by decide) (by decide), g 2 (by decide) (by decide), g 3 (by decide) (by decide), g 4 (by decide) (by decide), g 5 (by decide) (by decide), g 6 (by decide) (by decide)]
    exact hB k (by omega)
  · unfold Rk; rw [f 7 (by decide), f 8 (by decide), f 9 (by decide), f 10 (by decide), f 11 (by decide), f 12 (by decide)]
    exact hR k (by omega)
  · unfold Mk; rw [f 8 (by decide), f 14 (by decide), f 15 (by decide), g 8 (by decide) (by decide), g 9 (by decide) (by decide)]
    exact hM k (by omega)
  · unfold Lk Ll; rw [f 16 (by decide), f 17 (by decide), f 18 (by decide), f 19 (by decide), f 20 (by decide), g 10 (by decide) (by decide), g 11 (by decide) (by decide), g 12 (by decide) (by decide), g 13 (by decide) (by decide), g 14 (by decide) (by decide)]
    exact hL k (by omega)
theorem st_back {σ τ : St} (h : Rel σ τ) : ∃ (r : Int32) (σ' : St) (τ' : St), f_X6_back σ = some (r, σ') ∧ f_X7_back τ = some (r, τ') ∧ Rel σ' τ' := by
  obtain ⟨n, ln, hB, hW, hs⟩ := id h
  obtain ⟨hn, hln, c1, c2, c3, c4, -⟩ := id hB
  unfold f_X6_back f_X7_back
  simp only [lf_ok, sf_ok, c1, c2, gb1]
  by_cases q : n = 0
  · subst q
    rw [if_neg (by decide), if_pos (by decide)]
    exact ⟨-3, σ, τ, rfl, rfl, h⟩
  · rw [if_pos (show (1 : Int32) ≤ nI n from nI_le (show 1 ≤ n by omega) (by omega)), if_neg (nI_ne0 (by omega) (by omega)), nI_sub1 (by omega)]
    refine ⟨nI (n - 1), _, _, by rw [ss_c _ (by decide), ss_same], by rw [ss_same], n - 1, ln, hB.cnt (by omega) (Nat.le_refl _) ?_ ?_ ?_ ?_ ?_ ?_, ?_, Or.inl (by rw [ss_same])⟩
    · rw [ss_c _ (by decide), ss_same]
    · rw [ss_same]
    · rw [ss_c _ (by decide), ss_c _ (by decide)]; exact c3
    · rw [ss_ne _ _ _ _ _ (by decide)]; exact c4
    · intro c hc; rw [ss_c _ (by omega), ss_c _ (by omega)]
    · intro c z1 z2; rw [ss_c _ (by omega)]
    · intro k hk
      rw [ss_c _ (by decide), ss_c _ (by decide), ss_c _ (by decide), ss_c _ (by decide), ss_c _ (by decide)]
      exact hW k (by omega)
theorem st_erase {σ τ : St} (h : Rel σ τ) : ∃ (r : Int32) (σ' : St) (τ' : St), f_X6_erase σ = some (r, σ') ∧ f_X7_erase τ = some (r, τ') ∧ Rel σ' τ' := by
  obtain ⟨n, ln, hB, hW, hs⟩ := id h
  obtain ⟨hn, hln, c1, c2, c3, c4, -⟩ := id hB
  unfold f_X6_erase f_X7_erase
  simp only [lf_ok, sf_ok, c3, c4, gb1]
  by_cases q : ln = 0
  · subst q
    rw [if_neg (by decide), if_pos (by decide)]
    exact ⟨-3, σ, τ, rfl, rfl, h⟩
  · rw [if_pos (show (1 : Int32) ≤ nI ln from nI_le (show 1 ≤ ln by omega) (by omega)), if_neg (nI_ne0 (by omega) (by omega)), nI_sub1 (by omega)]
    refine ⟨nI (ln - 1), _, _, by rw [ss_c _ (by decide), ss_same], by rw [ss_same], n, ln - 1, hB.cnt (Nat.le_refl _) (by omega) ?_ ?_ ?_ ?_ ?_ ?_, ?_, Or.inl (by rw [ss_same])⟩
    · rw [ss_c _ (by decide), ss_c _ (by decide)]; exact c1
    · rw [ss_ne _ _ _ _ _ (by decide)]; exact c2
    · rw [ss_c _ (by decide), ss_same]
    · rw [ss_same]
    · intro c hc; rw [ss_c _ (by omega), ss_c _ (by omega)]
    · intro c z1 z2; rw [ss_c _ (by omega)]
    · intro k hk
      rw [ss_c _ (by decide), ss_c _ (by decide), ss_c _ (by decide), ss_c _ (by decide), ss_c _ (by decide)]
      exact hW k (by omega)
theorem st_clear {σ τ : St} (h : Rel σ τ) : ∃ (r : Int32) (σ' : St) (τ' : St), f_X6_clear σ = some (r, σ') ∧ f_X7_clear τ = some (r, τ') ∧ Rel σ' τ' := by
  obtain ⟨n, ln, hB, hW, hs⟩ := id h
  obtain ⟨hn, hln, c1, c2, c3, c4, -⟩ := id hB
  unfold f_X6_clear f_X7_clear
  simp only [lf_ok, sf_ok, c1, c2, gb1]
  refine ⟨nI n, _, _, rfl, rfl, 0, 0, hB.cnt (Nat.zero_le _) (Nat.zero_le _) ?_ ?_ ?_ ?_ ?_ ?_, fun k hk => absurd hk (by omega), Or.inl (by rw [ss_same])⟩
  · rw [ss_c _ (by decide), ss_c _ (by decide), ss_same]; rfl
  · rw [ss_ne _ _ _ _ _ (by decide), ss_same]; rfl
  · rw [ss_c _ (by decide), ss_same]; rfl
  · rw [ss_same]; rfl
  · intro c hc; rw [ss_c _ (by omega), ss_c _ (by omega), ss_c _ (by omega)]
  · intro c z1 z2; rw [ss_c _ (by omega), ss_c _ (by omega)]
theorem ite01 {α : Sort _} {c : Prop} [Decidable c] {a b : α} : (if (if c then (0 : Int32) else 1) = 0 then a else b) = if c then a else b := by
  by_cases h : c
  · rw [if_pos h, if_pos h, if_pos rfl]
  · rw [if_neg h, if_neg h, if_neg (by decide)]
theorem within_v (v a b : Int32) : f_X7_within v a b = some (if v < a ∨ b < v then 0 else 1) := by
  unfold f_X7_within
  by_cases h1 : v < a <;> by_cases h2 : b < v <;> simp [h1, h2, gb0, gb1]
theorem below_v (x b : Int32) : f_X6_isBelow x b = some (if x < 0 ∨ b ≤ x then 0 else 1) := by
  unfold f_X6_isBelow
  by_cases h1 : x < 0 <;> by_cases h2 : b ≤ x <;> simp [h1, h2, gb0, gb1]
theorem span_v (x y b : Int32) : f_X6_isSpan x y b = some (if x < 0 ∨ y < x ∨ b ≤ y then 0 else 1) := by
  unfold f_X6_isSpan
  by_cases h1 : x < 0 <;> by_cases h2 : y < x <;> by_cases h3 : b ≤ y <;> simp [h1, h2, h3, gb0, gb1]
theorem lt_lit (m : Nat) (hm : m + 1 < 2 ^ 31) (x : Int32) : nI m < x ↔ nI (m + 1) ≤ x := by
  rw [Int32.lt_iff_toInt_lt, Int32.le_iff_toInt_le, nI_toInt (by omega), nI_toInt hm]
  omega
theorem lt_3 (x : Int32) : (3 : Int32) < x ↔ 4 ≤ x := lt_lit 3 (by decide) x
theorem lt_2 (x : Int32) : (2 : Int32) < x ↔ 3 ≤ x := lt_lit 2 (by decide) x
theorem lt_1 (x : Int32) : (1 : Int32) < x ↔ 2 ≤ x := lt_lit 1 (by decide) x
theorem lt_7 (x : Int32) : (7 : Int32) < x ↔ 8 ≤ x := lt_lit 7 (by decide) x
theorem lt_29 (x : Int32) : (29 : Int32) < x ↔ 30 ≤ x := lt_lit 29 (by decide) x
theorem lt_99 (x : Int32) : (99 : Int32) < x ↔ 100 ≤ x := lt_lit 99 (by decide) x
theorem lt_23 (x : Int32) : (23 : Int32) < x ↔ 24 ≤ x := lt_lit 23 (by decide) x
theorem st_words {σ τ : St} (h : Rel σ τ) (a1 a2 : Int32) : ∃ (r : Int32) (σ' : St) (τ' : St), f_X6_words a1 a2 σ = some (r, σ') ∧ f_X7_words a1 a2 τ = some (r, τ') ∧ Rel σ' τ' := by
  obtain ⟨n, ln, hB, hW, hs⟩ := id h
  obtain ⟨hn, hln, c1, c2, c3, c4, -⟩ := id hB
  unfold f_X6_words f_X7_words
  simp only [has_ok c1, isBlock_ok c2 hn, within_v, bi_ok, ite01]
  rcases idx_or a1 (show n < 2 ^ 31 by omega) with q | ⟨k, hk, rfl⟩
  · rw [if_pos q, if_pos q]; exact ⟨-1, σ, τ, rfl, rfl, h⟩
  · rw [if_neg (idx_in (by omega) hk), if_neg (idx_in (by omega) hk)]
    by_cases q1 : a2 < 1
    · rw [if_pos q1, if_pos (Or.inl q1)]; exact ⟨-2, σ, τ, rfl, rfl, h⟩
    · rw [if_neg q1]
      by_cases q2 : a2 ≤ 99
      · rw [if_pos q2, if_neg (fun z => z.elim q1 (fun z => Int32.lt_irrefl (Int32.lt_of_lt_of_le z q2)))]
        have e8 := (hB.2.2.2.2.2.2.1 k hk).2.1
        simp only [ld24 (show k < 24 by omega), sd24 (show k < 24 by omega), e8]
        by_cases q3 : σ 8 k = 1
        · rw [if_pos q3, if_pos q3, (hW k hk).1 q3]
          refine ⟨_, _, _, rfl, rfl, n, ln, ?_, ?_, ?_⟩
          · refine (hB.Cb (σ' := ss σ 13 k a2) (fun c hc => by rw [ss_c _ (by omega)])).Mb ⟨?_, ?_, fun c hc => ?_⟩
            · rw [ss_c _ (by decide)]
            · rw [ss_c _ (by decide)]
            · rw [ss_c _ (by omega)]
          · intro j hj
            rw [ss_c _ (show 8 ≠ 13 by decide), ss_if, ss_if]
            by_cases z : j = k
            · subst z
              rw [if_pos rfl, if_pos rfl]; exact ⟨fun _ => rfl, fun z => absurd q3 z⟩
            · rw [if_neg z, if_neg z]; exact hW j hj
          · rw [ss_c _ (by decide)]
            refine hs.imp id (fun ⟨z1, σ0, σ1, σ2, z2, z3, z4, z5⟩ => ⟨z1, σ0, σ1, σ2, fun c hc => ?_, z3, z4, fun c hc => ?_⟩)
            · rw [ss_c _ (by omega)]; exact z2 c hc
            · rw [ss_c _ (by omega)]; exact z5 c hc
        · rw [if_neg q3, if_neg q3]; exact ⟨-3, σ, τ, rfl, rfl, h⟩
      · rw [if_neg q2, if_pos (Or.inr (Int32.not_le.mp q2))]; exact ⟨-2, σ, τ, rfl, rfl, h⟩
/-! a block comes -/
theorem blk_c (a1 a2 a3 a4 a5 a6 : Int32) (σ : St) (Z : Option (Int32 × St)) (hZ : bi (f_X1_meets a1 a3 a4 a5 a6 σ) (fun x5 => if x5 = 0 then lf σ 1 0 (fun x6 => if x6 < 24 then lf σ 1 0 (fun x7 => bs (f_X3_forgetAllOf x7 σ) (fun σ8 => gb 1 (sf σ8 0 6 1 (fun σ9 => bp (f_X1_add a1 a2 a3 a4 a5 a6 σ9) (fun x10 σ11 => some (x10, σ11)))))) else some ((-4), σ)) else some ((-3), σ)) = Z) : f_X6_block a1 a2 a3 a4 a5 a6 σ = if a1 < 0 ∨ 4 ≤ a1 then some (-2, σ) else if a2 < 0 ∨ 3 ≤ a2 then some (-2, σ) else if a3 < 0 ∨ a4 < a3 ∨ 8 ≤ a4 then some (-2, σ) else if a5 < 0 ∨ a6 < a5 ∨ 30 ≤ a6 then some (-2, σ) else Z := by
  unfold f_X6_block
  simp only [below_v, span_v, bi_ok, ite01]
  rw [hZ]
theorem blk_m (a1 a2 a3 a4 a5 a6 : Int32) (τ : St) : f_X7_block a1 a2 a3 a4 a5 a6 τ = if a1 < 0 ∨ 4 ≤ a1 then some (-2, τ) else if a2 < 0 ∨ 3 ≤ a2 then some (-2, τ) else if a3 < 0 ∨ a4 < a3 ∨ 8 ≤ a4 then some (-2, τ) else if a5 < 0 ∨ a6 < a5 ∨ 30 ≤ a6 then some (-2, τ) else f_X7_block_L80 64 a1 a2 a3 a4 a5 a6 0 τ := by
  unfold f_X7_block
  simp only [within_v, bi_ok, ite01, f_X7_block_B48, f_X7_block_B49, lt_3, lt_2, lt_7, lt_29, o10, eq_self, if_true, if_false, reduceIte]
  by_cases q1 : a1 < 0 ∨ 4 ≤ a1
  · simp only [if_pos q1, ite_self]
  · simp only [if_neg q1]
    by_cases q2 : a2 < 0 ∨ 3 ≤ a2
    · simp only [if_pos q2, ite_self]
    · simp only [if_neg q2]
      by_cases q3 : a3 < 0 <;> by_cases q4 : a4 < a3 <;> by_cases q5 : 8 ≤ a4 <;> by_cases q6 : a5 < 0 <;> by_cases q7 : a6 < a5 <;> by_cases q8 : 30 ≤ a6 <;> simp [q3, q4, q5, q6, q7, q8]
