theorem i0 : (0 : Int32).toInt = 0 := by decide
theorem within_n (x : Int32) (n : Nat) (hn : n < 2 ^ 30) : f_X7_within x 0 (nI n - 1) = some (if x < 0 ∨ nI n ≤ x then 0 else 1) := by
  rw [within_ok]
  have e : (nI n - 1).toInt = (n : Int) - 1 := by
    show (nI n - nI 1).toInt = _
    rw [pk_sub_toInt (by omega) (by omega)]
    rfl
  by_cases h : x < 0 ∨ nI n ≤ x
  · rw [if_pos h, if_neg]
    rw [Int32.le_iff_toInt_le, Int32.le_iff_toInt_le, e, i0]
    rw [Int32.lt_iff_toInt_lt, Int32.le_iff_toInt_le, nI_toInt (by omega), i0] at h
    omega
  · rw [if_neg h, if_pos]
    rw [Int32.le_iff_toInt_le, Int32.le_iff_toInt_le, e, i0]
    rw [Int32.lt_iff_toInt_lt, Int32.le_iff_toInt_le, nI_toInt (by omega), i0] at h
    omega
theorem within_m (x : Int32) (m : Nat) (hn : m + 1 < 2 ^ 30) : f_X7_within x 0 (nI m) = some (if x < 0 ∨ nI (m + 1) ≤ x then 0 else 1) := by
  have := within_n x (m + 1) (by omega)
  rwa [nI_pred] at this
theorem has_ok {σ : St} {n : Nat} (hc : σ 1 0 = nI n) (x : Int32) : f_X1_has x σ = some (if x < 0 ∨ nI n ≤ x then 0 else 1) := by
  unfold f_X1_has
  rw [lf_ok, hc]
  by_cases h1 : x < 0 <;> by_cases h2 : nI n ≤ x <;> simp [h1, h2, gb0, gb1]
theorem hasL_ok {σ : St} {n : Nat} (hc : σ 3 0 = nI n) (x : Int32) : f_X2_has x σ = some (if x < 0 ∨ nI n ≤ x then 0 else 1) := by
  unfold f_X2_has
  rw [lf_ok, hc]
  by_cases h1 : x < 0 <;> by_cases h2 : nI n ≤ x <;> simp [h1, h2, gb0, gb1]
theorem isBlock_ok {τ : St} {n : Nat} (hc : τ 0 0 = nI n) (hn : n ≤ 24) (x : Int32) : f_X7_isBlock x τ = some (if x < 0 ∨ nI n ≤ x then 0 else 1) := by
  unfold f_X7_isBlock
  rw [lf_ok, hc, within_n x n (by omega), bi_ok]
  by_cases h : x < 0 ∨ nI n ≤ x
  · rw [if_pos h, gb0]
  · rw [if_neg h, gb1]
/-- a number of a row, or none -/
theorem idx_or (x : Int32) {n : Nat} (hn : n < 2 ^ 31) : (x < 0 ∨ nI n ≤ x) ∨ ∃ k, k < n ∧ x = nI k := by
  rcases pk_ix x hn with h | h | h
  · exact Or.inl (Or.inl h)
  · exact Or.inl (Or.inr h)
  · exact Or.inr h
theorem idx_in {n k : Nat} (hn : n < 2 ^ 31) (hk : k < n) : ¬ (nI k < 0 ∨ nI n ≤ nI k) := by
  rintro (h | h)
  · exact nI_pos (by omega) h
  · exact nI_ge hk hn h
theorem nle_of {a b : Nat} (h : a < b) (hb : b < 2 ^ 31) : ¬ nI b ≤ nI a := nI_ge h hb
/-! upright lines -/
set_option maxHeartbeats 1000000 in
theorem p_upL {n ln : Nat} {σ τ : St} (h : B0 n ln σ τ) (a1 a2 a3 a4 : Int32) : ∀ (d k f : Nat), k + d = ln → d < f → ∃ r : Int32, (r = 0 ∨ r = 1) ∧ f_X2_hasUpright_L3 σ f a1 a2 a3 a4 (nI k) = some r ∧ f_X7_isUpright_L3 τ f a1 a2 a3 a4 (nI k) = some r := by
  obtain ⟨hn, hln, c1, c2, c3, c4, hB, hR, hM, hL⟩ := h
  intro d
  induction d with
  | zero =>
    intro k f hk hf
    obtain ⟨f, rfl⟩ : ∃ g, f = g + 1 := ⟨f - 1, by omega⟩
    refine ⟨0, Or.inl rfl, ?_, ?_⟩
    · rw [f_X2_hasUpright_L3, lf_ok, c3, if_pos (nI_le (by omega) (by omega)), gb0]
    · rw [f_X7_isUpright_L3, lf_ok, c4, if_pos (nI_le (by omega) (by omega)), gb0]
  | succ d ih =>
    intro k f hk hf
    obtain ⟨f, rfl⟩ : ∃ g, f = g + 1 := ⟨f - 1, by omega⟩
    have hk1 : k < ln := by omega
    have hk12 : k < 12 := by omega
    obtain ⟨⟨l1, l2, l3, l4, l5⟩, -⟩ := hL k hk1
    obtain ⟨r, hr, h1, h2⟩ := ih (k + 1) f (by omega) (by omega)
    rw [f_X2_hasUpright_L3, f_X7_isUpright_L3]
    simp only [lf_ok, c3, c4, if_neg (nle_of hk1 (by omega)), ld12 hk12, f_X2_hasUpright_B48, f_X2_hasUpright_B49, l1, l2, l3, l4, l5, nI_1, h1, h2, gb1]
    by_cases q1 : σ 17 k = 0 <;> by_cases q2 : σ 16 k = a1 <;> by_cases q3 : σ 18 k = a2 <;> by_cases q4 : a4 < σ 19 k <;> by_cases q5 : σ 20 k < a3 <;>
      simp only [q1, q2, q3, q4, q5, if_true, if_false, reduceIte] <;> first | exact ⟨r, hr, rfl, rfl⟩ | exact ⟨1, Or.inr rfl, rfl, rfl⟩ | exact ⟨r, hr, by simp, by simp⟩ | exact ⟨1, Or.inr rfl, by simp, by simp⟩
theorem p_up {n ln : Nat} {σ τ : St} (h : B0 n ln σ τ) (a1 a2 a3 a4 : Int32) : ∃ r : Int32, (r = 0 ∨ r = 1) ∧ f_X2_hasUpright a1 a2 a3 a4 σ = some r ∧ f_X7_isUpright a1 a2 a3 a4 τ = some r := by
  have := p_upL h a1 a2 a3 a4 ln 0 64 (by omega) (by have := h.2.1; omega)
  exact this
