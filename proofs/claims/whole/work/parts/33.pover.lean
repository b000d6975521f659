/-! which head a block is under -/
set_option maxHeartbeats 1000000 in
theorem p_hoL {n ln : Nat} {σ τ : St} (h : B0 n ln σ τ) (w : Nat) (hw : w < n) (hk0 : ¬ σ 8 w = 0) : ∀ (d k f : Nat), k + d = n → d < f → ∃ r : Int32, (r = -9 ∨ ∃ j, j < n ∧ σ 8 j = 0 ∧ r = nI j) ∧ f_X4_headOver_L2 σ f (nI w) (nI k) = some r ∧ f_X7_headOver_L2 τ f (nI w) (nI k) = some r := by
  have hB0 := h
  obtain ⟨hn, hln, c1, c2, c3, c4, hB, hR, hM, hL⟩ := h
  have hw24 : w < 24 := by omega
  obtain ⟨w1, w2, w3, w4, w5, w6⟩ := hB w hw
  intro d
  induction d with
  | zero =>
    intro k f hk hf
    obtain ⟨f, rfl⟩ : ∃ g, f = g + 1 := ⟨f - 1, by omega⟩
    refine ⟨-9, Or.inl rfl, ?_, ?_⟩
    · rw [f_X4_headOver_L2, lf_ok, c1, if_pos (nI_le (by omega) (by omega))]
    · rw [f_X7_headOver_L2, lf_ok, c2, if_pos (nI_le (by omega) (by omega))]
  | succ d ih =>
    intro k f hk hf
    obtain ⟨f, rfl⟩ : ∃ g, f = g + 1 := ⟨f - 1, by omega⟩
    have hk1 : k < n := by omega
    have hk24 : k < 24 := by omega
    obtain ⟨l1, l2, l3, l4, l5, l6⟩ := hB k hk1
    obtain ⟨r, hr, h1, h2⟩ := ih (k + 1) f (by omega) (by omega)
    obtain ⟨v, -, v1, v2⟩ := p_lastRow hB0 k hk1 (σ 9 w)
    rw [f_X4_headOver_L2, f_X7_headOver_L2]
    simp only [lf_ok, c1, c2, if_neg (nle_of hk1 (show n < 2 ^ 31 by omega)), ld24 hk24, ld24 hw24, f_X4_headOver_B59, f_X4_headOver_B60, f_X7_headOver_B62, f_X7_headOver_B63, l1, l2, l3, l4, l5, l6, w1, w2, w3, w4, w5, w6, nI_1, v1, v2, bi_ok, if_neg hk0]
    by_cases q1 : σ 8 k = 0 <;> by_cases q2 : σ 7 k = σ 7 w <;> by_cases q3 : σ 11 w ≤ σ 12 k <;> by_cases q4 : v < σ 11 w <;>
      simp only [q1, q2, q3, q4, if_true, if_false, reduceIte, o10, eq_self] <;> first | exact ⟨r, hr, h1, h2⟩ | exact ⟨nI k, Or.inr ⟨k, hk1, q1, rfl⟩, rfl, rfl⟩
theorem p_ho {n ln : Nat} {σ τ : St} (h : B0 n ln σ τ) (w : Nat) (hw : w < n) (hk0 : ¬ σ 8 w = 0) : ∃ r : Int32, (r = -9 ∨ ∃ j, j < n ∧ σ 8 j = 0 ∧ r = nI j) ∧ f_X4_headOver (nI w) σ = some r ∧ f_X7_headOver (nI w) τ = some r := p_hoL h w hw hk0 n 0 64 (by omega) (by have := h.1; omega)
set_option maxHeartbeats 1000000 in
theorem p_ho0L {n ln : Nat} {σ τ : St} (h : B0 n ln σ τ) (w : Nat) (hw : w < n) (hk0 : σ 8 w = 0) : ∀ (d k f : Nat), k + d = n → d < f → f_X7_headOver_L2 τ f (nI w) (nI k) = some (-9) := by
  obtain ⟨hn, hln, c1, c2, c3, c4, hB, hR, hM, hL⟩ := h
  have hw24 : w < 24 := by omega
  obtain ⟨w1, w2, w3, w4, w5, w6⟩ := hB w hw
  intro d
  induction d with
  | zero =>
    intro k f hk hf
    obtain ⟨f, rfl⟩ : ∃ g, f = g + 1 := ⟨f - 1, by omega⟩
    rw [f_X7_headOver_L2, lf_ok, c2, if_pos (nI_le (by omega) (by omega))]
  | succ d ih =>
    intro k f hk hf
    obtain ⟨f, rfl⟩ : ∃ g, f = g + 1 := ⟨f - 1, by omega⟩
    have hk1 : k < n := by omega
    have hk24 : k < 24 := by omega
    have h2 := ih (k + 1) f (by omega) (by omega)
    rw [f_X7_headOver_L2]
    simp only [lf_ok, c1, c2, if_neg (nle_of hk1 (show n < 2 ^ 31 by omega)), ld24 hk24, ld24 hw24, f_X7_headOver_B62, f_X7_headOver_B63, w1, w2, w3, w4, w5, w6, nI_1, bi_ok, if_pos hk0, h2, eq_self, if_true, reduceIte]
    simp only [ite_self]
theorem p_ho0 {n ln : Nat} {σ τ : St} (h : B0 n ln σ τ) (w : Nat) (hw : w < n) (hk0 : σ 8 w = 0) : f_X7_headOver (nI w) τ = some (-9) := p_ho0L h w hw hk0 n 0 64 (by omega) (by have := h.1; omega)
/-! which of two texts is ahead: by a number -/
def ky (σ : St) (k : Nat) : Nat := (σ 9 k).toNatClampNeg * 30 + (σ 11 k).toNatClampNeg
theorem p_ah {n ln : Nat} {σ τ : St} (h : B0 n ln σ τ) (i j : Nat) (hi : i < n) (hj : j < n) : f_X1_isAhead (nI i) (nI j) σ = some (if ky σ i < ky σ j then 1 else 0) ∧ f_X7_isAhead (nI i) (nI j) τ = some (if ky σ i < ky σ j then 1 else 0) := by
  obtain ⟨hn, hln, c1, c2, c3, c4, hB, hR, hM, hL⟩ := h
  obtain ⟨-, -, l3, -, l5, -⟩ := hB i hi
  obtain ⟨-, -, m3, -, m5, -⟩ := hB j hj
  obtain ⟨p, q, x, y, t, u, e1, e2, e3, e4, e5, e6, g1, g2, g3, g4, g5, g6⟩ := hR i hi
  obtain ⟨p', q', x', y', t', u', e1', e2', e3', e4', e5', e6', g1', g2', g3', g4', g5', g6'⟩ := hR j hj
  unfold f_X1_isAhead f_X7_isAhead ky
  simp only [ld24 (show i < 24 by omega), ld24 (show j < 24 by omega), l3, l5, m3, m5, g3, g5, g3', g5', nI_clamp (show x < 2 ^ 31 by omega), nI_clamp (show x' < 2 ^ 31 by omega), nI_clamp (show t < 2 ^ 31 by omega), nI_clamp (show t' < 2 ^ 31 by omega), nI_ltI (show x < 2 ^ 31 by omega) (show x' < 2 ^ 31 by omega), nI_eq (show x < 2 ^ 31 by omega) (show x' < 2 ^ 31 by omega), nI_leI (show t' < 2 ^ 31 by omega) (show t < 2 ^ 31 by omega), nI_leI (show x' < 2 ^ 31 by omega) (show x < 2 ^ 31 by omega), gb0, gb1]
  constructor
  · by_cases q1 : x < x'
    · rw [if_pos q1, if_pos (by omega)]
    · rw [if_neg q1]
      by_cases q2 : x = x'
      · rw [if_pos q2]
        by_cases q3 : t' ≤ t
        · rw [if_pos q3, if_neg (by omega)]
        · rw [if_neg q3, if_pos (by omega)]
      · rw [if_neg q2, if_neg (by omega)]
  · by_cases q2 : x = x'
    · rw [if_pos q2]
      by_cases q3 : t' ≤ t
      · rw [if_pos q3, if_neg (by omega)]
      · rw [if_neg q3, if_pos (by omega)]
    · rw [if_neg q2]
      by_cases q3 : x' ≤ x
      · rw [if_pos q3, if_neg (by omega)]
      · rw [if_neg q3, if_pos (by omega)]
/-! who takes whom: root of the class and headOf of the reference agree on texts -/
def Hr (n : Nat) (σ τ : St) : Prop := ∀ k, k < n → σ 8 k = 1 → τ 16 k = σ 23 k
set_option maxHeartbeats 2000000 in
theorem p_takes {n ln : Nat} {σ τ : St} (h : B0 n ln σ τ) (hh : Hr n σ τ) (y x : Nat) (hy : y < n) (hx : x < n) : ∃ r : Int32, (r = 0 ∨ r = 1 ∧ σ 8 y = 1 ∧ σ 23 y ≠ -9) ∧ f_X5_takes (nI y) (nI x) σ = some r ∧ f_X7_takes (nI y) (nI x) τ = some r := by
  have hB0 := h
  obtain ⟨hn, hln, c1, c2, c3, c4, hB, hR, hM, hL⟩ := h
  obtain ⟨l1, l2, l3, l4, l5, l6⟩ := hB y hy
  obtain ⟨m1, m2, m3, m4, m5, m6⟩ := hB x hx
  obtain ⟨p, q, a, b, t, u, e1, e2, e3, e4, e5, e6, g1, g2, g3, g4, g5, g6⟩ := hR y hy
  obtain ⟨p', q', a', b', t', u', e1', e2', e3', e4', e5', e6', g1', g2', g3', g4', g5', g6'⟩ := hR x hx
  have hy24 : y < 24 := by omega
  have hx24 : x < 24 := by omega
  obtain ⟨r, hr, r1, r2⟩ := p_up hB0 (σ 7 x) (nI a') (nI (max t t')) (nI (min u u'))
  have M1 : ∀ {z : Option Int32}, z = (if nI (min u u') < nI (max t t') then gb 0 (some 0) else bi (f_X7_isUpright (σ 7 x) (nI a') (nI (max t t')) (nI (min u u')) τ) fun x3 => if x3 = 0 then gb 1 (some 1) else gb 0 (some 0)) → z = if min u u' < max t t' then some 0 else if r = 0 then some 1 else some 0 := by
    intro z hz
    rw [hz, r2]
    simp only [bi_ok, gb0, gb1]
    by_cases q : min u u' < max t t'
    · rw [if_pos (nI_lt q (by omega)), if_pos q]
    · rw [if_neg (nI_nlt (by omega) (by omega)), if_neg q]
  unfold f_X5_takes f_X7_takes
  simp only [ld24 hy24, ld24 hx24, f_X5_takes_B28, f_X5_takes_B29, f_X5_takes_B78, f_X5_takes_B79, l1, l2, l3, l4, l5, l6, m1, m2, m3, m4, m5, m6, g3', g4, g5, g5', g6, g6', jmin_nI (show u < 2 ^ 31 by omega) (show u' < 2 ^ 31 by omega), jmax_nI (show t < 2 ^ 31 by omega) (show t' < 2 ^ 31 by omega), r1, bi_ok, gb0, gb1, o10, eq_self, if_true, if_false, reduceIte, nI_1]
  by_cases q1 : σ 8 y = 1
  · rw [hh y hy q1]
    simp only [q1, if_true, reduceIte]
    by_cases q2 : σ 23 y = -9
    · simp only [q2, if_true, reduceIte]
      refine ⟨0, Or.inl rfl, ?_, rfl⟩
      simp only [ite_self]
    · simp only [q2, if_false, reduceIte]
      by_cases q3 : σ 7 y = σ 7 x
      · simp only [q3, if_true, reduceIte]
        by_cases q4 : b + 1 = a'
        · have q4' : nI (b + 1) = nI a' := by rw [q4]
          have q4'' : nI b = nI a' - 1 := by rw [nI_sub1 (by omega)]; congr 1; omega
          rw [if_pos q4', if_pos q4'']
          have E : (if nI t' ≤ nI t then f_X7_takes_B85 τ (nI y) (nI x) (nI t) else f_X7_takes_B85 τ (nI y) (nI x) (nI t')) = if min u u' < max t t' then some 0 else if r = 0 then some 1 else some 0 := by
            apply M1
            unfold f_X7_takes_B85 f_X7_takes_B116
            simp only [ld24 hy24, ld24 hx24, l6, m6, m1, m3, g6, g6', g3']
            by_cases z1 : t' ≤ t <;> by_cases z2 : u ≤ u'
            · rw [if_pos (nI_le z1 (by omega)), if_pos (nI_le z2 (by omega)), Nat.max_eq_left z1, Nat.min_eq_left z2]
            · rw [if_pos (nI_le z1 (by omega)), if_neg (nle_of (by omega) (by omega)), Nat.max_eq_left z1, Nat.min_eq_right (by omega)]
            · rw [if_neg (nle_of (by omega) (by omega)), if_pos (nI_le z2 (by omega)), Nat.max_eq_right (by omega), Nat.min_eq_left z2]
            · rw [if_neg (nle_of (by omega) (by omega)), if_neg (nle_of (by omega) (by omega)), Nat.max_eq_right (by omega), Nat.min_eq_right (by omega)]
          rw [E]
          by_cases z : min u u' < max t t'
          · rw [if_pos z, if_pos (nI_lt z (by omega))]; exact ⟨0, Or.inl rfl, rfl, rfl⟩
          · rw [if_neg z, if_neg (nI_nlt (by omega) (by omega))]
            by_cases z2 : r = 0
            · rw [if_pos z2]; exact ⟨1, Or.inr ⟨rfl, trivial, q2⟩, rfl, rfl⟩
            · rw [if_neg z2]; exact ⟨0, Or.inl rfl, rfl, rfl⟩
        · have q4' : ¬ nI (b + 1) = nI a' := fun e => q4 ((nI_eq (by omega) (by omega)).mp e)
          have q4'' : ¬ nI b = nI a' - 1 := by
            intro e
            rcases Nat.eq_zero_or_pos a' with z | z
            · subst z
              have := congrArg Int32.toInt e
              rw [nI_toInt (by omega), show (nI 0 - 1).toInt = -1 by decide] at this
              omega
            · rw [nI_sub1 (by omega), nI_eq (by omega) (by omega)] at e
              omega
          rw [if_neg q4', if_neg q4'']
          exact ⟨0, Or.inl rfl, rfl, rfl⟩
      · simp only [q3, if_false, reduceIte]
        exact ⟨0, Or.inl rfl, rfl, rfl⟩
  · simp only [q1, if_false, reduceIte]
    refine ⟨0, Or.inl rfl, ?_, rfl⟩
    simp only [ite_self]
set_option maxHeartbeats 1000000 in
theorem p_tkL {n ln : Nat} {σ τ : St} (h : B0 n ln σ τ) (hh : Hr n σ τ) (x : Nat) (hx : x < n) : ∀ (d k f : Nat) (b : Int32), k + d = n → d < f → (b = -9 ∨ ∃ j, j < n ∧ σ 8 j = 1 ∧ σ 23 j ≠ -9 ∧ b = nI j) → ∃ r : Int32, (r = -9 ∨ ∃ j, j < n ∧ σ 8 j = 1 ∧ σ 23 j ≠ -9 ∧ r = nI j) ∧ f_X5_takerFor_L5 σ f (nI x) b (nI k) = some r ∧ f_X7_takerNow_L5 τ f (nI x) b (nI k) = some r := by
  have hB0 := h
  obtain ⟨hn, hln, c1, c2, c3, c4, hB, hR, hM, hL⟩ := h
  intro d
  induction d with
  | zero =>
    intro k f b hk hf hb
    obtain ⟨f, rfl⟩ : ∃ g, f = g + 1 := ⟨f - 1, by omega⟩
    refine ⟨b, hb, ?_, ?_⟩
    · rw [f_X5_takerFor_L5, lf_ok, c1, if_pos (nI_le (by omega) (by omega))]
    · rw [f_X7_takerNow_L5, lf_ok, c2, if_pos (nI_le (by omega) (by omega))]
  | succ d ih =>
    intro k f b hk hf hb
    obtain ⟨f, rfl⟩ : ∃ g, f = g + 1 := ⟨f - 1, by omega⟩
    have hk1 : k < n := by omega
    have hk24 : k < 24 := by omega
    have l5 := (hB k hk1).2.2.2.2.1
    obtain ⟨v, hv, v1, v2⟩ := p_takes hB0 hh k x hk1 hx
    rw [f_X5_takerFor_L5, f_X7_takerNow_L5]
    simp only [lf_ok, c1, c2, if_neg (nle_of hk1 (show n < 2 ^ 31 by omega)), f_X7_takerNow_B43, nI_1, v1, v2, bi_ok]
    rcases hv with hv | ⟨hv, k1, k2⟩
    · subst hv
      simp only [eq_self, if_true, reduceIte]
      exact ih (k + 1) f b (by omega) (by omega) hb
    · subst hv
      simp only [o10, if_false, reduceIte]
      have hkk : nI k = -9 ∨ ∃ j, j < n ∧ σ 8 j = 1 ∧ σ 23 j ≠ -9 ∧ nI k = nI j := Or.inr ⟨k, hk1, k1, k2, rfl⟩
      rcases hb with hb | ⟨j, j1, j2, j3, hb⟩
      · subst hb
        simp only [eq_self, if_true, reduceIte]
        exact ih (k + 1) f (nI k) (by omega) (by omega) hkk
      · subst hb
        simp only [if_neg (nI_ne9 (show j < 2 ^ 31 by omega)), ld24 hk24, ld24 (show j < 24 by omega), l5, (hB j j1).2.2.2.2.1]
        by_cases q : σ 11 j ≤ σ 11 k
        · simp only [if_pos q]
          exact ih (k + 1) f (nI j) (by omega) (by omega) (Or.inr ⟨j, j1, j2, j3, rfl⟩)
        · simp only [if_neg q]
          exact ih (k + 1) f (nI k) (by omega) (by omega) hkk
theorem p_tk {n ln : Nat} {σ τ : St} (h : B0 n ln σ τ) (hh : Hr n σ τ) (x : Nat) (hx : x < n) : ∃ r : Int32, (r = -9 ∨ ∃ j, j < n ∧ σ 8 j = 1 ∧ σ 23 j ≠ -9 ∧ r = nI j) ∧ f_X5_takerFor (nI x) σ = some r ∧ f_X7_takerNow (nI x) τ = some r := p_tkL h hh x hx n 0 64 (-9) (by omega) (by have := h.1; omega) (Or.inl rfl)
