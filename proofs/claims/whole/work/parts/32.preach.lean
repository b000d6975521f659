theorem nI_sub1 {a : Nat} (h : 1 ≤ a) : nI a - 1 = nI (a - 1) := by
  obtain ⟨b, rfl⟩ : ∃ b, a = b + 1 := ⟨a - 1, by omega⟩
  exact nI_pred b
theorem o10 : ((1 : Int32) = 0) = False := eq_false (by decide)
/-! the first block that meets a place -/
set_option maxHeartbeats 1000000 in
theorem p_atL {n ln : Nat} {σ τ : St} (h : B0 n ln σ τ) (pg x y : Int32) : ∀ (d k f : Nat), k + d = n → d < f → ∃ r : Int32, f_X1_firstIn_L3 σ f pg x x y y (nI k) = some r ∧ f_X7_at_L35 τ f pg x y (nI k) = some r := by
  obtain ⟨hn, hln, c1, c2, c3, c4, hB, hR, hM, hL⟩ := h
  intro d
  induction d with
  | zero =>
    intro k f hk hf
    obtain ⟨f, rfl⟩ : ∃ g, f = g + 1 := ⟨f - 1, by omega⟩
    refine ⟨-9, ?_, ?_⟩
    · rw [f_X1_firstIn_L3, lf_ok, c1, if_pos (nI_le (by omega) (by omega))]
    · rw [f_X7_at_L35, lf_ok, c2, if_pos (nI_le (by omega) (by omega))]
  | succ d ih =>
    intro k f hk hf
    obtain ⟨f, rfl⟩ : ∃ g, f = g + 1 := ⟨f - 1, by omega⟩
    have hk1 : k < n := by omega
    have hk24 : k < 24 := by omega
    obtain ⟨l1, l2, l3, l4, l5, l6⟩ := hB k hk1
    obtain ⟨r, h1, h2⟩ := ih (k + 1) f (by omega) (by omega)
    rw [f_X1_firstIn_L3, f_X7_at_L35]
    simp only [lf_ok, c1, c2, if_neg (nle_of hk1 (by omega)), ld24 hk24, f_X1_firstIn_B38, f_X1_firstIn_B39, f_X1_firstIn_B69, f_X1_firstIn_B70, f_X7_isMeeting, l1, l2, l3, l4, l5, l6, nI_1, h1, h2, gb1, gb0]
    by_cases q1 : σ 7 k = pg <;> by_cases q2 : x < σ 9 k <;> by_cases q3 : σ 10 k < x <;> by_cases q4 : y < σ 11 k <;> by_cases q5 : σ 12 k < y <;>
      simp only [q1, q2, q3, q4, q5, if_true, if_false, reduceIte, bi_ok] <;> first | exact ⟨r, rfl, rfl⟩ | exact ⟨nI k, rfl, rfl⟩ | exact ⟨r, by simp, by simp⟩ | exact ⟨nI k, by simp, by simp⟩
set_option maxHeartbeats 1000000 in
theorem p_blkL {n ln : Nat} {σ τ : St} (h : B0 n ln σ τ) (a1 a2 a3 a4 a5 a6 : Int32) : ∀ (d k f : Nat), k + d = n → d < f → ∃ r : Int32, (r = -9 ∨ ∃ j, j < n ∧ r = nI j) ∧ f_X1_firstIn_L3 σ f a1 a3 a4 a5 a6 (nI k) = some r ∧ f_X7_block_L80 f a1 a2 a3 a4 a5 a6 (nI k) τ = if r = -9 then f_X7_block_L80 1 a1 a2 a3 a4 a5 a6 (nI n) τ else some (-3, τ) := by
  obtain ⟨hn, hln, c1, c2, c3, c4, hB, hR, hM, hL⟩ := h
  intro d
  induction d with
  | zero =>
    intro k f hk hf
    obtain ⟨f, rfl⟩ : ∃ g, f = g + 1 := ⟨f - 1, by omega⟩
    refine ⟨-9, Or.inl rfl, ?_, ?_⟩
    · rw [f_X1_firstIn_L3, lf_ok, c1, if_pos (nI_le (by omega) (by omega))]
    · have e : k = n := by omega
      subst e
      rw [if_pos rfl, f_X7_block_L80, f_X7_block_L80]
      simp only [lf_ok, c2, if_pos (nI_le (Nat.le_refl k) (show k < 2 ^ 31 by omega))]
  | succ d ih =>
    intro k f hk hf
    obtain ⟨f, rfl⟩ : ∃ g, f = g + 1 := ⟨f - 1, by omega⟩
    have hk1 : k < n := by omega
    have hk24 : k < 24 := by omega
    obtain ⟨l1, l2, l3, l4, l5, l6⟩ := hB k hk1
    obtain ⟨r, hr, h1, h2⟩ := ih (k + 1) f (by omega) (by omega)
    have h9 : ¬ nI k = -9 := nI_ne9 (by omega)
    rw [f_X1_firstIn_L3]
    conv => enter [1, r, 2, 2, 1]; rw [f_X7_block_L80]
    simp only [lf_ok, c1, c2, if_neg (nle_of hk1 (by omega)), ld24 hk24, f_X1_firstIn_B38, f_X1_firstIn_B39, f_X1_firstIn_B69, f_X1_firstIn_B70, f_X7_isMeeting, l1, l2, l3, l4, l5, l6, nI_1, h1, h2, gb1, gb0]
    by_cases q1 : σ 7 k = a1 <;> by_cases q2 : a4 < σ 9 k <;> by_cases q3 : σ 10 k < a3 <;> by_cases q4 : a6 < σ 11 k <;> by_cases q5 : σ 12 k < a5 <;>
      simp only [q1, q2, q3, q4, q5, if_true, if_false, reduceIte, bi_ok] <;> first | exact ⟨r, hr, rfl, rfl⟩ | exact ⟨nI k, Or.inr ⟨k, hk1, rfl⟩, rfl, (if_neg h9).symm⟩ | exact ⟨r, hr, by simp, by simp⟩ | exact ⟨nI k, Or.inr ⟨k, hk1, rfl⟩, by simp, by simp [h9]⟩
/-! how far a head reaches down -/
theorem jmin_nI {a b : Nat} (ha : a < 2 ^ 31) (hb : b < 2 ^ 31) : jmin (nI a) (nI b) = nI (min a b) := by
  unfold jmin
  by_cases h : b < a
  · rw [if_pos (nI_lt h (by omega)), Nat.min_eq_right (by omega)]
  · rw [if_neg (nI_nlt (by omega) (by omega)), Nat.min_eq_left (by omega)]
theorem jmax_nI {a b : Nat} (ha : a < 2 ^ 31) (hb : b < 2 ^ 31) : jmax (nI a) (nI b) = nI (max a b) := by
  unfold jmax
  by_cases h : a < b
  · rw [if_pos (nI_lt h (by omega)), Nat.max_eq_right (by omega)]
  · rw [if_neg (nI_nlt (by omega) (by omega)), Nat.max_eq_left (by omega)]
set_option maxHeartbeats 1000000 in
theorem p_hbL {n ln : Nat} {σ τ : St} (h : B0 n ln σ τ) (w u : Nat) (hw : w < n) (hu : u < 30) (col : Int32) : ∀ (d k f a : Nat), k + d = n → d < f → 1 ≤ a → a ≤ 30 → ∃ a' : Nat, 1 ≤ a' ∧ a' ≤ 30 ∧ f_X1_headBelow_L7 σ f (σ 7 w) col (nI u) (nI a) (nI k) = some (nI a') ∧ f_X7_lastRow_L26 τ f (nI w) col (nI u) (nI (a - 1)) (nI k) = f_X7_lastRow_L144 τ 64 (nI w) col (nI u) (nI (a' - 1)) 0 := by
  obtain ⟨hn, hln, c1, c2, c3, c4, hB, hR, hM, hL⟩ := h
  have w1 := (hB w hw).1
  have hw24 : w < 24 := by omega
  intro d
  induction d with
  | zero =>
    intro k f a hk hf ha1 ha2
    obtain ⟨f, rfl⟩ : ∃ g, f = g + 1 := ⟨f - 1, by omega⟩
    refine ⟨a, ha1, ha2, ?_, ?_⟩
    · rw [f_X1_headBelow_L7, lf_ok, c1, if_pos (nI_le (by omega) (by omega))]
    · rw [f_X7_lastRow_L26, lf_ok, c2, if_pos (nI_le (by omega) (by omega))]
  | succ d ih =>
    intro k f a hk hf ha1 ha2
    obtain ⟨f, rfl⟩ : ∃ g, f = g + 1 := ⟨f - 1, by omega⟩
    have hk1 : k < n := by omega
    have hk24 : k < 24 := by omega
    obtain ⟨l1, l2, l3, l4, l5, l6⟩ := hB k hk1
    obtain ⟨p, q, x, y, t, v, e1, e2, e3, e4, e5, e6, g1, g2, g3, g4, g5, g6⟩ := hR k hk1
    obtain ⟨a', ha1', ha2', h1, h2⟩ := ih (k + 1) f a (by omega) (by omega) ha1 ha2
    rw [f_X1_headBelow_L7, f_X7_lastRow_L26]
    simp only [lf_ok, c1, c2, if_neg (nle_of hk1 (by omega)), ld24 hk24, ld24 hw24, f_X1_headBelow_B42, f_X1_headBelow_B43, f_X7_lastRow_B97, f_X7_lastRow_B98, f_X7_within, l1, l2, l3, l4, l5, l6, w1, nI_1, gb1, gb0]
    by_cases q1 : σ 7 k = σ 7 w <;> by_cases q2 : σ 8 k = 0 <;> by_cases q3 : col < σ 9 k <;> by_cases q4 : σ 10 k < col <;> by_cases q5 : σ 11 k ≤ nI u <;>
      simp only [q1, q2, q3, q4, q5, if_true, if_false, reduceIte, bi_ok, o10, eq_self] <;> first | exact ⟨a', ha1', ha2', h1, h2⟩ | skip
    rw [g5] at q5 ⊢
    rw [nI_leI (by omega) (by omega)] at q5
    rw [jmin_nI (by omega) (by omega), nI_sub1 (by omega)]
    obtain ⟨b', hb1, hb2, h3, h4⟩ := ih (k + 1) f (min a t) (by omega) (by omega) (by omega) (by omega)
    refine ⟨b', hb1, hb2, h3, ?_⟩
    by_cases q6 : a ≤ t
    · rw [if_pos (nI_le (by omega) (by omega))]
      rw [Nat.min_eq_left q6] at h4
      exact h4
    · rw [if_neg (nle_of (by omega) (by omega))]
      rw [Nat.min_eq_right (by omega)] at h4
      exact h4
set_option maxHeartbeats 1000000 in
theorem p_fbL {n ln : Nat} {σ τ : St} (h : B0 n ln σ τ) (w u A : Nat) (hw : w < n) (hu : u < 30) (hA1 : 1 ≤ A) (hA2 : A ≤ 30) (col : Int32) : ∀ (d k f a : Nat), k + d = ln → d < f → 1 ≤ a → a ≤ 30 → ∃ a' : Nat, 1 ≤ a' ∧ a' ≤ 30 ∧ f_X2_flatBelow_L7 σ f (σ 7 w) col (nI u) (nI a) (nI k) = some (nI a') ∧ f_X7_lastRow_L144 τ f (nI w) col (nI u) (nI (min A a - 1)) (nI k) = if nI (min A a' - 1) ≤ nI u then some (-9) else some (nI (min A a' - 1)) := by
  obtain ⟨hn, hln, c1, c2, c3, c4, hB, hR, hM, hL⟩ := h
  have w1 := (hB w hw).1
  have hw24 : w < 24 := by omega
  intro d
  induction d with
  | zero =>
    intro k f a hk hf ha1 ha2
    obtain ⟨f, rfl⟩ : ∃ g, f = g + 1 := ⟨f - 1, by omega⟩
    refine ⟨a, ha1, ha2, ?_, ?_⟩
    · rw [f_X2_flatBelow_L7, lf_ok, c3, if_pos (nI_le (by omega) (by omega))]
    · rw [f_X7_lastRow_L144, lf_ok, c4, if_pos (nI_le (by omega) (by omega))]
  | succ d ih =>
    intro k f a hk hf ha1 ha2
    obtain ⟨f, rfl⟩ : ∃ g, f = g + 1 := ⟨f - 1, by omega⟩
    have hk1 : k < ln := by omega
    have hk12 : k < 12 := by omega
    obtain ⟨⟨l1, l2, l3, l4, l5⟩, p, v, x, y, z, e1, e2, e3, e4, e5, e6, e7, e8, g1, g2, g3, g4, g5⟩ := hL k hk1
    obtain ⟨a', ha1', ha2', h1, h2⟩ := ih (k + 1) f a (by omega) (by omega) ha1 ha2
    rw [f_X2_flatBelow_L7, f_X7_lastRow_L144]
    simp only [lf_ok, c3, c4, if_neg (nle_of hk1 (show ln < 2 ^ 31 by omega)), ld12 hk12, ld24 hw24, f_X2_flatBelow_B53, f_X2_flatBelow_B54, f_X7_lastRow_B216, f_X7_lastRow_B217, f_X7_within, l1, l2, l3, l4, l5, w1, nI_1, gb1, gb0]
    by_cases q1 : σ 16 k = σ 7 w <;> by_cases q2 : σ 17 k = 1 <;> by_cases q3 : col < σ 19 k <;> by_cases q4 : σ 20 k < col <;> by_cases q5 : σ 18 k ≤ nI u <;>
      simp only [q1, q2, q3, q4, q5, if_true, if_false, reduceIte, bi_ok, o10, eq_self] <;> first | exact ⟨a', ha1', ha2', h1, h2⟩ | skip
    rw [g3] at q5 ⊢
    rw [nI_leI (by omega) (by omega)] at q5
    rw [jmin_nI (by omega) (by omega), nI_sub1 (by omega)]
    obtain ⟨b', hb1, hb2, h3, h4⟩ := ih (k + 1) f (min a x) (by omega) (by omega) (by omega) (by omega)
    refine ⟨b', hb1, hb2, h3, ?_⟩
    by_cases q6 : min A a ≤ x
    · rw [if_pos (nI_le (by omega) (by omega))]
      rw [show min A (min a x) = min A a by omega] at h4
      exact h4
    · rw [if_neg (nle_of (by omega) (by omega))]
      rw [show min A (min a x) = x by omega] at h4
      exact h4
/-! how far a head reaches across -/
theorem p_lcL {n ln : Nat} {σ τ : St} (h : B0 n ln σ τ) (w R : Nat) (hw : w < n) (hR8 : R < 8) (eR : σ 10 w = nI R) (row : Int32) (U : Nat → Int32) (hU : ∀ y, y < 9 → f_X2_hasUpright (σ 7 w) (nI y) row row σ = some (U y)) : ∀ (d x f : Nat), x + d = R + 1 → 1 ≤ x → d < f → ∃ m : Nat, x ≤ m + 1 ∧ m ≤ R ∧ f_X4_lastColumn_L24 σ f (nI w) row (nI x) = some (nI m) ∧ (∀ y, x ≤ y → y ≤ m → U y = 0) ∧ (m < R → U (m + 1) ≠ 0) := by
  have hn := h.1
  have hw24 : w < 24 := by omega
  intro d
  induction d with
  | zero =>
    intro x f hx hx1 hf
    obtain ⟨f, rfl⟩ : ∃ g, f = g + 1 := ⟨f - 1, by omega⟩
    refine ⟨R, by omega, by omega, ?_, fun y h1 h2 => absurd h1 (by omega), fun q => absurd q (by omega)⟩
    rw [f_X4_lastColumn_L24]
    simp only [ld24 hw24, eR, if_pos (nI_lt (show R < x by omega) (show x < 2 ^ 31 by omega))]
  | succ d ih =>
    intro x f hx hx1 hf
    obtain ⟨f, rfl⟩ : ∃ g, f = g + 1 := ⟨f - 1, by omega⟩
    rw [f_X4_lastColumn_L24]
    simp only [ld24 hw24, eR, if_neg (nI_nlt (show x ≤ R by omega) (show R < 2 ^ 31 by omega)), hU x (by omega), bi_ok, nI_1]
    by_cases q : U x = 0
    · rw [if_pos q]
      obtain ⟨m, h1, h2, h3, h4, h5⟩ := ih (x + 1) f (by omega) (by omega) (by omega)
      refine ⟨m, by omega, h2, h3, fun y g1 g2 => ?_, h5⟩
      rcases Nat.eq_or_lt_of_le g1 with e | e
      · rw [← e]; exact q
      · exact h4 y e g2
    · rw [if_neg q, nI_sub1 hx1]
      exact ⟨x - 1, by omega, by omega, rfl, fun y g1 g2 => absurd g1 (by omega), fun _ => by rw [show x - 1 + 1 = x by omega]; exact q⟩
theorem p_raL {n ln : Nat} {σ τ : St} (h : B0 n ln σ τ) (w u cc : Nat) (hw : w < n) (hc : cc < 8) (eu : σ 12 w = nI u) (U : Nat → Int32) (hU : ∀ y, y < 9 → f_X7_isUpright (σ 7 w) (nI y) (nI (u + 1)) (nI (u + 1)) τ = some (U y)) : ∀ (d x f : Nat), x + d = cc + 1 → d < f → ∃ r : Int32, f_X7_reachesAcross_L41 τ f (nI w) (nI cc) (nI x) = some r ∧ (r = 1 ∧ (∀ y, x ≤ y → y ≤ cc → U y = 0) ∨ r = 0 ∧ ∃ y, x ≤ y ∧ y ≤ cc ∧ U y ≠ 0) := by
  have hn := h.1
  have hw24 : w < 24 := by omega
  obtain ⟨l1, l2, l3, l4, l5, l6⟩ := h.2.2.2.2.2.2.1 w hw
  intro d
  induction d with
  | zero =>
    intro x f hx hf
    obtain ⟨f, rfl⟩ : ∃ g, f = g + 1 := ⟨f - 1, by omega⟩
    refine ⟨1, ?_, Or.inl ⟨rfl, fun y h1 h2 => absurd h1 (by omega)⟩⟩
    rw [f_X7_reachesAcross_L41, if_pos (nI_lt (show cc < x by omega) (show x < 2 ^ 31 by omega)), gb1]
  | succ d ih =>
    intro x f hx hf
    obtain ⟨f, rfl⟩ : ∃ g, f = g + 1 := ⟨f - 1, by omega⟩
    rw [f_X7_reachesAcross_L41]
    simp only [ld24 hw24, l1, l6, eu, nI_1, if_neg (nI_nlt (show x ≤ cc by omega) (show cc < 2 ^ 31 by omega)), hU x (by omega), bi_ok]
    by_cases q : U x = 0
    · rw [if_pos q]
      obtain ⟨r, h1, h2⟩ := ih (x + 1) f (by omega) (by omega)
      refine ⟨r, h1, ?_⟩
      rcases h2 with ⟨e, h2⟩ | ⟨e, y, g1, g2, g3⟩
      · refine Or.inl ⟨e, fun y g1 g2 => ?_⟩
        rcases Nat.eq_or_lt_of_le g1 with e | e
        · rw [← e]; exact q
        · exact h2 y e g2
      · exact Or.inr ⟨e, y, by omega, g2, g3⟩
    · rw [if_neg q, gb0]
      exact ⟨0, rfl, Or.inr ⟨rfl, x, by omega, by omega, q⟩⟩
/-- the reach of a head, on both sides -/
theorem p_lastRow {n ln : Nat} {σ τ : St} (h : B0 n ln σ τ) (w : Nat) (hw : w < n) (col : Int32) : ∃ r : Int32, (r = -9 ∨ ∃ v : Nat, v < 30 ∧ r = nI v) ∧ f_X4_lastRow (nI w) col σ = some r ∧ f_X7_lastRow (nI w) col τ = some r := by
  have hn := h.1
  have hln := h.2.1
  have hw24 : w < 24 := by omega
  obtain ⟨l1, l2, l3, l4, l5, l6⟩ := h.2.2.2.2.2.2.1 w hw
  obtain ⟨p, q, x, y, t, u, e1, e2, e3, e4, e5, e6, g1, g2, g3, g4, g5, g6⟩ := h.2.2.2.2.2.2.2.1 w hw
  have hU : ∀ z : Nat, ∃ r : Int32, f_X2_hasUpright (σ 7 w) (nI z) (nI (u + 1)) (nI (u + 1)) σ = some r ∧ f_X7_isUpright (σ 7 w) (nI z) (nI (u + 1)) (nI (u + 1)) τ = some r := fun z => by
    obtain ⟨r, -, h1, h2⟩ := p_up h (σ 7 w) (nI z) (nI (u + 1)) (nI (u + 1))
    exact ⟨r, h1, h2⟩
  obtain ⟨U, hU⟩ := Classical.axiomOfChoice hU
  unfold f_X4_lastRow f_X7_lastRow f_X7_reachesAcross
  simp only [ld24 hw24, g3, g4, g6, l3, l4, l6, f_X7_within]
  by_cases q1 : col < nI x
  · refine ⟨-9, Or.inl rfl, by rw [if_pos q1], ?_⟩
    by_cases q2 : nI u = 29
    · simp [q2, gb0, bi_ok]
    · simp [q2, q1, gb0, bi_ok]
  · rw [if_neg q1, if_neg q1]
    unfold f_X4_lastColumn
    simp only [ld24 hw24, g3, g6, nI_1]
    obtain ⟨m, m1, m2, m3, m4, m5⟩ := p_lcL h w y hw e4 g4 (nI (u + 1)) U (fun z hz => (hU z).1) (y - x) (x + 1) 64 (by omega) (by omega) (by omega)
    rw [m3, bi_ok]
    have hS : ∃ r : Int32, (r = -9 ∨ ∃ v : Nat, v < 30 ∧ u < v ∧ r = nI v) ∧ (bi (f_X1_headBelow (σ 7 w) col (nI u) σ) fun x5 => bi (f_X2_flatBelow (σ 7 w) col (nI u) σ) fun x6 => if jmin x5 x6 - 1 ≤ nI u then some (-9) else some (jmin x5 x6 - 1)) = some r ∧ f_X7_lastRow_L26 τ 64 (nI w) col (nI u) 29 0 = some r := by
      obtain ⟨A, A1, A2, A3, A4⟩ := p_hbL h w u hw e6 col n 0 64 30 (by omega) (by omega) (by omega) (by omega)
      obtain ⟨b, b1, b2, b3, b4⟩ := p_fbL h w u A hw e6 A1 A2 col ln 0 64 30 (by omega) (by omega) (by omega) (by omega)
      have A3' : f_X1_headBelow (σ 7 w) col (nI u) σ = some (nI A) := A3
      have b3' : f_X2_flatBelow (σ 7 w) col (nI u) σ = some (nI b) := b3
      have A4' : f_X7_lastRow_L26 τ 64 (nI w) col (nI u) 29 0 = f_X7_lastRow_L144 τ 64 (nI w) col (nI u) (nI (A - 1)) 0 := A4
      rw [show min A 30 = A by omega] at b4
      have b4' : f_X7_lastRow_L144 τ 64 (nI w) col (nI u) (nI (A - 1)) 0 = if nI (min A b - 1) ≤ nI u then some (-9) else some (nI (min A b - 1)) := b4
      rw [A3', A4', b4', bi_ok, b3', bi_ok, jmin_nI (by omega) (by omega), nI_sub1 (by omega)]
      by_cases q : min A b - 1 ≤ u
      · rw [if_pos (nI_le q (by omega))]; exact ⟨-9, Or.inl rfl, rfl, rfl⟩
      · rw [if_neg (nle_of (by omega) (by omega))]; exact ⟨_, Or.inr ⟨min A b - 1, by omega, by omega, rfl⟩, rfl, rfl⟩
    obtain ⟨r, hr, hs1, hs2⟩ := hS
    have hr' : r = -9 ∨ ∃ v : Nat, v < 30 ∧ r = nI v := hr.elim Or.inl (fun ⟨v, v1, v2, v3⟩ => Or.inr ⟨v, v1, v3⟩)
    by_cases q2 : nI u = 29
    · have hu : u = 29 := (nI_eq (by omega) (by omega)).mp (q2.trans (rfl : (29 : Int32) = nI 29))
      have hr9 : r = -9 := by
        rcases hr with hr | ⟨v, v1, v2, v3⟩
        · exact hr
        · omega
      subst hr9
      refine ⟨-9, Or.inl rfl, ?_, ?_⟩
      · by_cases q3 : col ≤ nI m
        · rw [if_pos q3]; exact hs1
        · rw [if_neg q3]
      · simp [q2, gb0, bi_ok]
    · rw [if_neg q2]
      by_cases q3 : nI y < col
      · refine ⟨-9, Or.inl rfl, ?_, ?_⟩
        · rw [if_neg]
          intro q4
          exact Int32.lt_irrefl (Int32.lt_of_lt_of_le q3 (Int32.le_trans q4 (nI_le m2 (by omega))))
        · simp [q3, gb0, bi_ok]
      · rw [if_neg q3]
        obtain ⟨c0, hc0, rfl⟩ : ∃ c0 : Nat, c0 ≤ y ∧ col = nI c0 := nI_of2 (nI_toInt (by omega)) (fun q => q1 (Int32.lt_of_lt_of_le q (nI_pos' (by omega)))) (Int32.not_lt.mp q3)
        have hx0 : x ≤ c0 := by
          rcases Nat.lt_or_ge c0 x with q | q
          · exact absurd (nI_lt q (by omega)) q1
          · exact q
        simp only [gb1, bi_ok, o10, if_false, reduceIte]
        obtain ⟨s, s1, s2⟩ := p_raL h w u c0 hw (by omega) g6 U (fun z hz => (hU z).2) (c0 - x) (x + 1) 64 (by omega) (by omega)
        rw [s1, bi_ok]
        by_cases q4 : c0 ≤ m
        · rw [if_pos (nI_le q4 (by omega))]
          have s3 : s = 1 := by
            rcases s2 with ⟨e, -⟩ | ⟨e, z, z1, z2, z3⟩
            · exact e
            · exact absurd (m4 z z1 (by omega)) z3
          subst s3
          simp only [o10, if_false, reduceIte]
          exact ⟨r, hr', hs1, hs2⟩
        · rw [if_neg (nle_of (by omega) (by omega))]
          have s3 : s = 0 := by
            rcases s2 with ⟨e, h3⟩ | ⟨e, -⟩
            · exact absurd (h3 (m + 1) (by omega) (by omega)) (m5 (by omega))
            · exact e
          subst s3
          exact ⟨-9, Or.inl rfl, rfl, by simp⟩
