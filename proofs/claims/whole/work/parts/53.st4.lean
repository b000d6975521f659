/-! all turned about -/
theorem p_tl {ln : Nat} (hln : ln ≤ 12) : ∀ (d k g : Nat) (σ : St), k + d = ln → d < g → σ 3 0 = nI ln → ∃ σ', f_X2_turnAbout_L2 g (nI k) σ = some σ' ∧ (∀ c, c ≠ 18 → c ≠ 19 → c ≠ 20 → σ' c = σ c) ∧ ∀ j, j < ln → (j < k → σ' 18 j = σ 18 j ∧ σ' 19 j = σ 19 j ∧ σ' 20 j = σ 20 j) ∧ (k ≤ j → (σ 17 j = 0 → σ' 18 j = 8 - σ 18 j ∧ σ' 19 j = σ 19 j ∧ σ' 20 j = σ 20 j) ∧ (σ 17 j ≠ 0 → σ' 18 j = σ 18 j ∧ σ' 19 j = 7 - σ 20 j ∧ σ' 20 j = 7 - σ 19 j)) := by
  intro d
  induction d with
  | zero =>
    intro k g σ hk hg h3
    obtain ⟨g, rfl⟩ : ∃ z, g = z + 1 := ⟨g - 1, by omega⟩
    refine ⟨σ, ?_, fun _ _ _ _ => rfl, fun j hj => ⟨fun _ => ⟨rfl, rfl, rfl⟩, fun z => absurd z (by omega)⟩⟩
    rw [f_X2_turnAbout_L2, lf_ok, h3, if_pos (nI_le (by omega) (by omega))]
  | succ d ih =>
    intro k g σ hk hg h3
    obtain ⟨g, rfl⟩ : ∃ z, g = z + 1 := ⟨g - 1, by omega⟩
    have hk1 : k < ln := by omega
    have hk12 : k < 12 := by omega
    rw [f_X2_turnAbout_L2]
    simp only [lf_ok, h3, if_neg (nle_of hk1 (show ln < 2 ^ 31 by omega)), ld12 hk12, sd12 hk12, nI_1]
    by_cases q : σ 17 k = 0
    · rw [if_pos q]
      obtain ⟨σ', g1, g2, g3⟩ := ih (k + 1) g (ss σ 18 k (8 - σ 18 k)) (by omega) (by omega) (by rw [ss_c _ (by decide)]; exact h3)
      refine ⟨σ', g1, fun c c1 c2 c3 => by rw [g2 c c1 c2 c3, ss_c _ c1], fun j hj => ?_⟩
      obtain ⟨y1, y2⟩ := g3 j hj
      rw [ss_if, ss_c _ (show 19 ≠ 18 by decide), ss_c _ (show 20 ≠ 18 by decide), ss_c _ (show 17 ≠ 18 by decide)] at *
      refine ⟨fun z => ?_, fun z => ?_⟩
      · have := y1 (by omega)
        rw [if_neg (show ¬ j = k by omega)] at this; exact this
      · by_cases w : j = k
        · subst w
          have := y1 (by omega)
          rw [if_pos rfl] at this
          exact ⟨fun _ => this, fun z => absurd q z⟩
        · have := y2 (by omega)
          rw [if_neg w] at this; exact this
    · rw [if_neg q]
      obtain ⟨σ', g1, g2, g3⟩ := ih (k + 1) g (ss (ss σ 20 k (7 - σ 19 k)) 19 k (7 - σ 20 k)) (by omega) (by omega) (by rw [ss_c _ (by decide), ss_c _ (by decide)]; exact h3)
      refine ⟨σ', g1, fun c c1 c2 c3 => by rw [g2 c c1 c2 c3, ss_c _ c2, ss_c _ c3], fun j hj => ?_⟩
      obtain ⟨y1, y2⟩ := g3 j hj
      rw [ss_c _ (show 18 ≠ 19 by decide), ss_c _ (show 18 ≠ 20 by decide), ss_if, ss_c _ (show 19 ≠ 20 by decide), ss_c _ (show 20 ≠ 19 by decide), ss_if, ss_c _ (show 17 ≠ 19 by decide), ss_c _ (show 17 ≠ 20 by decide)] at *
      refine ⟨fun z => ?_, fun z => ?_⟩
      · have := y1 (by omega)
        rw [if_neg (show ¬ j = k by omega), if_neg (show ¬ j = k by omega)] at this; exact this
      · by_cases w : j = k
        · subst w
          have := y1 (by omega)
          rw [if_pos rfl, if_pos rfl] at this
          exact ⟨fun z => absurd z q, fun _ => this⟩
        · have := y2 (by omega)
          rw [if_neg w, if_neg w] at this; exact this
theorem p_tlm {ln : Nat} (hln : ln ≤ 12) (r : Int32) : ∀ (d k g : Nat) (τ : St), k + d = ln → d < g → τ 0 10 = nI ln → ∃ τ', f_X7_turn_L70 g r (nI k) τ = some (r, τ') ∧ (∀ c, c ≠ 12 → c ≠ 13 → c ≠ 14 → τ' c = τ c) ∧ ∀ j, j < ln → (j < k → τ' 12 j = τ 12 j ∧ τ' 13 j = τ 13 j ∧ τ' 14 j = τ 14 j) ∧ (k ≤ j → (τ 11 j = 0 → τ' 12 j = 8 - τ 12 j ∧ τ' 13 j = τ 13 j ∧ τ' 14 j = τ 14 j) ∧ (τ 11 j ≠ 0 → τ' 12 j = τ 12 j ∧ τ' 13 j = 7 - τ 14 j ∧ τ' 14 j = 7 - τ 13 j)) := by
  intro d
  induction d with
  | zero =>
    intro k g τ hk hg h3
    obtain ⟨g, rfl⟩ : ∃ z, g = z + 1 := ⟨g - 1, by omega⟩
    refine ⟨τ, ?_, fun _ _ _ _ => rfl, fun j hj => ⟨fun _ => ⟨rfl, rfl, rfl⟩, fun z => absurd z (by omega)⟩⟩
    rw [f_X7_turn_L70, lf_ok, h3, if_pos (nI_le (by omega) (by omega))]
  | succ d ih =>
    intro k g τ hk hg h3
    obtain ⟨g, rfl⟩ : ∃ z, g = z + 1 := ⟨g - 1, by omega⟩
    have hk1 : k < ln := by omega
    have hk12 : k < 12 := by omega
    rw [f_X7_turn_L70]
    simp only [lf_ok, h3, if_neg (nle_of hk1 (show ln < 2 ^ 31 by omega)), ld12 hk12, sd12 hk12, nI_1]
    by_cases q : τ 11 k = 0
    · rw [if_pos q]
      obtain ⟨τ', g1, g2, g3⟩ := ih (k + 1) g (ss τ 12 k (8 - τ 12 k)) (by omega) (by omega) (by rw [ss_c _ (by decide)]; exact h3)
      refine ⟨τ', g1, fun c c1 c2 c3 => by rw [g2 c c1 c2 c3, ss_c _ c1], fun j hj => ?_⟩
      obtain ⟨y1, y2⟩ := g3 j hj
      rw [ss_if, ss_c _ (show 13 ≠ 12 by decide), ss_c _ (show 14 ≠ 12 by decide), ss_c _ (show 11 ≠ 12 by decide)] at *
      refine ⟨fun z => ?_, fun z => ?_⟩
      · have := y1 (by omega)
        rw [if_neg (show ¬ j = k by omega)] at this; exact this
      · by_cases w : j = k
        · subst w
          have := y1 (by omega)
          rw [if_pos rfl] at this
          exact ⟨fun _ => this, fun z => absurd q z⟩
        · have := y2 (by omega)
          rw [if_neg w] at this; exact this
    · rw [if_neg q]
      obtain ⟨τ', g1, g2, g3⟩ := ih (k + 1) g (ss (ss τ 13 k (7 - τ 14 k)) 14 k (7 - τ 13 k)) (by omega) (by omega) (by rw [ss_c _ (by decide), ss_c _ (by decide)]; exact h3)
      refine ⟨τ', g1, fun c c1 c2 c3 => by rw [g2 c c1 c2 c3, ss_c _ c3, ss_c _ c2], fun j hj => ?_⟩
      obtain ⟨y1, y2⟩ := g3 j hj
      rw [ss_c _ (show 12 ≠ 14 by decide), ss_c _ (show 12 ≠ 13 by decide), ss_c _ (show 13 ≠ 14 by decide), ss_if, ss_if, ss_c _ (show 14 ≠ 13 by decide), ss_c _ (show 11 ≠ 14 by decide), ss_c _ (show 11 ≠ 13 by decide)] at *
      refine ⟨fun z => ?_, fun z => ?_⟩
      · have := y1 (by omega)
        rw [if_neg (show ¬ j = k by omega), if_neg (show ¬ j = k by omega)] at this; exact this
      · by_cases w : j = k
        · subst w
          have := y1 (by omega)
          rw [if_pos rfl, if_pos rfl] at this
          exact ⟨fun z => absurd z q, fun _ => this⟩
        · have := y2 (by omega)
          rw [if_neg w, if_neg w] at this; exact this
theorem i32_add0 (x : Int32) : x + 0 = x := Int32.add_zero x
theorem p_tb {n : Nat} (hn : n ≤ 24) : ∀ (d k g : Nat) (r : Int32) (σ τ : St), k + d = n → d < g → σ 1 0 = nI n → τ 0 0 = nI n → (∀ j, j < n → τ 3 j = σ 9 j ∧ τ 4 j = σ 10 j) → ∃ r' σ' τ', f_X1_turnAbout_L4 g r (nI k) σ = some (r', σ') ∧ f_X7_turn_L4 g r (nI k) τ = f_X7_turn_L70 64 r' 0 τ' ∧ (∀ c, c ≠ 9 → c ≠ 10 → σ' c = σ c) ∧ (∀ c, c ≠ 3 → c ≠ 4 → τ' c = τ c) ∧ ∀ j, j < n → (τ' 3 j = σ' 9 j ∧ τ' 4 j = σ' 10 j) ∧ (j < k → σ' 9 j = σ 9 j ∧ σ' 10 j = σ 10 j) ∧ (k ≤ j → σ' 9 j = 7 - σ 10 j ∧ σ' 10 j = 7 - σ 9 j) := by
  intro d
  induction d with
  | zero =>
    intro k g r σ τ hk hg h1 h2 h3
    obtain ⟨g, rfl⟩ : ∃ z, g = z + 1 := ⟨g - 1, by omega⟩
    refine ⟨r, σ, τ, ?_, ?_, fun _ _ _ => rfl, fun _ _ _ => rfl, fun j hj => ⟨h3 j hj, fun _ => ⟨rfl, rfl⟩, fun z => absurd z (by omega)⟩⟩
    · rw [f_X1_turnAbout_L4, lf_ok, h1, if_pos (nI_le (by omega) (by omega))]
    · rw [f_X7_turn_L4, lf_ok, h2, if_pos (nI_le (by omega) (by omega))]
  | succ d ih =>
    intro k g r σ τ hk hg h1 h2 h3
    obtain ⟨g, rfl⟩ : ∃ z, g = z + 1 := ⟨g - 1, by omega⟩
    have hk1 : k < n := by omega
    have hk24 : k < 24 := by omega
    have step : ∀ r2 : Int32, ∃ r' σ' τ', f_X1_turnAbout_L4 g r2 (nI (k + 1)) (ss (ss σ 9 k (7 - σ 10 k)) 10 k (7 - σ 9 k)) = some (r', σ') ∧ f_X7_turn_L4 g r2 (nI (k + 1)) (ss (ss τ 3 k (7 - σ 10 k)) 4 k (7 - σ 9 k)) = f_X7_turn_L70 64 r' 0 τ' ∧ (∀ c, c ≠ 9 → c ≠ 10 → σ' c = σ c) ∧ (∀ c, c ≠ 3 → c ≠ 4 → τ' c = τ c) ∧ ∀ j, j < n → (τ' 3 j = σ' 9 j ∧ τ' 4 j = σ' 10 j) ∧ (j < k → σ' 9 j = σ 9 j ∧ σ' 10 j = σ 10 j) ∧ (k ≤ j → σ' 9 j = 7 - σ 10 j ∧ σ' 10 j = 7 - σ 9 j) := by
      intro r2
      obtain ⟨r', σ', τ', g1, g2, g3, g4, g5⟩ := ih (k + 1) g r2 (ss (ss σ 9 k (7 - σ 10 k)) 10 k (7 - σ 9 k)) (ss (ss τ 3 k (7 - σ 10 k)) 4 k (7 - σ 9 k)) (by omega) (by omega) (by rw [ss_c _ (by decide), ss_c _ (by decide)]; exact h1) (by rw [ss_c _ (by decide), ss_c _ (by decide)]; exact h2) (fun j hj => by
        rw [ss_c _ (show 3 ≠ 4 by decide), ss_if, ss_if, ss_c _ (show 4 ≠ 3 by decide), ss_c _ (show 9 ≠ 10 by decide), ss_if, ss_if, ss_c _ (show 10 ≠ 9 by decide), (h3 j hj).1, (h3 j hj).2]
        exact ⟨rfl, rfl⟩)
      refine ⟨r', σ', τ', g1, g2, fun c c1 c2 => by rw [g3 c c1 c2, ss_c _ c2, ss_c _ c1], fun c c1 c2 => by rw [g4 c c1 c2, ss_c _ c2, ss_c _ c1], fun j hj => ?_⟩
      obtain ⟨y0, y1, y2⟩ := g5 j hj
      rw [ss_c _ (show 9 ≠ 10 by decide), ss_if, ss_if, ss_c _ (show 10 ≠ 9 by decide)] at y1 y2
      refine ⟨y0, fun z => ?_, fun z => ?_⟩
      · have := y1 (by omega)
        rw [if_neg (show ¬ j = k by omega), if_neg (show ¬ j = k by omega)] at this; exact this
      · by_cases w : j = k
        · subst w
          have := y1 (by omega)
          rw [if_pos rfl, if_pos rfl] at this; exact this
        · have := y2 (by omega)
          rw [if_neg w, if_neg w] at this; exact this
    rw [f_X1_turnAbout_L4, f_X7_turn_L4]
    simp only [lf_ok, h1, h2, if_neg (nle_of hk1 (show n < 2 ^ 31 by omega)), ld24 hk24, sd24 hk24, f_X1_turnAbout_B46, nI_1, (h3 k hk1).1, (h3 k hk1).2, ss_c _ (show 3 ≠ 4 by decide), ss_same, i32_add0]
    by_cases q : 7 - σ 10 k = σ 9 k
    · rw [if_pos q, if_pos q]; exact step r
    · rw [if_neg q, if_neg q]; exact step (r + 1)
set_option maxHeartbeats 1000000 in
theorem st_turn {σ τ : St} (h : Rel σ τ) : ∃ (r : Int32) (σ' : St) (τ' : St), f_X6_turn σ = some (r, σ') ∧ f_X7_turn τ = some (r, τ') ∧ Rel σ' τ' := by
  obtain ⟨n, ln, hB, hW, hs⟩ := id h
  obtain ⟨hn, hln, c1, c2, c3, c4, hBk, hR, hM, hL⟩ := id hB
  obtain ⟨σ1, a1, a2, a3⟩ := p_tl hln ln 0 64 σ (by omega) (by omega) c3
  have a1' : f_X2_turnAbout σ = some σ1 := a1
  obtain ⟨r, σ2, τ1, b1, b2, b3, b4, b5⟩ := p_tb hn n 0 64 0 (ss σ1 0 6 1) τ (by omega) (by omega) (by rw [ss_c _ (by decide), a2 1 (by decide) (by decide) (by decide)]; exact c1) c2 (fun j hj => by
    rw [ss_c _ (by decide), ss_c _ (by decide), a2 9 (by decide) (by decide) (by decide), a2 10 (by decide) (by decide) (by decide)]
    exact ⟨(hBk j hj).2.2.1, (hBk j hj).2.2.2.1⟩)
  have b1' : f_X1_turnAbout (ss σ1 0 6 1) = some (r, σ2) := b1
  obtain ⟨τ2, d1, d2, d3⟩ := p_tlm hln r ln 0 64 τ1 (by omega) (by omega) (by rw [b4 0 (by decide) (by decide)]; exact c4)
  have e7 : ∀ x : Nat, x < 8 → (7 : Int32) - nI x = nI (7 - x) := fun x hx => by rw [show (7 : Int32) = nI 7 from rfl, pk_sub (by omega)]
  have e8 : ∀ x : Nat, x ≤ 8 → (8 : Int32) - nI x = nI (8 - x) := fun x hx => by rw [show (8 : Int32) = nI 8 from rfl, pk_sub hx]
  refine ⟨r, σ2, τ2, ?_, ?_, ?_⟩
  · unfold f_X6_turn
    rw [a1', bs_ok, gb1, sf_ok, b1', bp_ok]
  · unfold f_X7_turn
    exact b2.trans d1
  · have sl : ∀ c, c ≠ 0 → c ≠ 9 → c ≠ 10 → c ≠ 18 → c ≠ 19 → c ≠ 20 → σ2 c = σ c := fun c z0 z1 z2 z3 z4 z5 => by rw [b3 c z1 z2, ss_c _ z0, a2 c z3 z4 z5]
    have tl : ∀ c, c ≠ 3 → c ≠ 4 → c ≠ 12 → c ≠ 13 → c ≠ 14 → τ2 c = τ c := fun c z1 z2 z3 z4 z5 => by rw [d2 c z3 z4 z5, b4 c z1 z2]
    have s9 : ∀ j, j < n → σ2 9 j = 7 - σ 10 j ∧ σ2 10 j = 7 - σ 9 j := fun j hj => by
      have := (b5 j hj).2.2 (Nat.zero_le _)
      rw [ss_c _ (by decide), ss_c _ (by decide), a2 9 (by decide) (by decide) (by decide), a2 10 (by decide) (by decide) (by decide)] at this
      exact this
    have s18 : ∀ c, c = 18 ∨ c = 19 ∨ c = 20 → σ2 c = σ1 c := fun c hc => by rw [b3 c (by omega) (by omega), ss_c _ (by omega)]
    refine ⟨n, ln, ⟨hn, hln, by rw [sl 1 (by decide) (by decide) (by decide) (by decide) (by decide) (by decide)]; exact c1, by rw [tl 0 (by decide) (by decide) (by decide) (by decide) (by decide)]; exact c2, by rw [sl 3 (by decide) (by decide) (by decide) (by decide) (by decide) (by decide)]; exact c3, by rw [tl 0 (by decide) (by decide) (by decide) (by decide) (by decide)]; exact c4, fun j hj => ?_, fun j hj => ?_, fun j hj => ?_, fun j hj => ?_⟩, fun j hj => ?_, Or.inl (by rw [b3 0 (by decide) (by decide), ss_same])⟩
    · unfold Bk
      rw [sl 7 (by decide) (by decide) (by decide) (by decide) (by decide) (by decide), sl 8 (by decide) (by decide) (by decide) (by decide) (by decide) (by decide), sl 11 (by decide) (by decide) (by decide) (by decide) (by decide) (by decide), sl 12 (by decide) (by decide) (by decide) (by decide) (by decide) (by decide), tl 1 (by decide) (by decide) (by decide) (by decide) (by decide), tl 2 (by decide) (by decide) (by decide) (by decide) (by decide), tl 5 (by decide) (by decide) (by decide) (by decide) (by decide), tl 6 (by decide) (by decide) (by decide) (by decide) (by decide), d2 3 (by decide) (by decide) (by decide), d2 4 (by decide) (by decide) (by decide)]
      obtain ⟨l1, l2, l3, l4, l5, l6⟩ := hBk j hj
      exact ⟨l1, l2, (b5 j hj).1.1, (b5 j hj).1.2, l5, l6⟩
    · unfold Rk
      obtain ⟨p, q, a, b, t, u, e1, e2, e3, e4, e5, e6, g1, g2, g3, g4, g5, g6⟩ := hR j hj
      rw [sl 7 (by decide) (by decide) (by decide) (by decide) (by decide) (by decide), sl 8 (by decide) (by decide) (by decide) (by decide) (by decide) (by decide), sl 11 (by decide) (by decide) (by decide) (by decide) (by decide) (by decide), sl 12 (by decide) (by decide) (by decide) (by decide) (by decide) (by decide), (s9 j hj).1, (s9 j hj).2, g3, g4, e7 a (by omega), e7 b (by omega)]
      exact ⟨p, q, 7 - b, 7 - a, t, u, e1, e2, by omega, by omega, e5, e6, g1, g2, rfl, rfl, g5, g6⟩
    · unfold Mk
      rw [sl 8 (by decide) (by decide) (by decide) (by decide) (by decide) (by decide), sl 14 (by decide) (by decide) (by decide) (by decide) (by decide) (by decide), sl 15 (by decide) (by decide) (by decide) (by decide) (by decide) (by decide), tl 8 (by decide) (by decide) (by decide) (by decide) (by decide), tl 9 (by decide) (by decide) (by decide) (by decide) (by decide)]
      exact hM j hj
    · obtain ⟨⟨l1, l2, l3, l4, l5⟩, p, w, x, a, b, e1, e2, e3, e4, e5, e6, e7', e8', g1, g2, g3, g4, g5⟩ := hL j hj
      have y1 := (a3 j hj).2 (Nat.zero_le _)
      have y2 := (d3 j hj).2 (Nat.zero_le _)
      rw [b4 11 (by decide) (by decide), b4 12 (by decide) (by decide), b4 13 (by decide) (by decide), b4 14 (by decide) (by decide), l2, l3, l4, l5] at y2
      unfold Lk Ll
      rw [sl 16 (by decide) (by decide) (by decide) (by decide) (by decide) (by decide), sl 17 (by decide) (by decide) (by decide) (by decide) (by decide) (by decide), tl 10 (by decide) (by decide) (by decide) (by decide) (by decide), tl 11 (by decide) (by decide) (by decide) (by decide) (by decide), s18 18 (by decide), s18 19 (by decide), s18 20 (by decide)]
      by_cases z : σ 17 j = 0
      · obtain ⟨z1, z2, z3⟩ := y1.1 z
        obtain ⟨w1, w2, w3⟩ := y2.1 z
        have hw : w = 0 := by
          rw [g2] at z; exact (nI_eq (by omega) (by decide)).mp (z.trans nI_lit0)
        have hx := e7' hw
        refine ⟨⟨l1, l2, by rw [w1, z1], by rw [w2, z2], by rw [w3, z3]⟩, p, w, 8 - x, a, b, e1, e2, by omega, by omega, e5, e6, fun _ => by omega, e8', g1, g2, ?_, ?_, ?_⟩
        · rw [z1, g3, e8 x (by omega)]
        · rw [z2]; exact g4
        · rw [z3]; exact g5
      · obtain ⟨z1, z2, z3⟩ := y1.2 z
        obtain ⟨w1, w2, w3⟩ := y2.2 z
        have hw : w = 1 := by
          have : w ≠ 0 := fun e => z (by rw [g2, e]; rfl)
          omega
        have hb := e8' hw
        refine ⟨⟨l1, l2, by rw [w1, z1], by rw [w2, z2], by rw [w3, z3]⟩, p, w, x, 7 - b, 7 - a, e1, e2, e3, e4, by omega, by omega, e7', fun _ => by omega, g1, g2, ?_, ?_, ?_⟩
        · rw [z1]; exact g3
        · rw [z2, g5, e7 b (by omega)]
        · rw [z3, g4, e7 a (by omega)]
    · rw [sl 8 (by decide) (by decide) (by decide) (by decide) (by decide) (by decide), sl 13 (by decide) (by decide) (by decide) (by decide) (by decide) (by decide), tl 7 (by decide) (by decide) (by decide) (by decide) (by decide)]; exact hW j hj
