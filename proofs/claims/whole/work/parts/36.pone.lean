/-! what every block is under, found by both sides whenever they ask -/
def OV (n : Nat) (σ0 τ0 : St) (ov : Nat → Int32) : Prop := ∀ k, k < n → (ov k = -9 ∨ ∃ j, j < n ∧ σ0 8 j = 0 ∧ ov k = nI j) ∧ (σ0 8 k = 0 → ov k = -9) ∧ (∀ σ, fC σ0 σ → ¬ σ0 8 k = 0 → f_X4_headOver (nI k) σ = some (ov k)) ∧ (∀ τ, fM τ0 τ → f_X7_headOver (nI k) τ = some (ov k))
theorem OV_ex {n ln : Nat} {σ0 τ0 : St} (h : B0 n ln σ0 τ0) : ∃ ov, OV n σ0 τ0 ov := by
  have key : ∀ k : Nat, ∃ v : Int32, k < n → (v = -9 ∨ ∃ j, j < n ∧ σ0 8 j = 0 ∧ v = nI j) ∧ (σ0 8 k = 0 → v = -9) ∧ (∀ σ, fC σ0 σ → ¬ σ0 8 k = 0 → f_X4_headOver (nI k) σ = some v) ∧ (∀ τ, fM τ0 τ → f_X7_headOver (nI k) τ = some v) := by
    intro k
    by_cases hk : k < n
    · by_cases h0 : σ0 8 k = 0
      · refine ⟨-9, fun _ => ⟨Or.inl rfl, fun _ => rfl, fun _ _ q => absurd h0 q, fun τ fm => p_ho0 (h.M fm) k hk h0⟩⟩
      · obtain ⟨r, hr, r1, r2⟩ := p_ho h k hk h0
        refine ⟨r, fun _ => ⟨hr, fun q => absurd q h0, fun σ fc _ => ?_, fun τ fm => ?_⟩⟩
        · obtain ⟨r', -, r3, r4⟩ := p_ho (h.C fc) k hk (by rw [fc 8 (by decide)]; exact h0)
          rw [r3]; exact r4.symm.trans r2
        · obtain ⟨r', -, r3, r4⟩ := p_ho (h.M fm) k hk h0
          rw [r4]; exact r3.symm.trans r1
    · exact ⟨0, fun q => absurd q hk⟩
  obtain ⟨ov, hov⟩ := Classical.axiomOfChoice key
  exact ⟨ov, hov⟩
/-! the texts under heads, by column and row -/
def Sq (K : Nat → Nat) (kd ov : Nat → Int32) : Nat → List Nat
  | 0 => []
  | k + 1 => if kd k = 1 ∧ ov k ≠ -9 then ins K k (Sq K kd ov k) else Sq K kd ov k
theorem Sq_mem (K : Nat → Nat) (kd ov : Nat → Int32) (j : Nat) : ∀ k, j ∈ Sq K kd ov k ↔ j < k ∧ kd j = 1 ∧ ov j ≠ -9 := by
  intro k
  induction k with
  | zero => simp [Sq]
  | succ k ih =>
    rw [Sq]
    by_cases h : kd k = 1 ∧ ov k ≠ -9
    · rw [if_pos h, ins_mem, ih]
      constructor
      · rintro (rfl | ⟨h1, h2⟩)
        · exact ⟨by omega, h⟩
        · exact ⟨by omega, h2⟩
      · rintro ⟨h1, h2⟩
        rcases Nat.eq_or_lt_of_le (Nat.le_of_lt_succ h1) with e | e
        · exact Or.inl e
        · exact Or.inr ⟨e, h2⟩
    · rw [if_neg h, ih]
      constructor
      · rintro ⟨h1, h2⟩; exact ⟨by omega, h2⟩
      · rintro ⟨h1, h2⟩
        rcases Nat.eq_or_lt_of_le (Nat.le_of_lt_succ h1) with e | e
        · subst e; exact absurd h2 h
        · exact ⟨e, h2⟩
theorem Sq_nodup (K : Nat → Nat) (kd ov : Nat → Int32) : ∀ k, (Sq K kd ov k).Nodup := by
  intro k
  induction k with
  | zero => simp [Sq]
  | succ k ih =>
    rw [Sq]
    by_cases h : kd k = 1 ∧ ov k ≠ -9
    · rw [if_pos h]
      exact ins_nodup K k _ ih (fun hm => by have := (Sq_mem K kd ov k k).mp hm; omega)
    · rw [if_neg h]; exact ih
theorem Sq_sd (K : Nat → Nat) (kd ov : Nat → Int32) : ∀ k, Sd K (Sq K kd ov k).reverse := by
  intro k
  induction k with
  | zero => simp [Sq, Sd]
  | succ k ih =>
    rw [Sq]
    by_cases h : kd k = 1 ∧ ov k ≠ -9
    · rw [if_pos h]; exact ins_sd K k _ ih
    · rw [if_neg h]; exact ih
theorem Sq_len (K : Nat → Nat) (kd ov : Nat → Int32) (k : Nat) : (Sq K kd ov k).length ≤ k := nodup_len k _ (Sq_nodup K kd ov k) (fun x hx => ((Sq_mem K kd ov x k).mp hx).1)
/-! the class's first loop -/
def C1 (σ0 : St) (ov : Nat → Int32) (k : Nat) (σ : St) : Prop := fC σ0 σ ∧ (∀ j, j < k → σ 21 j = ov j ∧ σ 22 j = -9 ∧ σ 23 j = if σ0 8 j = 0 then nI j else ov j) ∧ σ 5 10 = nI (Sq (ky σ0) (σ0 8) ov k).length ∧ rep (σ 26) 0 (Sq (ky σ0) (σ0 8) ov k)
set_option maxHeartbeats 1000000 in
theorem p_b1s {n ln : Nat} {σ0 τ0 : St} {ov : Nat → Int32} (h : B0 n ln σ0 τ0) (K : Int32 → St → Option St) (k : Nat) (hk : k < n) (hov : σ0 8 k = 0 → ov k = -9) (σ : St) (hc : C1 σ0 ov k σ) : ∃ σ', f_X5_build_B48 K (nI k) (ov k) (nI k) σ = K (nI (k + 1)) σ' ∧ C1 σ0 ov (k + 1) σ' := by
  obtain ⟨fc, h1, h2, h3⟩ := hc
  have hn := h.1
  have hk24 : k < 24 := by omega
  have e8 : σ 8 = σ0 8 := fc 8 (by decide)
  have hlt : ∀ {j}, j < k + 1 → j = k ∨ j < k := fun q => by omega
  -- the state behind the three stores
  have st3 : ∀ v : Int32, v = (if σ0 8 k = 0 then nI k else ov k) → ∃ σc, σc = ss (ss (ss σ 21 k (ov k)) 22 k (-9)) 23 k v ∧ fC σ0 σc ∧ (∀ j, j < k + 1 → σc 21 j = ov j ∧ σc 22 j = -9 ∧ σc 23 j = if σ0 8 j = 0 then nI j else ov j) ∧ σc 5 10 = nI (Sq (ky σ0) (σ0 8) ov k).length ∧ rep (σc 26) 0 (Sq (ky σ0) (σ0 8) ov k) := by
    intro v hv
    refine ⟨_, rfl, ((fc.st (by decide)).st (by decide)).st (by decide), fun j hj => ?_, ?_, ?_⟩
    · rw [ss_c _ (show 21 ≠ 23 by decide), ss_c _ (show 21 ≠ 22 by decide), ss_c _ (show 22 ≠ 23 by decide), ss_if, ss_if, ss_if, ss_c _ (show 22 ≠ 21 by decide), ss_c _ (show 23 ≠ 22 by decide), ss_c _ (show 23 ≠ 21 by decide)]
      rcases hlt hj with rfl | q
      · rw [if_pos rfl, if_pos rfl, if_pos rfl]; exact ⟨rfl, rfl, hv⟩
      · rw [if_neg (by omega), if_neg (by omega), if_neg (by omega)]; exact h1 j q
    · rw [ss_c _ (by decide), ss_c _ (by decide), ss_c _ (by decide)]; exact h2
    · rw [ss_c _ (by decide), ss_c _ (by decide), ss_c _ (by decide)]; exact h3
  unfold f_X5_build_B48 f_X5_putUnderHead
  simp only [sd24 hk24, ld24 hk24, f_X5_putUnderHead_B35, ss_c _ (show 8 ≠ 22 by decide), ss_c _ (show 8 ≠ 21 by decide), ss_c _ (show 8 ≠ 23 by decide), ss_c _ (show 21 ≠ 22 by decide), ss_c _ (show 21 ≠ 23 by decide), ss_same, e8]
  by_cases q0 : σ0 8 k = 0
  · rw [if_pos q0]
    rw [if_neg (show ¬ σ0 8 k = 1 by rw [q0]; decide), bs_ok, nI_1]
    obtain ⟨σc, e, a1, a2, a3, a4⟩ := st3 (nI k) (by rw [if_pos q0])
    rw [← e]
    refine ⟨σc, rfl, a1, a2, ?_, ?_⟩
    · rw [Sq, if_neg (by rw [q0]; rintro ⟨z, -⟩; exact absurd z (by decide))]; exact a3
    · rw [Sq, if_neg (by rw [q0]; rintro ⟨z, -⟩; exact absurd z (by decide))]; exact a4
  · rw [if_neg q0]
    obtain ⟨σc, e, a1, a2, a3, a4⟩ := st3 (ov k) (by rw [if_neg q0])
    rw [← e]
    by_cases q1 : σ0 8 k = 1
    · rw [if_pos q1]
      by_cases q2 : ov k = -9
      · rw [if_pos q2, bs_ok, nI_1]
        refine ⟨σc, rfl, a1, a2, ?_, ?_⟩
        · rw [Sq, if_neg (fun z => z.2 q2)]; exact a3
        · rw [Sq, if_neg (fun z => z.2 q2)]; exact a4
      · rw [if_neg q2]
        have hl := Sq_len (ky σ0) (σ0 8) ov k
        obtain ⟨σ', b1, b2, b3, b4⟩ := p_ins h k hk (Sq (ky σ0) (σ0 8) ov k) (fun x hx => by have := ((Sq_mem _ _ _ x k).mp hx).1; omega) (by omega) σc a1 a3 a4
        rw [b1, bs_ok, bs_ok, nI_1]
        refine ⟨σ', rfl, fun c hc => by rw [b4 c (by omega) (by omega)]; exact a1 c hc, fun j hj => by rw [b4 21 (by decide) (by decide), b4 22 (by decide) (by decide), b4 23 (by decide) (by decide)]; exact a2 j hj, ?_, ?_⟩
        · rw [Sq, if_pos ⟨q1, q2⟩, ins_len]; exact b3
        · rw [Sq, if_pos ⟨q1, q2⟩]; exact b2
    · rw [if_neg q1, bs_ok, nI_1]
      refine ⟨σc, rfl, a1, a2, ?_, ?_⟩
      · rw [Sq, if_neg (fun z => q1 z.1)]; exact a3
      · rw [Sq, if_neg (fun z => q1 z.1)]; exact a4
theorem p_b1 {n ln : Nat} {σ0 τ0 : St} {ov : Nat → Int32} (h : B0 n ln σ0 τ0) (hov : OV n σ0 τ0 ov) : ∀ (d k f : Nat) (σ : St), k + d = n → d < f → C1 σ0 ov k σ → ∃ σ1, f_X5_build_L7 f (nI k) σ = f_X5_build_L62 64 0 σ1 ∧ C1 σ0 ov n σ1 := by
  have hn := h.1
  have c1 := h.2.2.1
  intro d
  induction d with
  | zero =>
    intro k f σ hk hf hc
    obtain ⟨f, rfl⟩ : ∃ g, f = g + 1 := ⟨f - 1, by omega⟩
    have e : k = n := by omega
    subst e
    refine ⟨σ, ?_, hc⟩
    rw [f_X5_build_L7, lf_ok, hc.1 1 (by decide), c1, if_pos (nI_le (by omega) (by omega))]
  | succ d ih =>
    intro k f σ hk hf hc
    obtain ⟨f, rfl⟩ : ∃ g, f = g + 1 := ⟨f - 1, by omega⟩
    have hk1 : k < n := by omega
    obtain ⟨σ', g1, g2⟩ := p_b1s h (f_X5_build_L7 f) k hk1 (hov k hk1).2.1 σ hc
    obtain ⟨σ1, g3, g4⟩ := ih (k + 1) f σ' (by omega) (by omega) g2
    refine ⟨σ1, ?_, g4⟩
    rw [f_X5_build_L7, lf_ok, hc.1 1 (by decide), c1, if_neg (nle_of hk1 (by omega)), ld24 (by omega), hc.1 8 (by decide), ← g3, ← g1]
    by_cases q0 : σ0 8 k = 0
    · rw [if_pos q0, (hov k hk1).2.1 q0]
    · rw [if_neg q0, (hov k hk1).2.2.1 σ hc.1 q0, bi_ok]
/-! the reference's first two loops -/
def M1 (σ0 τ0 : St) (ov : Nat → Int32) (k : Nat) (τ : St) : Prop := fM τ0 τ ∧ ∀ j, j < k → τ 15 j = ov j ∧ (τ 16 j = if σ0 8 j = 1 then ov j else -9) ∧ τ 17 j = -9 ∧ τ 18 j = 0
theorem p_m1 {n ln : Nat} {σ0 τ0 : St} {ov : Nat → Int32} (h : B0 n ln σ0 τ0) (hov : OV n σ0 τ0 ov) : ∀ (d k f : Nat) (τ : St), k + d = n → d < f → M1 σ0 τ0 ov k τ → ∃ τ1, f_X7_findStories_L2 f (nI k) τ = f_X7_findStories_L71 64 0 τ1 ∧ M1 σ0 τ0 ov n τ1 := by
  have hn := h.1
  have c2 := h.2.2.2.1
  intro d
  induction d with
  | zero =>
    intro k f τ hk hf hc
    obtain ⟨f, rfl⟩ : ∃ g, f = g + 1 := ⟨f - 1, by omega⟩
    have e : k = n := by omega
    subst e
    refine ⟨τ, ?_, hc⟩
    rw [f_X7_findStories_L2, lf_ok, hc.1.1, c2, if_pos (nI_le (by omega) (by omega))]
  | succ d ih =>
    intro k f τ hk hf hc
    obtain ⟨f, rfl⟩ : ∃ g, f = g + 1 := ⟨f - 1, by omega⟩
    have hk1 : k < n := by omega
    have hk24 : k < 24 := by omega
    have fm2 : fM τ0 (ss (ss τ 18 k 0) 17 k (-9)) := (hc.1.st (by decide)).st (by decide)
    have e2 : τ 2 k = σ0 8 k := by rw [hc.1.2.2 2 (by decide) (by decide)]; exact (h.2.2.2.2.2.2.1 k hk1).2.1
    have M' : M1 σ0 τ0 ov (k + 1) (ss (ss (ss (ss τ 18 k 0) 17 k (-9)) 15 k (ov k)) 16 k (if σ0 8 k = 1 then ov k else -9)) := by
      refine ⟨(fm2.st (by decide)).st (by decide), fun j hj => ?_⟩
      rw [ss_c _ (show 15 ≠ 16 by decide), ss_if, ss_if, ss_c _ (show 17 ≠ 16 by decide), ss_c _ (show 17 ≠ 15 by decide), ss_if, ss_c _ (show 18 ≠ 16 by decide), ss_c _ (show 18 ≠ 15 by decide), ss_c _ (show 18 ≠ 17 by decide), ss_if, ss_c _ (show 15 ≠ 17 by decide), ss_c _ (show 15 ≠ 18 by decide), ss_c _ (show 16 ≠ 15 by decide), ss_c _ (show 16 ≠ 17 by decide), ss_c _ (show 16 ≠ 18 by decide), ss_c _ (show 17 ≠ 18 by decide)]
      by_cases q : j = k
      · subst q
        rw [if_pos rfl, if_pos rfl, if_pos rfl, if_pos rfl]; exact ⟨rfl, rfl, rfl, rfl⟩
      · rw [if_neg q, if_neg q, if_neg q, if_neg q]; exact hc.2 j (by omega)
    obtain ⟨τ1, g1, g2⟩ := ih (k + 1) f _ (by omega) (by omega) M'
    refine ⟨τ1, ?_, g2⟩
    rw [f_X7_findStories_L2]
    simp only [lf_ok, hc.1.1, c2, if_neg (nle_of hk1 (show n < 2 ^ 31 by omega)), sd24 hk24, ld24 hk24, (hov k hk1).2.2.2 _ fm2, bi_ok, f_X7_findStories_B62, nI_1, ss_c _ (show 2 ≠ 15 by decide), ss_c _ (show 2 ≠ 17 by decide), ss_c _ (show 2 ≠ 18 by decide), e2, ss_same]
    rw [← g1]
    by_cases q : σ0 8 k = 1
    · rw [if_pos q, if_pos q]
    · rw [if_neg q, if_neg q]
def Lw (σ0 : St) (ov : Nat → Int32) (k w : Nat) : List Nat := (Sq (ky σ0) (σ0 8) ov k).filter (fun j => decide (ov j = nI w))
def M2 (n : Nat) (σ0 τ0 : St) (ov : Nat → Int32) (k : Nat) (τ : St) : Prop := fM τ0 τ ∧ (∀ j, j < n → τ 15 j = ov j ∧ (τ 16 j = if σ0 8 j = 1 then ov j else -9) ∧ τ 17 j = -9) ∧ ∀ w, w < n → τ 18 w = nI (Lw σ0 ov k w).length ∧ rep (τ 19) (24 * w) (Lw σ0 ov k w)
theorem Lw_s (σ0 : St) (ov : Nat → Int32) (k w : Nat) (q : σ0 8 k = 1 ∧ ov k ≠ -9) : Lw σ0 ov (k + 1) w = if ov k = nI w then ins (ky σ0) k (Lw σ0 ov k w) else Lw σ0 ov k w := by
  unfold Lw
  rw [Sq, if_pos q, ins_filter _ _ _ _ (Sq_sd _ _ _ _)]
  by_cases h : ov k = nI w
  · rw [if_pos h, if_pos (by simpa using h)]
  · rw [if_neg h, if_neg (by simpa using h)]
theorem Lw_n (σ0 : St) (ov : Nat → Int32) (k w : Nat) (q : ¬ (σ0 8 k = 1 ∧ ov k ≠ -9)) : Lw σ0 ov (k + 1) w = Lw σ0 ov k w := by
  unfold Lw; rw [Sq, if_neg q]
theorem p_m2 {n ln : Nat} {σ0 τ0 : St} {ov : Nat → Int32} (h : B0 n ln σ0 τ0) (hov : OV n σ0 τ0 ov) : ∀ (d k f : Nat) (τ : St), k + d = n → d < f → M2 n σ0 τ0 ov k τ → ∃ τ1, f_X7_findStories_L71 f (nI k) τ = f_X7_findStories_L109 64 1 τ1 ∧ M2 n σ0 τ0 ov n τ1 := by
  have hn := h.1
  have c2 := h.2.2.2.1
  intro d
  induction d with
  | zero =>
    intro k f τ hk hf hc
    obtain ⟨f, rfl⟩ : ∃ g, f = g + 1 := ⟨f - 1, by omega⟩
    have e : k = n := by omega
    subst e
    refine ⟨τ, ?_, hc⟩
    rw [f_X7_findStories_L71, lf_ok, hc.1.1, c2, if_pos (nI_le (by omega) (by omega))]
  | succ d ih =>
    intro k f τ hk hf hc
    obtain ⟨f, rfl⟩ : ∃ g, f = g + 1 := ⟨f - 1, by omega⟩
    have hk1 : k < n := by omega
    have hk24 : k < 24 := by omega
    obtain ⟨fm, hj, hw⟩ := hc
    rw [f_X7_findStories_L71]
    simp only [lf_ok, fm.1, c2, if_neg (nle_of hk1 (show n < 2 ^ 31 by omega)), ld24 hk24, (hj k hk1).2.1, nI_1]
    by_cases q : σ0 8 k = 1 ∧ ov k ≠ -9
    · rw [if_pos q.1, if_neg q.2]
      obtain ⟨w, hwn, hwk, hov1⟩ := ((hov k hk1).1).resolve_left q.2
      have hl : (Lw σ0 ov k w).length ≤ k := Nat.le_trans (List.length_filter_le _ _) (Sq_len _ _ _ _)
      obtain ⟨τ', b1, b2, b3, b4, b5, b6⟩ := p_und h w k hwn hk1 (Lw σ0 ov k w) (fun x hx => by
        have := ((Sq_mem _ _ _ x k).mp (List.mem_filter.mp hx).1).1; omega) (by omega) τ fm (hw w hwn).1 (hw w hwn).2
      rw [hov1, b1, bs_ok]
      refine ih (k + 1) f τ' (by omega) (by omega) ⟨⟨by rw [b6 0 (by decide) (by decide)]; exact fm.1, by rw [b6 0 (by decide) (by decide)]; exact fm.2.1, fun c z1 z2 => by rw [b6 c (by omega) (by omega)]; exact fm.2.2 c z1 z2⟩, fun j hj' => by rw [b6 15 (by decide) (by decide), b6 16 (by decide) (by decide), b6 17 (by decide) (by decide)]; exact hj j hj', fun v hv => ?_⟩
      rw [Lw_s σ0 ov k v q]
      by_cases e : ov k = nI v
      · have : v = w := by
          rw [hov1, nI_eq (by omega) (by omega)] at e; exact e.symm
        subst this
        rw [if_pos e, ins_len]; exact ⟨b3, b2⟩
      · have hvw : v ≠ w := fun z => e (by rw [z]; exact hov1)
        rw [if_neg e, b4 v hvw]
        refine ⟨(hw v hv).1, rep_kept (hw v hv).2 (fun i hi => ?_)⟩
        have hl' : (Lw σ0 ov k v).length ≤ k := Nat.le_trans (List.length_filter_le _ _) (Sq_len _ _ _ _)
        exact b5 _ (by omega)
    · have M' : M2 n σ0 τ0 ov (k + 1) τ := ⟨fm, hj, fun v hv => by rw [Lw_n σ0 ov k v q]; exact hw v hv⟩
      obtain ⟨τ1, g1, g2⟩ := ih (k + 1) f τ (by omega) (by omega) M'
      refine ⟨τ1, ?_, g2⟩
      rw [← g1]
      by_cases q1 : σ0 8 k = 1
      · rw [if_pos q1, if_pos (Classical.not_not.mp (fun z => q ⟨q1, z⟩))]
      · rw [if_neg q1, if_pos rfl]
