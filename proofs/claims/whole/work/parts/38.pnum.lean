/-! what is left over, and the numbers of the stories -/
def lo (kd ρ : Nat → Int32) (j : Nat) : Bool := decide (kd j = 1 ∧ ρ j = -9)
def fr (kd ρ : Nat → Int32) (j : Nat) : Int32 := if kd j = 1 ∧ ρ j = -9 then nI j else ρ j
def LO (kd ρ : Nat → Int32) (k : Nat) : List Nat := (List.range k).filter (lo kd ρ)
def RT (f : Nat → Int32) (k : Nat) : List Nat := (List.range k).filter (fun j => decide (f j = nI j))
theorem LO_s (kd ρ : Nat → Int32) (k : Nat) : LO kd ρ (k + 1) = LO kd ρ k ++ if kd k = 1 ∧ ρ k = -9 then [k] else [] := by
  unfold LO
  rw [List.range_succ, List.filter_append]
  congr 1
  by_cases h : kd k = 1 ∧ ρ k = -9
  · rw [if_pos h]; simp [lo, h]
  · rw [if_neg h, List.filter_cons, if_neg (by simpa [lo] using h), List.filter_nil]
theorem LO_mem (kd ρ : Nat → Int32) (k j : Nat) : j ∈ LO kd ρ k ↔ j < k ∧ kd j = 1 ∧ ρ j = -9 := by
  unfold LO; rw [List.mem_filter, List.mem_range]; simp [lo]
theorem LO_nodup (kd ρ : Nat → Int32) (k : Nat) : (LO kd ρ k).Nodup := by
  unfold LO; exact List.Pairwise.filter _ List.nodup_range
theorem RT_s (f : Nat → Int32) (k : Nat) : RT f (k + 1) = RT f k ++ if f k = nI k then [k] else [] := by
  unfold RT
  rw [List.range_succ, List.filter_append]
  congr 1
  by_cases h : f k = nI k
  · rw [if_pos h]; simp [h]
  · rw [if_neg h, List.filter_cons, if_neg (by simpa using h), List.filter_nil]
theorem RT_len (f : Nat → Int32) (k : Nat) : (RT f k).length ≤ k := by
  unfold RT; exact Nat.le_trans (List.length_filter_le _ _) (by simp)
theorem RT_pre (f : Nat → Int32) (k : Nat) : ∀ d, ∃ T, RT f (k + d) = RT f k ++ T := by
  intro d
  induction d with
  | zero => exact ⟨[], by simp⟩
  | succ d ih =>
    obtain ⟨T, hT⟩ := ih
    exact ⟨T ++ (if f (k + d) = nI (k + d) then [k + d] else []), by rw [← Nat.add_assoc, RT_s, hT, List.append_assoc]⟩
theorem RT_at (f : Nat → Int32) (n b : Nat) (hb : b < n) (h : f b = nI b) : (RT f n)[(RT f b).length]? = some b := by
  obtain ⟨T, hT⟩ := RT_pre f (b + 1) (n - (b + 1))
  rw [show b + 1 + (n - (b + 1)) = n by omega, RT_s, if_pos h] at hT
  rw [hT, List.append_assoc, List.getElem?_append_right (Nat.le_refl _), Nat.sub_self]
  rfl
theorem RT_mem (f : Nat → Int32) (k j : Nat) : j ∈ RT f k ↔ j < k ∧ f j = nI j := by
  unfold RT; rw [List.mem_filter, List.mem_range]; simp
theorem RT_nodup (f : Nat → Int32) (k : Nat) : (RT f k).Nodup := by
  unfold RT; exact List.Pairwise.filter _ List.nodup_range
theorem LO_fl (kd ρ f : Nat → Int32) (b : Nat) (hf : ∀ j, kd j = 1 ∧ ρ j = -9 → f j = nI j) (hb : b < 2 ^ 31) : ∀ k, k < 2 ^ 31 → fl f b (LO kd ρ k) = if b < k ∧ kd b = 1 ∧ ρ b = -9 then [b] else [] := by
  intro k
  induction k with
  | zero => intro _; simp [LO, fl]
  | succ k ih =>
    intro hk
    rw [LO_s]
    have e : fl f b (LO kd ρ k ++ if kd k = 1 ∧ ρ k = -9 then [k] else []) = fl f b (LO kd ρ k) ++ fl f b (if kd k = 1 ∧ ρ k = -9 then [k] else []) := by unfold fl; rw [List.filter_append]
    rw [e, ih (by omega)]
    by_cases q : kd k = 1 ∧ ρ k = -9
    · rw [if_pos q]
      by_cases z : k = b
      · subst z
        rw [if_neg (fun z => by omega), if_pos ⟨by omega, q⟩]
        simp [fl, hf k q]
      · have : fl f b [k] = [] := by
          unfold fl
          rw [List.filter_cons, if_neg (by rw [hf k q]; simpa using fun e => z ((nI_eq (by omega) hb).mp e)), List.filter_nil]
        rw [this, List.append_nil]
        by_cases y : b < k ∧ kd b = 1 ∧ ρ b = -9
        · rw [if_pos y, if_pos ⟨by omega, y.2⟩]
        · rw [if_neg y, if_neg (fun w => y ⟨by omega, w.2⟩)]
    · rw [if_neg q]
      have : fl f b [] = [] := rfl
      rw [this, List.append_nil]
      by_cases y : b < k ∧ kd b = 1 ∧ ρ b = -9
      · rw [if_pos y, if_pos ⟨by omega, y.2⟩]
      · rw [if_neg y, if_neg (fun w => y ⟨by
          rcases Nat.eq_or_lt_of_le (Nat.le_of_lt_succ w.1) with e | e
          · subst e; exact absurd w.2 q
          · exact e, w.2⟩)]
/-! the class's last loops -/
def A1 (n : Nat) (σ0 : St) (ov tk ρ : Nat → Int32) (S : List Nat) (k : Nat) (σ : St) : Prop :=
  fC σ0 σ ∧ (∀ j, j < n → σ 21 j = ov j ∧ σ 22 j = tk j ∧ σ 23 j = if j < k then fr (σ0 8) ρ j else ρ j) ∧ σ 5 10 = nI (S ++ LO (σ0 8) ρ k).length ∧ rep (σ 26) 0 (S ++ LO (σ0 8) ρ k)
theorem SLO_nodup {n : Nat} {kd ρ : Nat → Int32} {S : List Nat} (hnd : S.Nodup) (hm : ∀ j, j ∈ S ↔ j < n ∧ kd j = 1 ∧ ρ j ≠ -9) (k : Nat) : (S ++ LO kd ρ k).Nodup := by
  rw [List.nodup_append]
  exact ⟨hnd, LO_nodup kd ρ k, fun a ha b hb e => ((hm a).mp ha).2.2 (by rw [e]; exact ((LO_mem kd ρ k b).mp hb).2.2)⟩
theorem SLO_len {n : Nat} {kd ρ : Nat → Int32} {S : List Nat} (hnd : S.Nodup) (hm : ∀ j, j ∈ S ↔ j < n ∧ kd j = 1 ∧ ρ j ≠ -9) (k : Nat) (hk : k ≤ n) : (S ++ LO kd ρ k).length ≤ n := nodup_len n _ (SLO_nodup hnd hm k) (fun x hx => by
  rcases List.mem_append.mp hx with h | h
  · exact ((hm x).mp h).1
  · have := ((LO_mem kd ρ k x).mp h).1; omega)
set_option maxHeartbeats 1000000 in
theorem p_a1 {n ln : Nat} {σ0 τ0 : St} {ov tk ρ : Nat → Int32} {S : List Nat} (h : B0 n ln σ0 τ0) (hnd : S.Nodup) (hm : ∀ j, j ∈ S ↔ j < n ∧ σ0 8 j = 1 ∧ ρ j ≠ -9) : ∀ (d k f : Nat) (σ : St), k + d = n → d < f → A1 n σ0 ov tk ρ S k σ → ∃ σ1, f_X5_build_L88 f (nI k) σ = bs (f_X5_giveNumbers σ1) (fun σ2 => some σ2) ∧ A1 n σ0 ov tk ρ S n σ1 := by
  have hn := h.1
  have c1 := h.2.2.1
  intro d
  induction d with
  | zero =>
    intro k f σ hk hf hc
    obtain ⟨f, rfl⟩ : ∃ g, f = g + 1 := ⟨f - 1, by omega⟩
    have e : k = n := by omega
    subst e
    refine ⟨σ, ?_, hc⟩
    rw [f_X5_build_L88, lf_ok, hc.1 1 (by decide), c1, if_pos (nI_le (by omega) (by omega))]
  | succ d ih =>
    intro k f σ hk hf hc
    obtain ⟨f, rfl⟩ : ∃ g, f = g + 1 := ⟨f - 1, by omega⟩
    have hk1 : k < n := by omega
    have hk24 : k < 24 := by omega
    obtain ⟨fc, a1, a2, a3⟩ := hc
    have r23 : σ 23 k = ρ k := by rw [(a1 k hk1).2.2, if_neg (by omega)]
    rw [f_X5_build_L88]
    simp only [lf_ok, fc 1 (by decide), c1, if_neg (nle_of hk1 (show n < 2 ^ 31 by omega)), p_wo fc hk24, bi_ok, nI_1, r23]
    have hl1 := SLO_len hnd hm (k + 1) (by omega)
    by_cases q : σ0 8 k = 1 ∧ ρ k = -9
    · have w1 : (if σ0 8 k = 1 ∧ ρ k = -9 then (1 : Int32) else 0) = 1 := if_pos q
      rw [LO_s, if_pos q, ← List.append_assoc, List.length_append] at hl1
      simp only [List.length_cons, List.length_nil] at hl1
      rw [w1, if_neg (by decide), sd24 hk24, p_app (T := (S ++ LO (σ0 8) ρ k).length) k (by omega) (by rw [ss_c _ (by decide)]; exact a2), bs_ok]
      refine ih (k + 1) f _ (by omega) (by omega) ⟨((fc.st (by decide)).st (by decide)).st (by decide), fun j hj => ?_, ?_, ?_⟩
      · rw [ss_c _ (show 21 ≠ 5 by decide), ss_c _ (show 21 ≠ 26 by decide), ss_c _ (show 21 ≠ 23 by decide), ss_c _ (show 22 ≠ 5 by decide), ss_c _ (show 22 ≠ 26 by decide), ss_c _ (show 22 ≠ 23 by decide), ss_c _ (show 23 ≠ 5 by decide), ss_c _ (show 23 ≠ 26 by decide), ss_if]
        refine ⟨(a1 j hj).1, (a1 j hj).2.1, ?_⟩
        by_cases z : j = k
        · subst z
          rw [if_pos rfl, if_pos (by omega), fr, if_pos q]
        · rw [if_neg z, (a1 j hj).2.2]
          by_cases y : j < k
          · rw [if_pos y, if_pos (by omega)]
          · rw [if_neg y, if_neg (by omega)]
      · rw [ss_same, LO_s, if_pos q]; congr 1; simp; omega
      · rw [LO_s, if_pos q, ← List.append_assoc, ss_c _ (by decide)]
        exact rep_push a3 (fun i hi => by rw [ss_ne _ _ _ _ _ (by omega), ss_c _ (by decide)]) (by rw [Nat.zero_add, ss_same])
    · have w1 : (if σ0 8 k = 1 ∧ ρ k = -9 then (1 : Int32) else 0) = 0 := if_neg q
      rw [w1, if_pos rfl]
      refine ih (k + 1) f σ (by omega) (by omega) ⟨fc, fun j hj => ?_, ?_, ?_⟩
      · refine ⟨(a1 j hj).1, (a1 j hj).2.1, ?_⟩
        rw [(a1 j hj).2.2]
        by_cases z : j = k
        · subst z
          rw [if_neg (by omega), if_pos (by omega), fr, if_neg q]
        · by_cases y : j < k
          · rw [if_pos y, if_pos (by omega)]
          · rw [if_neg y, if_neg (by omega)]
      · rw [LO_s, if_neg q, List.append_nil]; exact a2
      · rw [LO_s, if_neg q, List.append_nil]; exact a3
/-- cells that the numbering leaves as they are -/
def kp (σ σ' : St) : Prop := ∀ c, c ≠ 24 → c ≠ 25 → c ≠ 5 → σ' c = σ c
theorem p_n1 {n ln : Nat} {σ0 τ0 : St} {f : Nat → Int32} (h : B0 n ln σ0 τ0) (σa : St) (hc : fC σ0 σa) (hf : ∀ j, j < n → σa 23 j = f j) (T : Int32) : ∀ (d k g : Nat) (σ : St), k + d = n → d < g → kp σa σ → σ 5 10 = T → σ 5 3 = nI (RT f k).length → rep (σ 25) 0 (RT f k) → (∀ j, j < k → f j = nI j → σ 24 j = nI (RT f j).length) → ∃ σ1, f_X5_giveNumbers_L7 g (nI k) σ = f_X5_giveNumbers_L66 64 0 σ1 ∧ kp σa σ1 ∧ σ1 5 10 = T ∧ σ1 5 3 = nI (RT f n).length ∧ rep (σ1 25) 0 (RT f n) ∧ (∀ j, j < n → f j = nI j → σ1 24 j = nI (RT f j).length) := by
  have hn := h.1
  have c1 : σa 1 0 = nI n := by rw [hc 1 (by decide)]; exact h.2.2.1
  intro d
  induction d with
  | zero =>
    intro k g σ hk hg h1 h2 h3 h4 h5
    obtain ⟨g, rfl⟩ : ∃ z, g = z + 1 := ⟨g - 1, by omega⟩
    have e : k = n := by omega
    subst e
    refine ⟨σ, ?_, h1, h2, h3, h4, h5⟩
    rw [f_X5_giveNumbers_L7, lf_ok, h1 1 (by decide) (by decide) (by decide), c1, if_pos (nI_le (by omega) (by omega))]
  | succ d ih =>
    intro k g σ hk hg h1 h2 h3 h4 h5
    obtain ⟨g, rfl⟩ : ∃ z, g = z + 1 := ⟨g - 1, by omega⟩
    have hk1 : k < n := by omega
    have hk24 : k < 24 := by omega
    have hl := RT_len f k
    have e23 : σ 23 k = f k := by rw [h1 23 (by decide) (by decide) (by decide)]; exact hf k hk1
    rw [f_X5_giveNumbers_L7]
    simp only [lf_ok, sf_ok, h1 1 (by decide) (by decide) (by decide), c1, if_neg (nle_of hk1 (show n < 2 ^ 31 by omega)), ld24 hk24, e23, nI_1, h3, sd24 (show (RT f k).length < 24 by omega), ss_c _ (show 5 ≠ 25 by decide), sd24 hk24, ss_c _ (show 5 ≠ 24 by decide)]
    by_cases q : f k = nI k
    · rw [if_pos q]
      refine ih (k + 1) g _ (by omega) (by omega) (fun c z1 z2 z3 => by rw [ss_c _ z3, ss_c _ z1, ss_c _ z2]; exact h1 c z1 z2 z3) ?_ ?_ ?_ ?_
      · rw [ss_ne _ _ _ _ _ (by decide), ss_c _ (by decide), ss_c _ (by decide)]; exact h2
      · rw [ss_same, RT_s, if_pos q, List.length_append]; rfl
      · rw [RT_s, if_pos q, ss_c _ (by decide), ss_c _ (by decide)]
        exact rep_push h4 (fun i hi => by rw [ss_ne _ _ _ _ _ (by omega)]) (by rw [Nat.zero_add, ss_same])
      · intro j hj q2
        rw [ss_c _ (by decide), ss_if, ss_c _ (show 24 ≠ 25 by decide)]
        by_cases z : j = k
        · rw [if_pos z, z]
        · rw [if_neg z]; exact h5 j (by omega) q2
    · rw [if_neg q]
      refine ih (k + 1) g σ (by omega) (by omega) h1 h2 (by rw [RT_s, if_neg q, List.append_nil]; exact h3) (by rw [RT_s, if_neg q, List.append_nil]; exact h4) (fun j hj q2 => h5 j (by
        rcases Nat.eq_or_lt_of_le (Nat.le_of_lt_succ hj) with e | e
        · subst e; exact absurd q2 q
        · exact e) q2)
/-- the story of a block -/
def sto (f : Nat → Int32) (j : Nat) : Int32 := if f j = -9 then -9 else nI (RT f (f j).toNatClampNeg).length
def rooted (n : Nat) (f : Nat → Int32) : Prop := ∀ j, j < n → f j = -9 ∨ ∃ b, b < n ∧ f j = nI b ∧ f b = nI b
theorem sto_r {f : Nat → Int32} {j b : Nat} (hb : b < 2 ^ 31) (h : f j = nI b) : sto f j = nI (RT f b).length := by
  unfold sto; rw [h, if_neg (nI_ne9 hb), nI_clamp hb]
theorem p_n2 {n ln : Nat} {σ0 τ0 : St} {f : Nat → Int32} (h : B0 n ln σ0 τ0) (hr : rooted n f) (σa : St) (hc : fC σ0 σa) (hf : ∀ j, j < n → σa 23 j = f j) : ∀ (d k g : Nat) (σ : St), k + d = n → d < g → (∀ c, c ≠ 24 → σ c = σa c) → (∀ j, j < n → j < k ∨ f j = nI j → σ 24 j = sto f j) → ∃ σ1, f_X5_giveNumbers_L66 g (nI k) σ = some σ1 ∧ (∀ c, c ≠ 24 → σ1 c = σa c) ∧ (∀ j, j < n → σ1 24 j = sto f j) := by
  have hn := h.1
  have c1 : σa 1 0 = nI n := by rw [hc 1 (by decide)]; exact h.2.2.1
  intro d
  induction d with
  | zero =>
    intro k g σ hk hg h1 h2
    obtain ⟨g, rfl⟩ : ∃ z, g = z + 1 := ⟨g - 1, by omega⟩
    refine ⟨σ, ?_, h1, fun j hj => h2 j hj (Or.inl (by omega))⟩
    rw [f_X5_giveNumbers_L66, lf_ok, h1 1 (by decide), c1, if_pos (nI_le (by omega) (by omega))]
  | succ d ih =>
    intro k g σ hk hg h1 h2
    obtain ⟨g, rfl⟩ : ∃ z, g = z + 1 := ⟨g - 1, by omega⟩
    have hk1 : k < n := by omega
    have hk24 : k < 24 := by omega
    have e23 : σ 23 k = f k := by rw [h1 23 (by decide)]; exact hf k hk1
    have fin : ∀ v : Int32, v = sto f k → ∃ σ1, f_X5_giveNumbers_B109 (f_X5_giveNumbers_L66 g) (nI k) v (nI k) σ = some σ1 ∧ (∀ c, c ≠ 24 → σ1 c = σa c) ∧ (∀ j, j < n → σ1 24 j = sto f j) := by
      intro v hv
      unfold f_X5_giveNumbers_B109
      rw [sd24 hk24, nI_1]
      refine ih (k + 1) g _ (by omega) (by omega) (fun c z => by rw [ss_c _ z]; exact h1 c z) (fun j hj z => ?_)
      rw [ss_if]
      by_cases y : j = k
      · rw [if_pos y, y, hv]
      · rw [if_neg y]; exact h2 j hj (z.imp (fun z => by omega) id)
    rw [f_X5_giveNumbers_L66]
    simp only [lf_ok, h1 1 (by decide), c1, if_neg (nle_of hk1 (show n < 2 ^ 31 by omega)), ld24 hk24, e23]
    rcases hr k hk1 with q | ⟨b, hb, q, qb⟩
    · rw [if_pos q]
      exact fin (-9) (by unfold sto; rw [if_pos q])
    · rw [q, if_neg (nI_ne9 (by omega)), ld24 (show b < 24 by omega), h2 b hb (Or.inr qb)]
      exact fin _ (by rw [sto_r (by omega) qb, sto_r (by omega) q])
theorem p_gn {n ln : Nat} {σ0 τ0 : St} {f : Nat → Int32} (h : B0 n ln σ0 τ0) (hr : rooted n f) (σa : St) (hc : fC σ0 σa) (hf : ∀ j, j < n → σa 23 j = f j) : ∃ σ1, f_X5_giveNumbers σa = some σ1 ∧ kp σa σ1 ∧ σ1 5 10 = σa 5 10 ∧ σ1 5 3 = nI (RT f n).length ∧ rep (σ1 25) 0 (RT f n) ∧ (∀ j, j < n → σ1 24 j = sto f j) := by
  have hn := h.1
  unfold f_X5_giveNumbers
  rw [sf_ok]
  obtain ⟨σ1, g1, g2, g3, g4, g5, g6⟩ := p_n1 h σa hc hf (σa 5 10) n 0 64 (ss σa 5 3 0) (by omega) (by omega) (fun c z1 z2 z3 => by rw [ss_c _ z3]) (by rw [ss_ne _ _ _ _ _ (by decide)]) (by rw [ss_same]; rfl) (rep_nil _ _) (fun j hj => absurd hj (by omega))
  obtain ⟨σ2, k1, k2, k3⟩ := p_n2 h hr σ1 (fun c z => by rw [g2 c (by omega) (by omega) (by omega)]; exact hc c z) (fun j hj => by rw [g2 23 (by decide) (by decide) (by decide)]; exact hf j hj) n 0 64 σ1 (by omega) (by omega) (fun c _ => rfl) (fun j hj z => by
    rcases z with z | z
    · omega
    · rw [g6 j hj z, sto_r (by omega) z])
  have g1' : f_X5_giveNumbers_L7 64 0 (ss σa 5 3 0) = f_X5_giveNumbers_L66 64 0 σ1 := g1
  have k1' : f_X5_giveNumbers_L66 64 0 σ1 = some σ2 := k1
  refine ⟨σ2, g1'.trans k1', fun c z1 z2 z3 => by rw [k2 c z1]; exact g2 c z1 z2 z3, by rw [k2 5 (by decide)]; exact g3, by rw [k2 5 (by decide)]; exact g4, by rw [k2 25 (by decide)]; exact g5, k3⟩
