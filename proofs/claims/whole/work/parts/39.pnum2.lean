/-! the reference's last loops -/
theorem fM_k {τ0 τ τ' : St} (h : fM τ0 τ) (hk : ∀ c, c ≠ 18 → c ≠ 19 → τ' c = τ c) : fM τ0 τ' := ⟨by rw [hk 0 (by decide) (by decide)]; exact h.1, by rw [hk 0 (by decide) (by decide)]; exact h.2.1, fun c z1 z2 => by rw [hk c (by omega) (by omega)]; exact h.2.2 c z1 z2⟩
/-- what the joining leaves of a block's root and of the reference's headOf -/
def Jr (n : Nat) (kd ov ρ h16 : Nat → Int32) : Prop := ∀ j, j < n → (kd j = 0 ∨ kd j = 1 ∨ kd j = 2) ∧ (ov j = -9 ∨ ∃ w, w < n ∧ kd w = 0 ∧ ov j = nI w) ∧ (kd j = 0 → ρ j = nI j ∧ h16 j = -9) ∧ (kd j = 2 → ρ j = ov j ∧ h16 j = -9) ∧ (kd j = 1 → h16 j = ρ j ∧ (ρ j = -9 ∨ ∃ w, w < n ∧ kd w = 0 ∧ ρ j = nI w))
theorem Jr_root {n : Nat} {kd ov ρ h16 : Nat → Int32} (hn : n ≤ 24) (h : Jr n kd ov ρ h16) : rooted n (fr kd ρ) := by
  have hd : ∀ w, w < n → kd w = 0 → fr kd ρ w = nI w := fun w hw q => by
    unfold fr; rw [if_neg (fun z => absurd (q.symm.trans z.1) (by decide))]; exact ((h w hw).2.2.1 q).1
  intro j hj
  obtain ⟨h3, h4, h5, h6, h7⟩ := h j hj
  rcases h3 with q | q | q
  · exact Or.inr ⟨j, hj, hd j hj q, hd j hj q⟩
  · unfold fr
    by_cases z : ρ j = -9
    · have e : fr kd ρ j = nI j := by unfold fr; rw [if_pos ⟨q, z⟩]
      rw [if_pos ⟨q, z⟩]; exact Or.inr ⟨j, hj, rfl, e⟩
    · rw [if_neg (fun y => z y.2)]
      obtain ⟨w, w1, w2, w3⟩ := (h7 q).2.resolve_left z
      exact Or.inr ⟨w, w1, w3, hd w w1 w2⟩
  · unfold fr
    rw [if_neg (fun y => absurd (q.symm.trans y.1) (by decide)), (h6 q).1]
    rcases h4 with z | ⟨w, w1, w2, w3⟩
    · exact Or.inl z
    · exact Or.inr ⟨w, w1, w3, hd w w1 w2⟩
/-- who is a story's own block: heads, and texts left over -/
theorem Jr_own {n : Nat} {kd ov ρ h16 : Nat → Int32} (hn : n ≤ 24) (h : Jr n kd ov ρ h16) {j : Nat} (hj : j < n) : fr kd ρ j = nI j ↔ (kd j = 0 ∨ kd j = 1 ∧ h16 j = -9) := by
  obtain ⟨h3, h4, h5, h6, h7⟩ := h j hj
  have ne : ∀ w, w < n → kd w = 0 → ¬ kd j = 0 → ¬ nI w = nI j := fun w hw q z e => by
    rw [nI_eq (by omega) (by omega)] at e; subst e; exact z q
  rcases h3 with q | q | q
  · have e : fr kd ρ j = nI j := by unfold fr; rw [if_neg (fun z => absurd (q.symm.trans z.1) (by decide))]; exact (h5 q).1
    exact ⟨fun _ => Or.inl q, fun _ => e⟩
  · have q0 : ¬ kd j = 0 := fun z => absurd (z.symm.trans q) (by decide)
    rw [(h7 q).1]
    unfold fr
    by_cases z : ρ j = -9
    · rw [if_pos ⟨q, z⟩]; exact ⟨fun _ => Or.inr ⟨q, z⟩, fun _ => rfl⟩
    · rw [if_neg (fun y => z y.2)]
      obtain ⟨w, w1, w2, w3⟩ := (h7 q).2.resolve_left z
      rw [w3]
      exact ⟨fun e => absurd e (ne w w1 w2 q0), fun e => e.elim (fun e => absurd e q0) (fun e => absurd e.2 (nI_ne9 (by omega)))⟩
  · have q0 : ¬ kd j = 0 := fun z => absurd (z.symm.trans q) (by decide)
    have q1 : ¬ kd j = 1 := fun z => absurd (z.symm.trans q) (by decide)
    unfold fr
    rw [if_neg (fun y => q1 y.1), (h6 q).1]
    constructor
    · intro e
      rcases h4 with z | ⟨w, w1, w2, w3⟩
      · exact absurd (z.symm.trans e) (ne9_nI (by omega))
      · exact absurd (w3.symm.trans e) (ne w w1 w2 q0)
    · rintro (e | e)
      · exact absurd e q0
      · exact absurd e.1 q1
def A2 (n : Nat) (σ0 τ0 : St) (ov tk ρ h16 : Nat → Int32) (S : List Nat) (k m : Nat) (τ : St) : Prop :=
  fM τ0 τ ∧ (∀ j, j < n → τ 15 j = ov j ∧ τ 16 j = h16 j ∧ τ 17 j = tk j) ∧ τ 0 21 = nI (RT (fr (σ0 8) ρ) k).length ∧ rep (τ 20) 0 (RT (fr (σ0 8) ρ) k) ∧ (∀ j, j < k → fr (σ0 8) ρ j = nI j → τ 21 j = nI (RT (fr (σ0 8) ρ) j).length) ∧ ∀ w, w < n → τ 18 w = nI (fl ρ w S ++ if w < m ∧ σ0 8 w = 1 ∧ ρ w = -9 then [w] else []).length ∧ rep (τ 19) (24 * w) (fl ρ w S ++ if w < m ∧ σ0 8 w = 1 ∧ ρ w = -9 then [w] else [])
theorem p_a2s {n ln : Nat} {σ0 τ0 : St} {ov tk ρ h16 : Nat → Int32} {S : List Nat} (h : B0 n ln σ0 τ0) (K : Int32 → St → Option St) (k m : Nat) (hk : k < n) (τ : St) (hc : A2 n σ0 τ0 ov tk ρ h16 S k m τ) (own : fr (σ0 8) ρ k = nI k) : ∃ τ', f_X7_findStories_B186 K (nI k) τ = K (nI (k + 1)) τ' ∧ A2 n σ0 τ0 ov tk ρ h16 S (k + 1) m τ' := by
  have hn := h.1
  obtain ⟨fm, a1, a2, a3, a4, a5⟩ := hc
  have hlen := RT_len (fr (σ0 8) ρ) k
  unfold f_X7_findStories_B186
  simp only [lf_ok, sf_ok, a2, sd24 (show (RT (fr (σ0 8) ρ) k).length < 24 by omega), sd24 (show k < 24 by omega), ss_c _ (show 0 ≠ 20 by decide), ss_c _ (show 0 ≠ 21 by decide), nI_1]
  refine ⟨_, rfl, ((fm.st (by decide)).st (by decide)).st0 (by decide), fun j hj => ?_, ?_, ?_, fun j hj q => ?_, fun w hw => ?_⟩
  · rw [ss_c _ (show 15 ≠ 0 by decide), ss_c _ (show 15 ≠ 21 by decide), ss_c _ (show 15 ≠ 20 by decide), ss_c _ (show 16 ≠ 0 by decide), ss_c _ (show 16 ≠ 21 by decide), ss_c _ (show 16 ≠ 20 by decide), ss_c _ (show 17 ≠ 0 by decide), ss_c _ (show 17 ≠ 21 by decide), ss_c _ (show 17 ≠ 20 by decide)]
    exact a1 j hj
  · rw [ss_same, RT_s, if_pos own, List.length_append]; rfl
  · rw [RT_s, if_pos own, ss_c _ (show 20 ≠ 0 by decide), ss_c _ (show 20 ≠ 21 by decide)]
    exact rep_push a3 (fun i hi => by rw [ss_ne _ _ _ _ _ (by omega)]) (by rw [Nat.zero_add, ss_same])
  · rw [ss_c _ (show 21 ≠ 0 by decide), ss_if, ss_c _ (show 21 ≠ 20 by decide)]
    by_cases z : j = k
    · rw [if_pos z, z]
    · rw [if_neg z]; exact a4 j (by omega) q
  · rw [ss_c _ (show 18 ≠ 0 by decide), ss_c _ (show 18 ≠ 21 by decide), ss_c _ (show 18 ≠ 20 by decide), ss_c _ (show 19 ≠ 0 by decide), ss_c _ (show 19 ≠ 21 by decide), ss_c _ (show 19 ≠ 20 by decide)]
    exact a5 w hw
theorem A2_m {n : Nat} {σ0 τ0 : St} {ov tk ρ h16 : Nat → Int32} {S : List Nat} {k : Nat} {i : Nat} {τ : St} (hc : A2 n σ0 τ0 ov tk ρ h16 S i k τ) (hl : ¬ (σ0 8 k = 1 ∧ ρ k = -9)) : A2 n σ0 τ0 ov tk ρ h16 S i (k + 1) τ := by
  obtain ⟨fm, a1, a2, a3, a4, a5⟩ := hc
  refine ⟨fm, a1, a2, a3, a4, fun w hw => ?_⟩
  have e : (w < k + 1 ∧ σ0 8 w = 1 ∧ ρ w = -9) = (w < k ∧ σ0 8 w = 1 ∧ ρ w = -9) := propext ⟨fun z => ⟨by
    rcases Nat.eq_or_lt_of_le (Nat.le_of_lt_succ z.1) with e | e
    · subst e; exact absurd z.2 hl
    · exact e, z.2⟩, fun z => ⟨by omega, z.2⟩⟩
  simp only [e]
  exact a5 w hw
theorem A2_n {n : Nat} {σ0 τ0 : St} {ov tk ρ h16 : Nat → Int32} {S : List Nat} {k : Nat} {m : Nat} {τ : St} (hc : A2 n σ0 τ0 ov tk ρ h16 S k m τ) (hl : ¬ fr (σ0 8) ρ k = nI k) : A2 n σ0 τ0 ov tk ρ h16 S (k + 1) m τ := by
  obtain ⟨fm, a1, a2, a3, a4, a5⟩ := hc
  refine ⟨fm, a1, by rw [RT_s, if_neg hl, List.append_nil]; exact a2, by rw [RT_s, if_neg hl, List.append_nil]; exact a3, fun j hj q => a4 j (by
    rcases Nat.eq_or_lt_of_le (Nat.le_of_lt_succ hj) with e | e
    · subst e; exact absurd q hl
    · exact e) q, a5⟩
set_option maxHeartbeats 1000000 in
theorem p_a2 {n ln : Nat} {σ0 τ0 : St} {ov tk ρ h16 : Nat → Int32} {S : List Nat} (h : B0 n ln σ0 τ0) (hJ : Jr n (σ0 8) ov ρ h16) (hS : ∀ j, j ∈ S → j < n ∧ σ0 8 j = 1 ∧ ρ j ≠ -9) (hSlen : ∀ w, (fl ρ w S).length ≤ 24) : ∀ (d k f : Nat) (τ : St), k + d = n → d < f → A2 n σ0 τ0 ov tk ρ h16 S k k τ → ∃ τ1, f_X7_findStories_L128 f (nI k) τ = f_X7_findStories_L224 64 0 τ1 ∧ A2 n σ0 τ0 ov tk ρ h16 S n n τ1 := by
  have hn := h.1
  have c2 := h.2.2.2.1
  intro d
  induction d with
  | zero =>
    intro k f τ hk hf hc
    obtain ⟨f, rfl⟩ : ∃ g, f = g + 1 := ⟨f - 1, by omega⟩
    have e : k = n := by omega
    subst e
    refine ⟨τ, ?_, hc⟩
    rw [f_X7_findStories_L128, lf_ok, hc.1.1, c2, if_pos (nI_le (by omega) (by omega))]
  | succ d ih =>
    intro k f τ hk hf hc
    obtain ⟨f, rfl⟩ : ∃ g, f = g + 1 := ⟨f - 1, by omega⟩
    have hk1 : k < n := by omega
    have hk24 : k < 24 := by omega
    have e2 : τ 2 k = σ0 8 k := by rw [hc.1.2.2 2 (by decide) (by decide)]; exact (h.2.2.2.2.2.2.1 k hk1).2.1
    have e16 : τ 16 k = h16 k := (hc.2.1 k hk1).2.1
    obtain ⟨h3, h4, h5, h6, h7⟩ := hJ k hk1
    have own := Jr_own hn hJ hk1
    rw [f_X7_findStories_L128]
    simp only [lf_ok, hc.1.1, c2, if_neg (nle_of hk1 (show n < 2 ^ 31 by omega)), ld24 hk24, e2, e16, f_X7_findStories_B161, f_X7_findStories_B162, f_X7_findStories_B173, o10, eq_self, if_true, if_false, reduceIte, nI_1]
    rcases h3 with q | q | q
    · have q1 : ¬ σ0 8 k = 1 := fun z => absurd (z.symm.trans q) (by decide)
      rw [if_neg q1, if_pos q]
      obtain ⟨τ', g1, g2⟩ := p_a2s h (f_X7_findStories_L128 f) k k hk1 τ hc (own.mpr (Or.inl q))
      rw [g1]
      exact ih (k + 1) f τ' (by omega) (by omega) (A2_m g2 (fun z => q1 z.1))
    · rw [if_pos q]
      by_cases z : h16 k = -9
      · rw [if_pos z]
        have zρ : ρ k = -9 := by rw [← (h7 q).1]; exact z
        have hnil : fl ρ k S = [] := by
          unfold fl
          rw [List.filter_eq_nil_iff]
          intro j hj hd
          have hd' : ρ j = nI k := by simpa using hd
          obtain ⟨j1, j2, j3⟩ := hS j hj
          obtain ⟨w, w1, w2, w3⟩ := (((hJ j j1).2.2.2.2 j2).2).resolve_left j3
          have : w = k := (nI_eq (by omega) (by omega)).mp (w3.symm.trans hd')
          subst this
          exact absurd (w2.symm.trans q) (by decide)
        obtain ⟨fm, a1, a2, a3, a4, a5⟩ := hc
        have a5k := a5 k hk1
        rw [hnil, if_neg (fun z => absurd z.1 (by omega)), List.append_nil] at a5k
        obtain ⟨τ', b1, b2, b3, b4, b5, b6⟩ := p_beh hn k k hk1 [] (by decide) τ a5k.1 a5k.2
        rw [b1, bs_ok]
        have hA : A2 n σ0 τ0 ov tk ρ h16 S k (k + 1) τ' := by
          refine ⟨fM_k fm b6, fun j hj => by rw [b6 15 (by decide) (by decide), b6 16 (by decide) (by decide), b6 17 (by decide) (by decide)]; exact a1 j hj, by rw [b6 0 (by decide) (by decide)]; exact a2, by rw [b6 20 (by decide) (by decide)]; exact a3, fun j hj y => by rw [b6 21 (by decide) (by decide)]; exact a4 j hj y, fun w hw => ?_⟩
          by_cases y : w = k
          · subst y
            rw [hnil, if_pos ⟨by omega, q, zρ⟩]
            exact ⟨b3, b2⟩
          · have e : (w < k + 1 ∧ σ0 8 w = 1 ∧ ρ w = -9) = (w < k ∧ σ0 8 w = 1 ∧ ρ w = -9) := propext ⟨fun z => ⟨by omega, z.2⟩, fun z => ⟨by omega, z.2⟩⟩
            simp only [e]
            rw [b4 w y]
            refine ⟨(a5 w hw).1, rep_kept (a5 w hw).2 (fun i hi => ?_)⟩
            have hli : i < 24 := by
              have hnd : (fl ρ w S ++ if w < k ∧ σ0 8 w = 1 ∧ ρ w = -9 then [w] else []).length ≤ 24 := by
                have := (a5 w hw).1
                by_cases y2 : w < k ∧ σ0 8 w = 1 ∧ ρ w = -9
                · have hnil2 : fl ρ w S = [] := by
                    unfold fl
                    rw [List.filter_eq_nil_iff]
                    intro j hj hd
                    have hd' : ρ j = nI w := by simpa using hd
                    obtain ⟨j1, j2, j3⟩ := hS j hj
                    obtain ⟨v, w1, w2, w3⟩ := (((hJ j j1).2.2.2.2 j2).2).resolve_left j3
                    have : v = w := (nI_eq (by omega) (by omega)).mp (w3.symm.trans hd')
                    subst this
                    exact absurd (w2.symm.trans y2.2.1) (by decide)
                  rw [hnil2, if_pos y2]; simp
                · rw [if_neg y2, List.append_nil]
                  exact hSlen w
              omega
            exact b5 _ (by omega)
        obtain ⟨τ2, g1, g2⟩ := p_a2s h (f_X7_findStories_L128 f) k (k + 1) hk1 τ' hA (own.mpr (Or.inr ⟨q, z⟩))
        rw [g1]
        exact ih (k + 1) f τ2 (by omega) (by omega) g2
      · have q0 : ¬ σ0 8 k = 0 := fun y => absurd (y.symm.trans q) (by decide)
        rw [if_neg z, if_neg q0]
        refine ih (k + 1) f τ (by omega) (by omega) (A2_m (A2_n hc (fun y => ?_)) (fun y => z (by rw [(h7 q).1]; exact y.2)))
        rcases own.mp y with y | y
        · exact q0 y
        · exact z y.2
    · have q0 : ¬ σ0 8 k = 0 := fun y => absurd (y.symm.trans q) (by decide)
      have q1 : ¬ σ0 8 k = 1 := fun y => absurd (y.symm.trans q) (by decide)
      rw [if_neg q1, if_neg q0]
      refine ih (k + 1) f τ (by omega) (by omega) (A2_m (A2_n hc (fun y => ?_)) (fun y => q1 y.1))
      rcases own.mp y with y | y
      · exact q0 y
      · exact q1 y.1
theorem p_a3 {n ln : Nat} {σ0 τ0 : St} {ov ρ h16 : Nat → Int32} (h : B0 n ln σ0 τ0) (hJ : Jr n (σ0 8) ov ρ h16) (τa : St) (fm : fM τ0 τa) (h15 : ∀ j, j < n → τa 15 j = ov j ∧ τa 16 j = h16 j) : ∀ (d k g : Nat) (τ : St), k + d = n → d < g → (∀ c, c ≠ 21 → τ c = τa c) → (∀ j, j < n → j < k ∨ fr (σ0 8) ρ j = nI j → τ 21 j = sto (fr (σ0 8) ρ) j) → ∃ τ1, f_X7_findStories_L224 g (nI k) τ = some τ1 ∧ (∀ c, c ≠ 21 → τ1 c = τa c) ∧ (∀ j, j < n → τ1 21 j = sto (fr (σ0 8) ρ) j) := by
  have hn := h.1
  have c2 : τa 0 0 = nI n := by rw [fm.1]; exact h.2.2.2.1
  intro d
  induction d with
  | zero =>
    intro k g τ hk hg h1 h2
    obtain ⟨g, rfl⟩ : ∃ z, g = z + 1 := ⟨g - 1, by omega⟩
    refine ⟨τ, ?_, h1, fun j hj => h2 j hj (Or.inl (by omega))⟩
    rw [f_X7_findStories_L224, lf_ok, h1 0 (by decide), c2, if_pos (nI_le (by omega) (by omega))]
  | succ d ih =>
    intro k g τ hk hg h1 h2
    obtain ⟨g, rfl⟩ : ∃ z, g = z + 1 := ⟨g - 1, by omega⟩
    have hk1 : k < n := by omega
    have hk24 : k < 24 := by omega
    have e2 : τ 2 k = σ0 8 k := by rw [h1 2 (by decide), fm.2.2 2 (by decide) (by decide)]; exact (h.2.2.2.2.2.2.1 k hk1).2.1
    have e15 : τ 15 k = ov k := by rw [h1 15 (by decide)]; exact (h15 k hk1).1
    have e16 : τ 16 k = h16 k := by rw [h1 16 (by decide)]; exact (h15 k hk1).2
    obtain ⟨h3, h4, h5, h6, h7⟩ := hJ k hk1
    have own := Jr_own hn hJ hk1
    have fin : ∀ v : Int32, v = sto (fr (σ0 8) ρ) k → ∃ τ1, f_X7_findStories_B314 (f_X7_findStories_L224 g) (nI k) v (nI k) τ = some τ1 ∧ (∀ c, c ≠ 21 → τ1 c = τa c) ∧ (∀ j, j < n → τ1 21 j = sto (fr (σ0 8) ρ) j) := by
      intro v hv
      unfold f_X7_findStories_B314
      rw [sd24 hk24, nI_1]
      refine ih (k + 1) g _ (by omega) (by omega) (fun c z => by rw [ss_c _ z]; exact h1 c z) (fun j hj z => ?_)
      rw [ss_if]
      by_cases y : j = k
      · rw [if_pos y, y, hv]
      · rw [if_neg y]; exact h2 j hj (z.imp (fun z => by omega) id)
    have head : ∀ w, w < n → σ0 8 w = 0 → fr (σ0 8) ρ k = nI w → ∃ τ1, (ld τ 21 24 (nI w) fun x3 => f_X7_findStories_B314 (f_X7_findStories_L224 g) (nI k) x3 (nI k) τ) = some τ1 ∧ (∀ c, c ≠ 21 → τ1 c = τa c) ∧ (∀ j, j < n → τ1 21 j = sto (fr (σ0 8) ρ) j) := by
      intro w w1 w2 w3
      have ow := (Jr_own hn hJ w1).mpr (Or.inl w2)
      rw [ld24 (show w < 24 by omega), h2 w w1 (Or.inr ow)]
      exact fin _ (by rw [sto_r (by omega) ow, sto_r (by omega) w3])
    rw [f_X7_findStories_L224]
    simp only [lf_ok, h1 0 (by decide), c2, if_neg (nle_of hk1 (show n < 2 ^ 31 by omega)), ld24 hk24, e2, e15, e16, f_X7_findStories_B272]
    rcases h3 with q | q | q
    · rw [if_neg (fun z => absurd (z.symm.trans q) (by decide)), if_neg (fun z => absurd (z.symm.trans q) (by decide)), if_pos trivial, if_neg (fun z => absurd (z.symm.trans q) (by decide)), h2 k hk1 (Or.inr (own.mpr (Or.inl q)))]
      exact fin _ rfl
    · rw [if_pos q]
      by_cases z : h16 k = -9
      · rw [if_pos z, if_neg (fun z => absurd (z.symm.trans q) (by decide)), h2 k hk1 (Or.inr (own.mpr (Or.inr ⟨q, z⟩)))]
        exact fin _ rfl
      · have zρ : ¬ ρ k = -9 := by rw [← (h7 q).1]; exact z
        obtain ⟨w, w1, w2, w3⟩ := (h7 q).2.resolve_left zρ
        rw [if_neg z, (h7 q).1, w3]
        exact head w w1 w2 (by unfold fr; rw [if_neg (fun y => zρ y.2)]; exact w3)
    · rw [if_neg (fun z => absurd (z.symm.trans q) (by decide)), if_pos q]
      have ef : fr (σ0 8) ρ k = ov k := by unfold fr; rw [if_neg (fun y => absurd (y.1.symm.trans q) (by decide))]; exact (h6 q).1
      rcases h4 with z | ⟨w, w1, w2, w3⟩
      · rw [if_pos z, if_pos q]
        exact fin _ (by unfold sto; rw [ef, if_pos z])
      · rw [w3, if_neg (nI_ne9 (by omega))]
        exact head w w1 w2 (by rw [ef]; exact w3)
