/-! marks onward, aims, links: both sides the same -/
def kA (σa σ : St) : Prop := ∀ c, c ≤ 5 ∨ (7 ≤ c ∧ c ≤ 26) → σ c = σa c
def kB (τa τ : St) : Prop := τ 0 0 = τa 0 0 ∧ τ 0 10 = τa 0 10 ∧ τ 0 21 = τa 0 21 ∧ ∀ c, 1 ≤ c → c ≤ 21 → τ c = τa c
theorem kA.rf {σ : St} : kA σ σ := fun _ _ => rfl
theorem kB.rf {τ : St} : kB τ τ := ⟨rfl, rfl, rfl, fun _ _ _ => rfl⟩
theorem kA.st {σ σ' : St} {c k : Nat} {v : Int32} (h : kA σ σ') (hc : 26 < c ∨ c = 6) : kA σ (ss σ' c k v) := fun d hd => by
  rw [ss_c _ (by omega)]; exact h d hd
theorem kB.st {τ τ' : St} {c k : Nat} {v : Int32} (h : kB τ τ') (hc : 21 < c) : kB τ (ss τ' c k v) :=
  ⟨by rw [ss_c _ (by omega)]; exact h.1, by rw [ss_c _ (by omega)]; exact h.2.1, by rw [ss_c _ (by omega)]; exact h.2.2.1, fun d h1 h2 => by rw [ss_c _ (by omega)]; exact h.2.2.2 d h1 h2⟩
theorem kB.st0 {τ τ' : St} {k : Nat} {v : Int32} (h : kB τ τ') (hk : k ≠ 0 ∧ k ≠ 10 ∧ k ≠ 21) : kB τ (ss τ' 0 k v) :=
  ⟨by rw [ss_ne _ _ _ _ _ (by omega)]; exact h.1, by rw [ss_ne _ _ _ _ _ (by omega)]; exact h.2.1, by rw [ss_ne _ _ _ _ _ (by omega)]; exact h.2.2.1, fun d h1 h2 => by rw [ss_c _ (by omega)]; exact h.2.2.2 d h1 h2⟩
theorem kA.C {σ σ' : St} (h : kA σ σ') : fC σ σ' := fun c hc => h c (by omega)
theorem kB.M {τ τ' : St} (h : kB τ τ') : fM τ τ' := ⟨h.1, h.2.1, fun c h1 h2 => h.2.2.2 c h1 (by omega)⟩
/-- by story: the text whose mark it goes on by, its aim -/
def AM (n m : Nat) (σa τa : St) (on am : Nat → Int32) : Prop := ∀ s, s < m → (∀ σ, kA σa σ → f_X0_lastOnward (nI s) σ = some (on s)) ∧ (∀ τ, kB τa τ → f_X7_onwardOf (nI s) τ = some (on s)) ∧ (on s = -9 ∧ am s = -9 ∨ ∃ k, k < n ∧ on s = nI k ∧ (am s = -9 ∨ ∃ t, t < m ∧ am s = nI t) ∧ (∀ σ, kA σa σ → f_X0_aimOf (nI k) σ = some (am s)) ∧ (∀ τ, kB τa τ → f_X7_aimBy (nI k) τ = some (am s)))
theorem AM_ex {n ln : Nat} {σa τa : St} {S : List Nat} {f : Nat → Int32} (h : B0 n ln σa τa) (hD : D1 n σa τa S f) : ∃ on am, AM n (RT f n).length σa τa on am := by
  have hn := h.1
  obtain ⟨hroot, hj, hnd, hmem, ht, hr, hc, hc2, hR, hR2, hb⟩ := hD
  have hS : ∀ j ∈ S, j < n := fun j hj => ((hmem j).mp hj).1
  have hSl : S.length ≤ 24 := Nat.le_trans (nodup_len n S hnd hS) hn
  have key : ∀ s : Nat, ∃ p : Int32 × Int32, s < (RT f n).length → (∀ σ, kA σa σ → f_X0_lastOnward (nI s) σ = some p.1) ∧ (∀ τ, kB τa τ → f_X7_onwardOf (nI s) τ = some p.1) ∧ (p.1 = -9 ∧ p.2 = -9 ∨ ∃ k, k < n ∧ p.1 = nI k ∧ (p.2 = -9 ∨ ∃ t, t < (RT f n).length ∧ p.2 = nI t) ∧ (∀ σ, kA σa σ → f_X0_aimOf (nI k) σ = some p.2) ∧ (∀ τ, kB τa τ → f_X7_aimBy (nI k) τ = some p.2)) := by
    intro s
    by_cases hs : s < (RT f n).length
    · have hb0 : (RT f n)[s]? = some (RT f n)[s] := List.getElem?_eq_getElem hs
      generalize (RT f n)[s] = b at hb0
      obtain ⟨hbn, fb, es⟩ := RT_get hb0
      have hsl : s < 24 := by have := RT_len f n; omega
      have hon1 : ∀ σ, kA σa σ → f_X0_lastOnward (nI s) σ = some (onw σa f S b) := by
        intro σ hk
        have e14 : σ 14 = σa 14 := hk 14 (by decide)
        unfold f_X0_lastOnward
        have := p_onC (σ := σ) (f := f) hn hS (fun j hjn => by rw [hk 24 (by decide)]; exact (hj j hjn).2.2.2.1) (by rw [hk 5 (by decide)]; exact ht) (by rw [hk 26 (by decide)]; exact hr) hSl s S.length 0 64 (-9) (by omega) (by omega)
        rw [List.drop_zero, foldC hn hroot hS hb0] at this
        have e : onw σ f S b = onw σa f S b := by unfold onw stepM; rw [e14]
        rw [e] at this
        exact this
      have hon2 : ∀ τ, kB τa τ → f_X7_onwardOf (nI s) τ = some (onw σa f S b) := by
        intro τ hk
        unfold f_X7_onwardOf
        have hv : τ 20 s = nI b := by rw [hk.2.2.2 20 (by decide) (by decide)]; have := hR2 s b hb0; rwa [Nat.zero_add] at this
        rw [ld24 hsl, hv]
        have hfl := fl_len f b S
        have := p_onM (h.M hk.M) hbn (L := fl f b S) (fun j hj => hS j (List.mem_filter.mp hj).1) (by rw [hk.2.2.2 18 (by decide) (by decide)]; exact (hb b hbn).1) (by rw [hk.2.2.2 19 (by decide) (by decide)]; exact (hb b hbn).2) (by omega) (fl f b S).length 0 64 (-9) (by omega) (by omega)
        rw [List.drop_zero] at this
        exact this
      rcases onw_rng σa (fl f b S) (-9) (Or.inl rfl) with z | ⟨k, k1, k2, k3⟩
      · have z' : onw σa f S b = -9 := z
        exact ⟨(onw σa f S b, -9), fun _ => ⟨hon1, hon2, Or.inl ⟨z', rfl⟩⟩⟩
      · have k3' : onw σa f S b = nI k := k3
        have hkn : k < n := hS k (List.mem_filter.mp k1).1
        obtain ⟨r, hr1, r1, r2⟩ := p_aim h (fun j hjn => (hj j hjn).2.2.2.2.1.trans (hj j hjn).2.2.2.1.symm) k hkn k2
        refine ⟨(onw σa f S b, r), fun _ => ⟨hon1, hon2, Or.inr ⟨k, hkn, k3', ?_, fun σ hk => ?_, fun τ hk => ?_⟩⟩⟩
        · rcases hr1 with z | ⟨j, j1, j2, j3⟩
          · exact Or.inl z
          · obtain ⟨t, c, t1, t2, t3, t4⟩ := sto_rng hn hroot j1 ((hj j j1).2.2.2.2.2.1 j2)
            exact Or.inr ⟨t, t2, by rw [j3, (hj j j1).2.2.2.1]; exact t3⟩
        · obtain ⟨r', -, r3, r4⟩ := p_aim (h.C hk.C) (fun j hjn => by rw [hk 24 (by decide)]; exact (hj j hjn).2.2.2.2.1.trans (hj j hjn).2.2.2.1.symm) k hkn (by rw [hk 14 (by decide)]; exact k2)
          rw [r3]; exact r4.symm.trans r2
        · obtain ⟨r', -, r3, r4⟩ := p_aim (h.M hk.M) (fun j hjn => by rw [hk.2.2.2 21 (by decide) (by decide)]; exact (hj j hjn).2.2.2.2.1.trans (hj j hjn).2.2.2.1.symm) k hkn k2
          rw [r4]; exact r3.symm.trans r1
    · exact ⟨(0, 0), fun q => absurd q hs⟩
  obtain ⟨p, hp⟩ := Classical.axiomOfChoice key
  exact ⟨fun s => (p s).1, fun s => (p s).2, hp⟩
/-! the first loops -/
theorem p_x1 {n m : Nat} {σa τa : St} {on am : Nat → Int32} (hm : m ≤ 24) (hA : AM n m σa τa on am) (h5 : σa 5 3 = nI m) : ∀ (d k g : Nat) (σ : St), k + d = m → d < g → kA σa σ → σ 6 3 = 0 → (∀ s, s < k → σ 27 s = on s ∧ σ 28 s = -9 ∧ σ 29 s = -9 ∧ σ 30 s = -9) → ∃ σ1, f_X0_build_L7 g (nI k) σ = f_X0_build_L61 64 0 σ1 ∧ kA σa σ1 ∧ σ1 6 3 = 0 ∧ (∀ s, s < m → σ1 27 s = on s ∧ σ1 28 s = -9 ∧ σ1 29 s = -9 ∧ σ1 30 s = -9) := by
  intro d
  induction d with
  | zero =>
    intro k g σ hk hg h1 h2 h3
    obtain ⟨g, rfl⟩ : ∃ z, g = z + 1 := ⟨g - 1, by omega⟩
    have e : k = m := by omega
    subst e
    refine ⟨σ, ?_, h1, h2, h3⟩
    rw [f_X0_build_L7, lf_ok, h1 5 (by decide), h5, if_pos (nI_le (by omega) (by omega))]
  | succ d ih =>
    intro k g σ hk hg h1 h2 h3
    obtain ⟨g, rfl⟩ : ∃ z, g = z + 1 := ⟨g - 1, by omega⟩
    have hk1 : k < m := by omega
    have hk24 : k < 24 := by omega
    rw [f_X0_build_L7]
    simp only [lf_ok, h1 5 (by decide), h5, if_neg (nle_of hk1 (show m < 2 ^ 31 by omega)), (hA k hk1).1 σ h1, bi_ok, sd24 hk24, nI_1]
    refine ih (k + 1) g _ (by omega) (by omega) ((((h1.st (by decide)).st (by decide)).st (by decide)).st (by decide)) (by rw [ss_c _ (by decide), ss_c _ (by decide), ss_c _ (by decide), ss_c _ (by decide)]; exact h2) (fun s hs => ?_)
    rw [ss_c _ (show 27 ≠ 30 by decide), ss_c _ (show 27 ≠ 29 by decide), ss_c _ (show 27 ≠ 28 by decide), ss_if, ss_c _ (show 28 ≠ 30 by decide), ss_c _ (show 28 ≠ 29 by decide), ss_if, ss_c _ (show 28 ≠ 27 by decide), ss_c _ (show 29 ≠ 30 by decide), ss_if, ss_c _ (show 29 ≠ 28 by decide), ss_c _ (show 29 ≠ 27 by decide), ss_if, ss_c _ (show 30 ≠ 29 by decide), ss_c _ (show 30 ≠ 28 by decide), ss_c _ (show 30 ≠ 27 by decide)]
    by_cases q : s = k
    · subst q
      rw [if_pos rfl, if_pos rfl, if_pos rfl, if_pos rfl]; exact ⟨rfl, rfl, rfl, rfl⟩
    · rw [if_neg q, if_neg q, if_neg q, if_neg q]; exact h3 s (by omega)
theorem p_y1 {n m : Nat} {σa τa : St} {on am : Nat → Int32} (hm : m ≤ 24) (hn : n ≤ 24) (hA : AM n m σa τa on am) (h5 : τa 0 21 = nI m) : ∀ (d k g : Nat) (τ : St), k + d = m → d < g → kB τa τ → (∀ s, s < k → (τ 22 s = if on s = -9 then 0 else 1) ∧ τ 23 s = am s ∧ τ 24 s = -9 ∧ τ 25 s = -9 ∧ τ 29 s = -9) → ∃ τ1, f_X7_findArticles_L6 g (nI k) τ = f_X7_findArticles_L91 64 0 τ1 ∧ kB τa τ1 ∧ (∀ s, s < m → (τ1 22 s = if on s = -9 then 0 else 1) ∧ τ1 23 s = am s ∧ τ1 24 s = -9 ∧ τ1 25 s = -9 ∧ τ1 29 s = -9) := by
  intro d
  induction d with
  | zero =>
    intro k g τ hk hg h1 h3
    obtain ⟨g, rfl⟩ : ∃ z, g = z + 1 := ⟨g - 1, by omega⟩
    have e : k = m := by omega
    subst e
    refine ⟨τ, ?_, h1, h3⟩
    rw [f_X7_findArticles_L6, lf_ok, h1.2.2.1, h5, if_pos (nI_le (by omega) (by omega))]
  | succ d ih =>
    intro k g τ hk hg h1 h3
    obtain ⟨g, rfl⟩ : ∃ z, g = z + 1 := ⟨g - 1, by omega⟩
    have hk1 : k < m := by omega
    have hk24 : k < 24 := by omega
    obtain ⟨-, hon, hcase⟩ := hA k hk1
    have step : ∀ w : Int32, (w = if on k = -9 then 0 else 1) → ∃ τ1, f_X7_findArticles_L91 64 0 τ1 = f_X7_findArticles_L6 g (nI (k + 1)) (ss (ss (ss (ss (ss τ 22 k w) 23 k (am k)) 24 k (-9)) 25 k (-9)) 29 k (-9)) ∧ kB τa τ1 ∧ (∀ s, s < m → (τ1 22 s = if on s = -9 then 0 else 1) ∧ τ1 23 s = am s ∧ τ1 24 s = -9 ∧ τ1 25 s = -9 ∧ τ1 29 s = -9) := by
      intro w hw
      obtain ⟨τ1, z1, z2⟩ := ih (k + 1) g (ss (ss (ss (ss (ss τ 22 k w) 23 k (am k)) 24 k (-9)) 25 k (-9)) 29 k (-9)) (by omega) (by omega) (((((h1.st (by decide)).st (by decide)).st (by decide)).st (by decide)).st (by decide)) (fun s hs => by
        rw [ss_c _ (show 22 ≠ 29 by decide), ss_c _ (show 22 ≠ 25 by decide), ss_c _ (show 22 ≠ 24 by decide), ss_c _ (show 22 ≠ 23 by decide), ss_if, ss_c _ (show 23 ≠ 29 by decide), ss_c _ (show 23 ≠ 25 by decide), ss_c _ (show 23 ≠ 24 by decide), ss_if, ss_c _ (show 23 ≠ 22 by decide), ss_c _ (show 24 ≠ 29 by decide), ss_c _ (show 24 ≠ 25 by decide), ss_if, ss_c _ (show 24 ≠ 23 by decide), ss_c _ (show 24 ≠ 22 by decide), ss_c _ (show 25 ≠ 29 by decide), ss_if, ss_c _ (show 25 ≠ 24 by decide), ss_c _ (show 25 ≠ 23 by decide), ss_c _ (show 25 ≠ 22 by decide), ss_if, ss_c _ (show 29 ≠ 25 by decide), ss_c _ (show 29 ≠ 24 by decide), ss_c _ (show 29 ≠ 23 by decide), ss_c _ (show 29 ≠ 22 by decide)]
        by_cases q : s = k
        · subst q
          rw [if_pos rfl, if_pos rfl, if_pos rfl, if_pos rfl, if_pos rfl]; exact ⟨hw, rfl, rfl, rfl, rfl⟩
        · rw [if_neg q, if_neg q, if_neg q, if_neg q, if_neg q]; exact h3 s (by omega))
      exact ⟨τ1, z1.symm, z2⟩
    rw [f_X7_findArticles_L6]
    simp only [lf_ok, h1.2.2.1, h5, if_neg (nle_of hk1 (show m < 2 ^ 31 by omega)), hon τ h1, bi_ok, f_X7_findArticles_B36, f_X7_findArticles_B58, gb0, gb1, sd24 hk24, nI_1]
    rcases hcase with ⟨e1, e2⟩ | ⟨x, x1, x2, x3, x4, x5⟩
    · obtain ⟨τ1, z1, z2⟩ := step 0 (by rw [if_pos e1])
      rw [if_pos e1, if_pos e1]
      rw [e2] at z1
      exact ⟨τ1, z1.symm, z2⟩
    · have e1 : ¬ on k = -9 := by rw [x2]; exact nI_ne9 (by omega)
      obtain ⟨τ1, z1, z2⟩ := step 1 (by rw [if_neg e1])
      rw [if_neg e1, if_neg e1, x2, x5 _ (h1.st (by decide)), bi_ok]
      exact ⟨τ1, z1.symm, z2⟩
/-! the links -/
def LK (n m : Nat) (σa τa : St) (on am : Nat → Int32) (σ τ : St) : Prop := kA σa σ ∧ kB τa τ ∧ σ 6 3 = 0 ∧ ∀ s, s < m → σ 27 s = on s ∧ (τ 22 s = if on s = -9 then 0 else 1) ∧ τ 23 s = am s ∧ τ 24 s = σ 28 s ∧ τ 25 s = σ 29 s ∧ σ 30 s = -9 ∧ τ 29 s = -9 ∧ (σ 28 s = -9 ∨ ∃ t, t < m ∧ σ 28 s = nI t ∧ σ 29 t ≠ -9)
set_option maxHeartbeats 1000000 in
theorem p_lk {n m : Nat} {σa τa : St} {on am : Nat → Int32} (hm : m ≤ 24) (hn : n ≤ 24) (hA : AM n m σa τa on am) (h5 : σa 5 3 = nI m) (h5' : τa 0 21 = nI m) : ∀ (d k g : Nat) (σ τ : St), k + d = m → d < g → LK n m σa τa on am σ τ → ∃ σ1 τ1, f_X0_build_L61 g (nI k) σ = f_X0_build_L85 64 0 σ1 ∧ f_X7_findArticles_L91 g (nI k) τ = f_X7_findArticles_L160 64 0 (ss (ss τ1 0 28 0) 0 33 0) ∧ LK n m σa τa on am σ1 τ1 := by
  intro d
  induction d with
  | zero =>
    intro k g σ τ hk hg hL
    obtain ⟨g, rfl⟩ : ∃ z, g = z + 1 := ⟨g - 1, by omega⟩
    refine ⟨σ, τ, ?_, ?_, hL⟩
    · rw [f_X0_build_L61, lf_ok, hL.1 5 (by decide), h5, if_pos (nI_le (by omega) (by omega))]
    · rw [f_X7_findArticles_L91, lf_ok, hL.2.1.2.2.1, h5', if_pos (nI_le (by omega) (by omega)), sf_ok, sf_ok]
  | succ d ih =>
    intro k g σ τ hk hg hL
    obtain ⟨g, rfl⟩ : ∃ z, g = z + 1 := ⟨g - 1, by omega⟩
    have hk1 : k < m := by omega
    have hk24 : k < 24 := by omega
    obtain ⟨h1, h2, h6, h3⟩ := id hL
    obtain ⟨a1, a2, a3, a4, a5, a6, a7, a8⟩ := h3 k hk1
    have C : f_X0_linkToAim (nI k) σ = f_X0_linkToAim_B26 (nI k) (am k) σ := by
      unfold f_X0_linkToAim
      simp only [ld24 hk24, a1]
      rcases (hA k hk1).2.2 with ⟨e1, e2⟩ | ⟨x, x1, x2, x3, x4, x5⟩
      · rw [if_pos e1, e2]
      · rw [x2, if_neg (nI_ne9 (by omega)), x4 σ h1, bi_ok]
    have goon := ih (k + 1) g σ τ (by omega) (by omega) hL
    rw [f_X0_build_L61, f_X7_findArticles_L91]
    simp only [lf_ok, h1 5 (by decide), h5, h2.2.2.1, h5', if_neg (nle_of hk1 (show m < 2 ^ 31 by omega)), C, ld24 hk24, a3, nI_1]
    unfold f_X0_linkToAim_B26
    have hr : am k = -9 ∨ ∃ t, t < m ∧ am k = nI t := by
      rcases (hA k hk1).2.2 with ⟨e1, e2⟩ | ⟨x, x1, x2, x3, x4, x5⟩
      · exact Or.inl e2
      · exact x3
    rcases hr with e | ⟨t, ht, e⟩
    · simp only [e, if_true, reduceIte, bs_ok]; exact goon
    · rw [e]
      have ht24 : t < 24 := by omega
      simp only [if_neg (nI_ne9 (show t < 2 ^ 31 by omega)), ld24 ht24, (h3 t ht).2.2.2.2.1]
      by_cases q1 : nI t = nI k
      · simp only [if_pos q1, bs_ok]; exact goon
      · simp only [if_neg q1]
        by_cases q2 : σ 29 t = -9
        · simp only [if_pos q2, sd24 hk24, sd24 ht24, bs_ok]
          refine ih (k + 1) g _ _ (by omega) (by omega) ⟨(h1.st (by decide)).st (by decide), (h2.st (by decide)).st (by decide), by rw [ss_c _ (by decide), ss_c _ (by decide)]; exact h6, fun s hs => ?_⟩
          obtain ⟨b1, b2, b3, b4, b5, b6, b7, b8⟩ := h3 s hs
          have r28 : ∀ s, ss (ss σ 28 k (nI t)) 29 t (nI k) 28 s = if s = k then nI t else σ 28 s := fun s => by rw [ss_c _ (by decide), ss_if]
          have r29 : ∀ s, ss (ss σ 28 k (nI t)) 29 t (nI k) 29 s = if s = t then nI k else σ 29 s := fun s => by rw [ss_if, ss_c _ (show 29 ≠ 28 by decide)]
          have r24 : ∀ s, ss (ss τ 25 t (nI k)) 24 k (nI t) 24 s = if s = k then nI t else τ 24 s := fun s => by rw [ss_if, ss_c _ (show 24 ≠ 25 by decide)]
          have r25 : ∀ s, ss (ss τ 25 t (nI k)) 24 k (nI t) 25 s = if s = t then nI k else τ 25 s := fun s => by rw [ss_c _ (show 25 ≠ 24 by decide), ss_if]
          rw [r28 s, r29 s, r24 s, r25 s, ss_c _ (show 27 ≠ 29 by decide), ss_c _ (show 27 ≠ 28 by decide), ss_c _ (show 30 ≠ 29 by decide), ss_c _ (show 30 ≠ 28 by decide), ss_c _ (show 22 ≠ 24 by decide), ss_c _ (show 22 ≠ 25 by decide), ss_c _ (show 23 ≠ 24 by decide), ss_c _ (show 23 ≠ 25 by decide), ss_c _ (show 29 ≠ 24 by decide), ss_c _ (show 29 ≠ 25 by decide)]
          refine ⟨b1, b2, b3, ?_, ?_, b6, b7, ?_⟩
          · by_cases q : s = k
            · rw [if_pos q, if_pos q]
            · rw [if_neg q, if_neg q]; exact b4
          · by_cases q : s = t
            · rw [if_pos q, if_pos q]
            · rw [if_neg q, if_neg q]; exact b5
          · by_cases q : s = k
            · rw [if_pos q]
              refine Or.inr ⟨t, ht, rfl, ?_⟩
              rw [r29, if_pos rfl]; exact nI_ne9 (by omega)
            · rw [if_neg q]
              rcases b8 with z | ⟨u, u1, u2, u3⟩
              · exact Or.inl z
              · refine Or.inr ⟨u, u1, u2, ?_⟩
                rw [r29]
                by_cases y : u = t
                · rw [if_pos y]; exact nI_ne9 (by omega)
                · rw [if_neg y]; exact u3
        · simp only [if_neg q2, bs_ok]; exact goon
