/-! a text comes to its place in the class's row -/
theorem ky_fC {σ σ' : St} (f : fC σ σ') : ky σ' = ky σ := by
  funext k; unfold ky; rw [f 9 (by decide), f 11 (by decide)]
theorem p_insL {n ln : Nat} {σ0 τ : St} (h : B0 n ln σ0 τ) (k : Nat) (hk : k < n) (S : List Nat) (hS : ∀ x ∈ S, x < n) (hT : S.length < 24) : ∀ (p f : Nat) (σ : St), fC σ0 σ → p ≤ S.length → p < f → σ 5 10 = nI S.length → (∀ i x, S[i]? = some x → i < p → σ 26 i = nI x) → (∀ i x, S[i]? = some x → p ≤ i → σ 26 (i + 1) = nI x) → (∀ e ∈ S.drop p, ky σ0 k < ky σ0 e) → ∃ σ' : St, f_X5_insert_L5 f (nI k) (nI p) σ = some σ' ∧ rep (σ' 26) 0 (ins (ky σ0) k S) ∧ σ' 5 10 = nI (S.length + 1) ∧ (∀ c, c ≠ 26 → c ≠ 5 → σ' c = σ c) := by
  intro p
  induction p with
  | zero =>
    intro f σ fc hp hf ht h1 h2 h3
    obtain ⟨f, rfl⟩ : ∃ g, f = g + 1 := ⟨f - 1, by omega⟩
    rw [f_X5_insert_L5, if_pos (show nI 0 ≤ 0 by decide)]
    unfold f_X5_insert_B48
    rw [sd24 (by omega)]
    simp only [lf_ok, sf_ok]
    refine ⟨_, rfl, ?_, ?_, ?_⟩
    · rw [ins_eq (ky σ0) k S 0 h3 (Or.inl rfl) (Nat.zero_le _)]
      intro i y hy
      rw [ss_c _ (by decide), Nat.zero_add, ss_if]
      rcases mid_get S k 0 i y (Nat.zero_le _) hy with ⟨q, -⟩ | ⟨q, e⟩ | ⟨q, e⟩
      · omega
      · rw [if_pos q, e]
      · rw [if_neg (by omega)]
        have := h2 (i - 1) y e (by omega)
        rwa [show i - 1 + 1 = i by omega] at this
    · rw [ss_same, ss_c _ (by decide), ht, nI_1]
    · intro c c1 c2
      rw [ss_c _ c2, ss_c _ c1]
  | succ p ih =>
    intro f σ fc hp hf ht h1 h2 h3
    obtain ⟨f, rfl⟩ : ∃ g, f = g + 1 := ⟨f - 1, by omega⟩
    have hn := h.1
    have hlt : p < S.length := by omega
    have he : S[p]? = some S[p] := List.getElem?_eq_getElem hlt
    generalize S[p] = e at he
    have hen : e < n := hS e (List.mem_of_getElem? he)
    have hv : σ 26 p = nI e := h1 p e he (by omega)
    rw [f_X5_insert_L5, if_neg (nI_nle (Nat.succ_pos p) (show p + 1 < 2 ^ 31 by omega)), nI_pred]
    simp only [ld24 (show p < 24 by omega), hv, (p_ah (h.C fc) k e hk hen).1, bi_ok, ky_fC fc, sd24 (show p + 1 < 24 by omega), pk_m1]
    by_cases q : ky σ0 k < ky σ0 e
    · rw [if_pos q]
      simp only [o10, if_false, reduceIte]
      obtain ⟨σ', g1, g2, g3, g4⟩ := ih f (ss σ 26 (p + 1) (nI e)) (fc.st (by decide)) (by omega) (by omega) (by rw [ss_c _ (by decide)]; exact ht) (fun i x hi hq => by rw [ss_ne _ _ _ _ _ (by omega)]; exact h1 i x hi (by omega)) (fun i x hi hq => by
          rw [ss_if]
          by_cases z : i = p
          · subst z
            rw [if_pos rfl]
            rw [he] at hi; rw [Option.some.inj hi]
          · rw [if_neg (by omega)]; exact h2 i x hi (by omega)) (fun x hx => by
          rw [List.drop_eq_getElem_cons hlt] at hx
          rcases List.mem_cons.mp hx with hx | hx
          · rw [List.getElem?_eq_getElem hlt] at he
            rw [hx, Option.some.inj he]; exact q
          · exact h3 x hx)
      exact ⟨σ', g1, g2, g3, fun c c1 c2 => by rw [g4 c c1 c2, ss_c _ c1]⟩
    · rw [if_neg q]
      simp only [eq_self, if_true, reduceIte]
      unfold f_X5_insert_B48
      rw [sd24 (by omega)]
      simp only [lf_ok, sf_ok]
      refine ⟨_, rfl, ?_, ?_, ?_⟩
      · rw [ins_eq (ky σ0) k S (p + 1) h3 (Or.inr ⟨e, he, q⟩) hp]
        intro i y hy
        rw [ss_c _ (by decide), Nat.zero_add, ss_if]
        rcases mid_get S k (p + 1) i y hp hy with ⟨z, e1⟩ | ⟨z, e1⟩ | ⟨z, e1⟩
        · rw [if_neg (by omega)]; exact h1 i y e1 z
        · rw [if_pos z, e1]
        · rw [if_neg (by omega)]
          have := h2 (i - 1) y e1 (by omega)
          rwa [show i - 1 + 1 = i by omega] at this
      · rw [ss_same, ss_c _ (by decide), ht, nI_1]
      · intro c c1 c2
        rw [ss_c _ c2, ss_c _ c1]
theorem p_ins {n ln : Nat} {σ0 τ : St} (h : B0 n ln σ0 τ) (k : Nat) (hk : k < n) (S : List Nat) (hS : ∀ x ∈ S, x < n) (hT : S.length < 24) (σ : St) (fc : fC σ0 σ) (ht : σ 5 10 = nI S.length) (hr : rep (σ 26) 0 S) : ∃ σ' : St, f_X5_insert (nI k) σ = some σ' ∧ rep (σ' 26) 0 (ins (ky σ0) k S) ∧ σ' 5 10 = nI (S.length + 1) ∧ (∀ c, c ≠ 26 → c ≠ 5 → σ' c = σ c) := by
  unfold f_X5_insert
  rw [lf_ok, ht]
  exact p_insL h k hk S hS hT S.length 64 σ fc (Nat.le_refl _) (by omega) ht (fun i x hi _ => by have := hr i x hi; rwa [Nat.zero_add] at this) (fun i x hi hq => absurd (List.getElem?_eq_some_iff.mp hi).1 (by omega)) (fun e he => by rw [List.drop_length] at he; cases he)
/-! and in the reference's -/
theorem nI_24 (h i : Nat) : (24 : Int32) * nI h + nI i = nI (24 * h + i) := by
  rw [show (24 : Int32) = nI 24 from rfl, pk_mul, nI_add]
theorem p_beh {n : Nat} (hn : n ≤ 24) (w k : Nat) (hw : w < n) (S : List Nat) (hT : S.length < 24) (τ : St) (ht : τ 18 w = nI S.length) (hr : rep (τ 19) (24 * w) S) : ∃ τ' : St, f_X7_comesBehind (nI w) (nI k) τ = some τ' ∧ rep (τ' 19) (24 * w) (S ++ [k]) ∧ τ' 18 w = nI (S.length + 1) ∧ (∀ j, j ≠ w → τ' 18 j = τ 18 j) ∧ (∀ j, j < 24 * w ∨ 24 * w + 24 ≤ j → τ' 19 j = τ 19 j) ∧ (∀ c, c ≠ 18 → c ≠ 19 → τ' c = τ c) := by
  unfold f_X7_comesBehind
  simp only [ld24 (show w < 24 by omega), ht, nI_24, sd576 (show 24 * w + S.length < 576 by omega), sd24 (show w < 24 by omega), nI_1, ss_c τ (show 18 ≠ 19 by decide)]
  refine ⟨_, rfl, ?_, ?_, ?_, ?_, ?_⟩
  · rw [ss_c _ (by decide)]
    exact rep_push hr (fun i hi => by rw [ss_ne _ _ _ _ _ (by omega)]) (by rw [ss_same])
  · rw [ss_same]
  · intro j hj
    rw [ss_ne _ _ _ _ _ hj, ss_c _ (by decide)]
  · intro j hj
    rw [ss_c _ (by decide), ss_ne _ _ _ _ _ (by omega)]
  · intro c c1 c2
    rw [ss_c _ c1, ss_c _ c2]
theorem p_undL {n ln : Nat} {σ τ0 : St} (h : B0 n ln σ τ0) (w k : Nat) (hw : w < n) (hk : k < n) (S : List Nat) (hS : ∀ x ∈ S, x < n) (hT : S.length < 24) : ∀ (p f : Nat) (τ : St), fM τ0 τ → p ≤ S.length → p < f → rep (τ 19) (24 * w) (S.take p ++ k :: S.drop p) → (∀ e ∈ S.drop p, ky σ k < ky σ e) → ∃ τ' : St, f_X7_comesUnder_L15 f (nI w) (nI k) (nI p) τ = some τ' ∧ rep (τ' 19) (24 * w) (ins (ky σ) k S) ∧ (∀ j, j < 24 * w ∨ 24 * w + 24 ≤ j → τ' 19 j = τ 19 j) ∧ (∀ c, c ≠ 19 → τ' c = τ c) := by
  intro p
  induction p with
  | zero =>
    intro f τ fm hp hf hr h3
    obtain ⟨f, rfl⟩ : ∃ g, f = g + 1 := ⟨f - 1, by omega⟩
    rw [f_X7_comesUnder_L15, if_pos (show nI 0 ≤ 0 by decide)]
    exact ⟨τ, rfl, by rw [ins_eq (ky σ) k S 0 h3 (Or.inl rfl) hp]; exact hr, fun _ _ => rfl, fun _ _ => rfl⟩
  | succ p ih =>
    intro f τ fm hp hf hr h3
    obtain ⟨f, rfl⟩ : ∃ g, f = g + 1 := ⟨f - 1, by omega⟩
    have hn := h.1
    have hlt : p < S.length := by omega
    have he : S[p]? = some S[p] := List.getElem?_eq_getElem hlt
    generalize S[p] = e at he
    have hen : e < n := hS e (List.mem_of_getElem? he)
    have hmid : (S.take (p + 1) ++ k :: S.drop (p + 1))[p]? = some e := by
      rw [List.getElem?_append_left (by simp; omega), List.getElem?_take_of_lt (by omega), he]
    have hv : τ 19 (24 * w + p) = nI e := hr p e hmid
    rw [f_X7_comesUnder_L15, if_neg (nI_nle (Nat.succ_pos p) (show p + 1 < 2 ^ 31 by omega))]
    simp only [nI_24, show 24 * w + (p + 1) = (24 * w + p) + 1 by omega, nI_pred, ld576 (show 24 * w + p < 576 by omega), hv, (p_ah (h.M fm) k e hk hen).2, bi_ok, sd576 (show 24 * w + p + 1 < 576 by omega), sd576 (show 24 * w + p < 576 by omega), pk_m1]
    by_cases q : ky σ k < ky σ e
    · rw [if_pos q]
      simp only [o10, if_false, reduceIte]
      obtain ⟨τ', g1, g2, g3, g4⟩ := ih f (ss (ss τ 19 (24 * w + p + 1) (nI e)) 19 (24 * w + p) (nI k)) ((fm.st (by decide)).st (by decide)) (by omega) (by omega) (fun i y hy => by
          rw [ss_if, ss_if]
          rcases mid_get S k p i y (by omega) hy with ⟨z, e1⟩ | ⟨z, e1⟩ | ⟨z, e1⟩
          · rw [if_neg (by omega), if_neg (by omega)]
            refine hr i y ?_
            rw [List.getElem?_append_left (by simp; omega), List.getElem?_take_of_lt (by omega), e1]
          · rw [if_pos (by omega), e1]
          · rw [if_neg (by omega)]
            by_cases z2 : i = p + 1
            · subst z2
              rw [if_pos (by omega)]
              rw [show p + 1 - 1 = p by omega, he] at e1
              rw [Option.some.inj e1]
            · rw [if_neg (by omega)]
              refine hr i y ?_
              rw [List.getElem?_append_right (by simp; omega)]
              rw [show i - (S.take (p + 1)).length = (i - p - 2) + 1 by simp; omega, List.getElem?_cons_succ, List.getElem?_drop, show p + 1 + (i - p - 2) = i - 1 by omega, e1]) (fun x hx => by
          rw [List.drop_eq_getElem_cons hlt] at hx
          rcases List.mem_cons.mp hx with hx | hx
          · rw [List.getElem?_eq_getElem hlt] at he
            rw [hx, Option.some.inj he]; exact q
          · exact h3 x hx)
      refine ⟨τ', g1, g2, fun j hj => ?_, fun c c1 => by rw [g4 c c1, ss_c _ c1, ss_c _ c1]⟩
      rw [g3 j hj, ss_ne _ _ _ _ _ (by omega), ss_ne _ _ _ _ _ (by omega)]
    · rw [if_neg q]
      simp only [eq_self, if_true, reduceIte]
      exact ⟨τ, rfl, by rw [ins_eq (ky σ) k S (p + 1) h3 (Or.inr ⟨e, he, q⟩) hp]; exact hr, fun _ _ => rfl, fun _ _ => rfl⟩
theorem p_und {n ln : Nat} {σ τ0 : St} (h : B0 n ln σ τ0) (w k : Nat) (hw : w < n) (hk : k < n) (S : List Nat) (hS : ∀ x ∈ S, x < n) (hT : S.length < 24) (τ : St) (fm : fM τ0 τ) (ht : τ 18 w = nI S.length) (hr : rep (τ 19) (24 * w) S) : ∃ τ' : St, f_X7_comesUnder (nI w) (nI k) τ = some τ' ∧ rep (τ' 19) (24 * w) (ins (ky σ) k S) ∧ τ' 18 w = nI (S.length + 1) ∧ (∀ j, j ≠ w → τ' 18 j = τ 18 j) ∧ (∀ j, j < 24 * w ∨ 24 * w + 24 ≤ j → τ' 19 j = τ 19 j) ∧ (∀ c, c ≠ 18 → c ≠ 19 → τ' c = τ c) := by
  obtain ⟨τ1, g1, g2, g3, g4, g5, g6⟩ := p_beh h.1 w k hw S hT τ ht hr
  have fm1 : fM τ0 τ1 := ⟨by rw [g6 0 (by decide) (by decide)]; exact fm.1, by rw [g6 0 (by decide) (by decide)]; exact fm.2.1, fun c h1 h2 => by rw [g6 c (by omega) (by omega)]; exact fm.2.2 c h1 h2⟩
  have hn := h.1
  unfold f_X7_comesUnder
  simp only [g1, bs_ok, ld24 (show w < 24 by omega), g3, nI_pred]
  obtain ⟨τ2, k1, k2, k3, k4⟩ := p_undL h w k hw hk S hS hT S.length 64 τ1 fm1 (Nat.le_refl _) (by omega) (by rw [List.take_length, List.drop_length]; exact g2) (fun e he => by rw [List.drop_length] at he; cases he)
  refine ⟨τ2, k1, k2, by rw [k4 18 (by decide)]; exact g3, fun j hj => by rw [k4 18 (by decide)]; exact g4 j hj, fun j hj => by rw [k3 j hj]; exact g5 j hj, fun c c1 c2 => by rw [k4 c c2]; exact g6 c c1 c2⟩
